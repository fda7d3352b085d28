section
variable {tt : Nat → Tm} {n N m : Nat} {ar : Nat → Int32} {sz : Nat → Nat} {cc pc : Nat → Nat} {pp : Nat → Nat → Nat} {T_count : Int32} {T_heads T_places T_olders T_sizes : Nat → Int32} {T_withins : Nat → Int64} {T_newest : Nat → Int32} {Q_all Q_thrown : Int32} {Q_kinds Q_which Q_firsts Q_seconds Q_thirds Q_nexts Q_heads Q_names Q_variables Q_holes Q_sizes : Nat → Int32}
variable {S_count : Int32} {S_premises S_premiseCounts S_conclusions : Nat → Int32} {Q_statements : Int32} {Q_premises Q_counts Q_conclusions : Nat → Int32} {H_kind H_subject H_count : Int32} {H_statementRow H_firstRow H_secondRow : Nat → Int32} {Q_hitKind Q_hits : Int32} {Q_hitOf Q_hitOne Q_hitTwo Q_hitTerms : Nat → Int32} {O_out : Nat → Int64}
variable {Q_places : Nat → Int32}
theorem qnames_loop (hn : n ≤ 100) (hq : QK tt n sz Q_names Q_variables Q_holes Q_sizes) (S : RS tt n m cc pc pp S_count S_premises S_premiseCounts S_conclusions Q_statements Q_premises Q_counts Q_conclusions) {s : Nat} (hs : s < m) : ∀ d, d ≤ pc s → ∀ fuel, d < fuel → ∀ w : Int32, (∀ i, i < 32 → (w.toBitVec.getLsbD i = true ↔ (i < 30 ∧ (std (tt (cc s)) i ∨ inPto tt pp s (pc s - d) i)))) →
    ∃ w', f_Q_namesOf_L14 Q_names Q_conclusions Q_premises Q_counts fuel (nI s) w (nI (pc s - d)) = some w' ∧ ∀ i, i < 32 → (w'.toBitVec.getLsbD i = true ↔ (i < 30 ∧ (std (tt (cc s)) i ∨ inP tt pc pp s i))) := by
  have h4 := (S.2.2.2 s hs).2.1.2.2
  have hm := S.2.2.1
  have hcq := (S.2.2.2 s hs).2.1.2.1
  intro d
  induction d with
  | zero =>
    intro _ fuel hf w hw
    obtain ⟨f, rfl⟩ : ∃ f, fuel = f + 1 := ⟨fuel - 1, by omega⟩
    refine ⟨w, ?_, hw⟩
    rw [f_Q_namesOf_L14, gd_t (ixb_t (by omega) (by omega)), nI_clamp (by omega), hcq, if_pos ((nI_leI (by omega) (by omega)).mpr (by omega))]
  | succ d ih =>
    intro hd fuel hf w hw
    obtain ⟨f, rfl⟩ : ∃ f, fuel = f + 1 := ⟨fuel - 1, by omega⟩
    obtain ⟨k, hk⟩ : ∃ k, k = pc s - (d + 1) := ⟨_, rfl⟩
    obtain ⟨-, -, hpn, -⟩ := (S.2.2.2 s hs).2.2 k (by omega)
    have hv := (hq (pp s k) hpn).1
    rw [← hk] at hw
    obtain ⟨w', g1, g2⟩ := ih (by omega) f (by omega) (w ||| Q_names (pp s k)) (by
      intro i hi
      have hvi := hv i hi
      rw [Nat.zero_add] at hvi
      rw [show pc s - d = k + 1 by omega, inPto_s, Int32.toBitVec_or, BitVec.getLsbD_or, Bool.or_eq_true, hw i hi, hvi]
      constructor
      · rintro (⟨a, b | b⟩ | ⟨a, b⟩)
        · exact ⟨a, Or.inl b⟩
        · exact ⟨a, Or.inr (Or.inl b)⟩
        · exact ⟨a, Or.inr (Or.inr b)⟩
      · rintro ⟨a, b | b | b⟩
        · exact Or.inl ⟨a, Or.inl b⟩
        · exact Or.inl ⟨a, Or.inr b⟩
        · exact Or.inr ⟨a, b⟩)
    refine ⟨w', ?_, g2⟩
    rw [← hk, f_Q_namesOf_L14, gd_t (ixb_t (by omega) (by omega)), nI_clamp (by omega), hcq, if_neg (nI_ge (by omega) (by omega)), qpremise_eq S hs (by omega), bd_s, gd_t (ixb_t (by omega) (by omega)), nmE, nmE, nI_1, nI_clamp (by omega)]
    rw [show pc s - d = k + 1 by omega] at g1
    exact g1
theorem qnames_eq (hn : n ≤ 100) (hq : QK tt n sz Q_names Q_variables Q_holes Q_sizes) (S : RS tt n m cc pc pp S_count S_premises S_premiseCounts S_conclusions Q_statements Q_premises Q_counts Q_conclusions) {s : Nat} (hs : s < m) : ∃ w, f_Q_namesOf Q_names Q_conclusions Q_premises Q_counts (nI s) = some w ∧ ∀ i, i < 32 → (w.toBitVec.getLsbD i = true ↔ (i < 30 ∧ (std (tt (cc s)) i ∨ inP tt pc pp s i))) := by
  unfold f_Q_namesOf
  have h4 := (S.2.2.2 s hs).2.1.2.2
  have hm := S.2.2.1
  obtain ⟨-, e2, e3, -⟩ := (S.2.2.2 s hs).1
  have hv := (hq (cc s) e3).1
  obtain ⟨w', h1, h2⟩ := qnames_loop hn hq S hs (pc s) (Nat.le_refl _) FU (by unfold FU; omega) (Q_names (cc s)) (by
    intro i hi
    have hvi := hv i hi
    rw [Nat.zero_add] at hvi
    rw [Nat.sub_self, hvi]
    constructor
    · rintro ⟨a, b⟩; exact ⟨a, Or.inl b⟩
    · rintro ⟨a, b | ⟨k, h, -⟩⟩
      · exact ⟨a, b⟩
      · omega)
  rw [Nat.sub_self, nI_0] at h1
  rw [gd_t (ixb_t (by omega) (by omega)), nI_clamp (by omega), e2, gd_t (ixb_t (by omega) (by omega)), nmE, nI_clamp (by omega)]
  exact ⟨w', h1, h2⟩
theorem name_bits : ∀ i : Nat, i < 64 → (1073741823 : Int64).toBitVec.getLsbD i = decide (i < 30) := by decide +kernel
theorem both_share (ct : CT tt n N sz T_count T_heads T_places T_olders T_sizes T_withins T_newest) (hn : n ≤ 100) (hq : QK tt n sz Q_names Q_variables Q_holes Q_sizes) (S : RS tt n m cc pc pp S_count S_premises S_premiseCounts S_conclusions Q_statements Q_premises Q_counts Q_conclusions) {s g : Nat} (hs : s < m) (hg : g < n) {v : Int64} (hv : wm v (tt g)) : ∃ (r9 : Int64) (w : Int32) (a b : Nat), f_S_within T_count N T_withins S_count S_premises S_premiseCounts S_conclusions (nI s) = some r9 ∧ f_JL_bitCount ((r9 &&& 1073741823) ||| (v &&& 1073741823)) = some (nI a) ∧ f_JL_bitCount ((r9 &&& 1073741823) &&& (v &&& 1073741823)) = some (nI b) ∧
    f_Q_namesOf Q_names Q_conclusions Q_premises Q_counts (nI s) = some w ∧ f_Q_many (w &&& Q_names g) = some (nI b) ∧ f_Q_many (w ||| Q_names g) = some (nI a) := by
  obtain ⟨x, a1, a2⟩ := prem_eq ct S hs
  obtain ⟨w, b1, b2⟩ := qnames_eq hn hq S hs
  obtain ⟨-, -, e3, -⟩ := (S.2.2.2 s hs).1
  obtain ⟨u, c1, c2⟩ := within_eq ct (x := nI (cc s)) (T := tt (cc s)) (Or.inr ⟨_, e3, rfl, rfl⟩)
  have hw9 : f_S_within T_count N T_withins S_count S_premises S_premiseCounts S_conclusions (nI s) = some (x ||| u) := by
    unfold f_S_within
    rw [a1, bd_s, sconcl_eq S hs, bd_s, c1, bd_s]
  have hqg := (hq g hg).1
  have b9 : ∀ i, i < 64 → ((x ||| u) &&& 1073741823).toBitVec.getLsbD i = ((x ||| u).toBitVec.getLsbD i && decide (i < 30)) := fun i hi => by rw [Int64.toBitVec_and, BitVec.getLsbD_and, name_bits i hi]
  have bv : ∀ i, i < 64 → (v &&& 1073741823).toBitVec.getLsbD i = (v.toBitVec.getLsbD i && decide (i < 30)) := fun i hi => by rw [Int64.toBitVec_and, BitVec.getLsbD_and, name_bits i hi]
  have s9 : ∀ i, i < 30 → ((x ||| u) &&& 1073741823).toBitVec.getLsbD i = w.toBitVec.getLsbD i := by
    intro i hi
    rw [b9 i (by omega), decide_eq_true hi, Bool.and_true]
    apply Bool.eq_iff_iff.mpr
    rw [b2 i (by omega), Int64.toBitVec_or, BitVec.getLsbD_or, Bool.or_eq_true, a2 i (by omega), c2 i (by omega)]
    constructor
    · rintro (h | h)
      · exact ⟨hi, Or.inr h⟩
      · exact ⟨hi, Or.inl h⟩
    · rintro ⟨-, h | h⟩
      · exact Or.inr h
      · exact Or.inl h
  have sv : ∀ i, i < 30 → (v &&& 1073741823).toBitVec.getLsbD i = (Q_names g).toBitVec.getLsbD i := by
    intro i hi
    rw [bv i (by omega), decide_eq_true hi, Bool.and_true]
    apply Bool.eq_iff_iff.mpr
    have := hqg i (by omega)
    rw [Nat.zero_add] at this
    rw [hv i (by omega), this]
    exact ⟨fun h => ⟨hi, h⟩, fun h => h.2⟩
  have z9 : ∀ i, 30 ≤ i → i < 64 → ((x ||| u) &&& 1073741823).toBitVec.getLsbD i = false := fun i h1 h2 => by rw [b9 i h2, decide_eq_false (by omega), Bool.and_false]
  have zv : ∀ i, 30 ≤ i → i < 64 → (v &&& 1073741823).toBitVec.getLsbD i = false := fun i h1 h2 => by rw [bv i h2, decide_eq_false (by omega), Bool.and_false]
  refine ⟨x ||| u, w, cnt (fun i => (w ||| Q_names g).toBitVec.getLsbD i) 30, cnt (fun i => (w &&& Q_names g).toBitVec.getLsbD i) 30, hw9, ?_, ?_, b1, many_eq _, many_eq _⟩
  · rw [bitCount_eq]
    refine congrArg (fun c => some (nI c)) ?_
    rw [cnt_64_30]
    · refine cnt_congr fun i hi => ?_
      show (((x ||| u) &&& 1073741823) ||| (v &&& 1073741823)).toBitVec.getLsbD i = (w ||| Q_names g).toBitVec.getLsbD i
      rw [Int64.toBitVec_or, BitVec.getLsbD_or, s9 i hi, sv i hi, Int32.toBitVec_or, BitVec.getLsbD_or]
    · intro i h1 h2
      show (((x ||| u) &&& 1073741823) ||| (v &&& 1073741823)).toBitVec.getLsbD i = false
      rw [Int64.toBitVec_or, BitVec.getLsbD_or, z9 i h1 h2, zv i h1 h2]
      rfl
  · rw [bitCount_eq]
    refine congrArg (fun c => some (nI c)) ?_
    rw [cnt_64_30]
    · refine cnt_congr fun i hi => ?_
      show (((x ||| u) &&& 1073741823) &&& (v &&& 1073741823)).toBitVec.getLsbD i = (w &&& Q_names g).toBitVec.getLsbD i
      rw [Int64.toBitVec_and, BitVec.getLsbD_and, s9 i hi, sv i hi, Int32.toBitVec_and, BitVec.getLsbD_and]
    · intro i h1 h2
      show (((x ||| u) &&& 1073741823) &&& (v &&& 1073741823)).toBitVec.getLsbD i = false
      rw [Int64.toBitVec_and, BitVec.getLsbD_and, z9 i h1 h2]
      rfl
theorem rank_in (thr : Int32) {c s g : Nat} (hc : c < 30) (a b : Int32) (K : Int32 → Int32 → Int32 → (Nat → Int32) → (Nat → Int32) → (Nat → Int32) → Int32 → Int32 → Option (Int32 × Int32 × Int32 × Int32 × (Nat → Int32) × (Nat → Int32) × (Nat → Int32))) :
    ∀ k, k ≤ c → ∀ fuel fuel', k < fuel → k < fuel' → ∀ r0 r1 r2 ho h1 h2 : Nat → Int32, r0 k = nI s → r1 k = b → r2 k = a → (∀ i, i ≤ c → i ≠ k → r0 i = ho i ∧ r1 i = h1 i ∧ r2 i = h2 i) →
    ∃ r0' r1' r2' ho' h1' h2', f_H_addByShare_L13 fuel (nI (c + 1)) r0 r1 r2 (nI s) b a (nI k) = some (nI (c + 1), r0', r1', r2') ∧
      f_Q_rank_L86 Q_all Q_statements Q_names Q_holes Q_conclusions Q_premises Q_counts K fuel' thr 3 (nI c) ho h1 h2 (nI g) (nI s) b a (nI k) = K thr 3 (nI (c + 1)) ho' h1' h2' (nI g) (nI (s + 1)) ∧ ∀ i, i < c + 1 → r0' i = ho' i ∧ r1' i = h1' i ∧ r2' i = h2' i := by
  have hB : ∀ k, k ≤ c → ∀ ho h1 h2 : Nat → Int32, f_Q_rank_B171 Q_all Q_statements Q_names Q_holes Q_conclusions Q_premises Q_counts K thr 3 (nI c) ho h1 h2 (nI g) (nI s) b a (nI k) = K thr 3 (nI (c + 1)) (upd ho k (nI s)) (upd h1 k b) (upd h2 k a) (nI g) (nI (s + 1)) := by
    intro k hk ho h1 h2
    unfold f_Q_rank_B171
    rw [gd_t (ixb_t (by omega) (by omega)), nmE, gd_t (ixb_t (by omega) (by omega)), nmE, gd_t (ixb_t (by omega) (by omega)), nmE, nmE, nmE, nI_clamp (by omega), nI_1, nI_1]
  have hrel : ∀ k, k ≤ c → ∀ r0 r1 r2 ho h1 h2 : Nat → Int32, r0 k = nI s → r1 k = b → r2 k = a → (∀ i, i ≤ c → i ≠ k → r0 i = ho i ∧ r1 i = h1 i ∧ r2 i = h2 i) → ∀ i, i < c + 1 → r0 i = upd ho k (nI s) i ∧ r1 i = upd h1 k b i ∧ r2 i = upd h2 k a i := by
    intro k hk r0 r1 r2 ho h1 h2 e0 e1 e2 hr i hi
    by_cases e : i = k
    · rw [e, up_s, up_s, up_s]; exact ⟨e0, e1, e2⟩
    · rw [up_n e, up_n e, up_n e]; exact hr i (by omega) e
  intro k
  induction k with
  | zero =>
    intro hk fuel fuel' hf hf' r0 r1 r2 ho h1 h2 e0 e1 e2 hr
    obtain ⟨f, rfl⟩ : ∃ f, fuel = f + 1 := ⟨fuel - 1, by omega⟩
    obtain ⟨f', rfl⟩ : ∃ f, fuel' = f + 1 := ⟨fuel' - 1, by omega⟩
    refine ⟨r0, r1, r2, _, _, _, ?_, ?_, hrel 0 hk r0 r1 r2 ho h1 h2 e0 e1 e2 hr⟩
    · rw [f_H_addByShare_L13, if_pos (show nI 0 ≤ (0 : Int32) by decide)]
    · rw [f_Q_rank_L86, if_pos (show nI 0 ≤ (0 : Int32) by decide)]
      exact hB 0 hk ho h1 h2
  | succ k ih =>
    intro hk fuel fuel' hf hf' r0 r1 r2 ho h1 h2 e0 e1 e2 hr
    obtain ⟨f, rfl⟩ : ∃ f, fuel = f + 1 := ⟨fuel - 1, by omega⟩
    obtain ⟨f', rfl⟩ : ∃ f, fuel' = f + 1 := ⟨fuel' - 1, by omega⟩
    have c0 : ¬ nI (k + 1) ≤ (0 : Int32) := (nI_ge (by omega) (by omega) : ¬ nI (k + 1) ≤ nI 0)
    obtain ⟨q0, q1, q2⟩ := hr k (by omega) (by omega)
    have hput : ∀ (j : Nat), j < 30 → ∀ (A B C : Nat → Int32) (x y z : Int32), f_H_put A B C (nI j) x y z = some (upd A j x, upd B j y, upd C j z) := by
      intro j hj A B C x y z
      unfold f_H_put
      rw [gd_t (ixb_t (by omega) (by omega)), nmE, gd_t (ixb_t (by omega) (by omega)), nmE, gd_t (ixb_t (by omega) (by omega)), nmE, nI_clamp (by omega)]
    have hX : f_H_addByShare_L13 (f + 1) (nI (c + 1)) r0 r1 r2 (nI s) b a (nI (k + 1)) = if b * r2 k ≤ r1 k * a then some (nI (c + 1), r0, r1, r2) else f_H_addByShare_L13 f (nI (c + 1)) (upd (upd r0 (k + 1) (r0 k)) k (nI s)) (upd (upd r1 (k + 1) (r1 k)) k b) (upd (upd r2 (k + 1) (r2 k)) k a) (nI s) b a (nI k) := by
      rw [f_H_addByShare_L13, if_neg c0, if_neg (nI_ge (by omega) (by omega)), nI_pred, gd_t (ixb_t (by omega) (by omega)), gd_t (ixb_t (by omega) (by omega)), nI_clamp (by omega)]
      rw [gd_t (ixb_t (by omega) (by omega)), gd_t (ixb_t (by omega) (by omega)), gd_t (ixb_t (by omega) (by omega)), hput (k + 1) (by omega), bd_s, hput k (by omega), bd_s, nmE, nI_m1]
    have hQ : f_Q_rank_L86 Q_all Q_statements Q_names Q_holes Q_conclusions Q_premises Q_counts K (f' + 1) thr 3 (nI c) ho h1 h2 (nI g) (nI s) b a (nI (k + 1)) = if b * h2 k ≤ h1 k * a then f_Q_rank_B171 Q_all Q_statements Q_names Q_holes Q_conclusions Q_premises Q_counts K thr 3 (nI c) ho h1 h2 (nI g) (nI s) b a (nI (k + 1)) else f_Q_rank_L86 Q_all Q_statements Q_names Q_holes Q_conclusions Q_premises Q_counts K f' thr 3 (nI c) (upd ho (k + 1) (ho k)) (upd h1 (k + 1) (h1 k)) (upd h2 (k + 1) (h2 k)) (nI g) (nI s) b a (nI k) := by
      rw [f_Q_rank_L86, if_neg c0, nI_pred, gd_t (ixb_t (by omega) (by omega)), gd_t (ixb_t (by omega) (by omega)), nI_clamp (by omega)]
      simp (disch := omega) only [ixb_t, gd_tt]
      simp (disch := omega) only [nmE, nI_clamp, nI_m1]
    rw [hX, hQ, ← q1, ← q2]
    by_cases cd : b * r2 k ≤ r1 k * a
    · rw [if_pos cd, if_pos cd, hB (k + 1) hk]
      exact ⟨r0, r1, r2, _, _, _, rfl, rfl, hrel (k + 1) hk r0 r1 r2 ho h1 h2 e0 e1 e2 hr⟩
    · rw [if_neg cd, if_neg cd]
      refine ih (by omega) f f' (by omega) (by omega) _ _ _ _ _ _ (up_s _ _ _) (up_s _ _ _) (up_s _ _ _) (fun i hi hne => ?_)
      by_cases e : i = k + 1
      · have hk1 : k + 1 ≠ k := by omega
        rw [e, up_s, up_s, up_s]
        refine ⟨?_, ?_, ?_⟩
        · rw [up_n hk1, up_s, q0]
        · rw [up_n hk1, up_s]
        · rw [up_n hk1, up_s]
      · rw [up_n hne, up_n e, up_n hne, up_n e, up_n hne, up_n e, up_n e, up_n e, up_n e]
        exact hr i hi e
theorem rank_loop (R : RT tt n N sz ar T_count T_heads T_places T_olders T_sizes T_withins T_newest Q_all Q_kinds Q_which Q_firsts Q_seconds Q_thirds Q_nexts Q_heads Q_names Q_variables Q_holes Q_sizes) (S : RS tt n m cc pc pp S_count S_premises S_premiseCounts S_conclusions Q_statements Q_premises Q_counts Q_conclusions) {g : Nat} (hg : g < n) {v : Int64} (hv : wm v (tt g)) (thr : Int32) : ∀ d, d ≤ m → ∀ fuel fuel', d < fuel → d < fuel' → ∀ r0 r1 r2 ho h1 h2 : Nat → Int32, (∀ i, i < m - d → r0 i = ho i ∧ r1 i = h1 i ∧ r2 i = h2 i) →
    ∃ r0' r1' r2' ho' h1' h2', f_X_rank_L30 T_count N T_withins S_count S_premises S_premiseCounts S_conclusions fuel 3 (nI g) (nI (m - d)) r0 r1 r2 (v &&& 1073741823) (nI (m - d)) = some (0, nI m, 3, nI g, nI m, r0', r1', r2') ∧
      f_Q_rank_L26 Q_all Q_statements Q_names Q_holes Q_conclusions Q_premises Q_counts fuel' thr 3 (nI (m - d)) ho h1 h2 (nI g) (nI (m - d)) = some (nI m, thr, 3, nI m, ho', h1', h2') ∧ ∀ i, i < m → r0' i = ho' i ∧ r1' i = h1' i ∧ r2' i = h2' i := by
  have hm := S.2.2.1
  obtain ⟨w, hn, ct, qt, hq⟩ := R
  have hcnt : f_S_count S_count = some (nI m) := by unfold f_S_count; rw [S.1]
  intro d
  induction d with
  | zero =>
    intro _ fuel fuel' hf hf' r0 r1 r2 ho h1 h2 hr
    obtain ⟨f, rfl⟩ : ∃ f, fuel = f + 1 := ⟨fuel - 1, by omega⟩
    obtain ⟨f', rfl⟩ : ∃ f, fuel' = f + 1 := ⟨fuel' - 1, by omega⟩
    refine ⟨r0, r1, r2, ho, h1, h2, ?_, ?_, hr⟩
    · rw [f_X_rank_L30, hcnt, bd_s, if_pos ((nI_leI (by omega) (by omega)).mpr (by omega))]
      unfold f_H_count
      rw [bd_s, Nat.sub_zero]
    · rw [f_Q_rank_L26, S.2.1, if_pos ((nI_leI (by omega) (by omega)).mpr (by omega)), Nat.sub_zero]
  | succ d ih =>
    intro hd fuel fuel' hf hf' r0 r1 r2 ho h1 h2 hr
    obtain ⟨f, rfl⟩ : ∃ f, fuel = f + 1 := ⟨fuel - 1, by omega⟩
    obtain ⟨f', rfl⟩ : ∃ f, fuel' = f + 1 := ⟨fuel' - 1, by omega⟩
    obtain ⟨s, hs⟩ : ∃ s, s = m - (d + 1) := ⟨_, rfl⟩
    have hsm : s < m := by omega
    obtain ⟨r9, x, a, b, o1, o2, o3, o4, o5, o6⟩ := both_share ct hn hq S hsm hg hv
    rw [← hs] at hr ⊢
    have hstep : ∀ a' : Int32, ∃ r0' r1' r2' ho' h1' h2', f_H_addByShare (nI s) r0 r1 r2 (nI s) (nI b) a' = some (nI (s + 1), r0', r1', r2') ∧
      f_Q_rank_L86 Q_all Q_statements Q_names Q_holes Q_conclusions Q_premises Q_counts (f_Q_rank_L26 Q_all Q_statements Q_names Q_holes Q_conclusions Q_premises Q_counts f') FU thr 3 (nI s) ho h1 h2 (nI g) (nI s) (nI b) a' (nI s) = f_Q_rank_L26 Q_all Q_statements Q_names Q_holes Q_conclusions Q_premises Q_counts f' thr 3 (nI (s + 1)) ho' h1' h2' (nI g) (nI (s + 1)) ∧ ∀ i, i < s + 1 → r0' i = ho' i ∧ r1' i = h1' i ∧ r2' i = h2' i := by
      intro a'
      unfold f_H_addByShare
      rw [hadd_eq (by omega), bd_s]
      exact rank_in thr (c := s) (by omega) a' (nI b) _ s (Nat.le_refl _) FU FU (by unfold FU; omega) (by unfold FU; omega) _ _ _ ho h1 h2 (up_s _ _ _) (up_s _ _ _) (up_s _ _ _) (fun i hi hne => by
        show upd r0 s (nI s) i = ho i ∧ upd r1 s (nI b) i = h1 i ∧ upd r2 s a' i = h2 i
        rw [up_n hne, up_n hne, up_n hne]; exact hr i (by omega))
    have hX : f_X_rank_L30 T_count N T_withins S_count S_premises S_premiseCounts S_conclusions (f + 1) 3 (nI g) (nI s) r0 r1 r2 (v &&& 1073741823) (nI s) = if nI a = 0 then ((f_H_addByShare (nI s) r0 r1 r2 (nI s) (nI b) 1).bind fun r14 => nm (nI s + 1) fun x15 => f_X_rank_L30 T_count N T_withins S_count S_premises S_premiseCounts S_conclusions f 3 (nI g) r14.1 r14.2.1 r14.2.2.1 r14.2.2.2 (v &&& 1073741823) x15) else ((f_H_addByShare (nI s) r0 r1 r2 (nI s) (nI b) (nI a)).bind fun r14 => nm (nI s + 1) fun x15 => f_X_rank_L30 T_count N T_withins S_count S_premises S_premiseCounts S_conclusions f 3 (nI g) r14.1 r14.2.1 r14.2.2.1 r14.2.2.2 (v &&& 1073741823) x15) := by
      rw [f_X_rank_L30, hcnt, bd_s, if_neg (nI_ge hsm (by omega)), o1, bd_s, nmE, o2, bd_s, o3, bd_s]
    have hQ : f_Q_rank_L26 Q_all Q_statements Q_names Q_holes Q_conclusions Q_premises Q_counts (f' + 1) thr 3 (nI s) ho h1 h2 (nI g) (nI s) = if nI a = 0 then f_Q_rank_L86 Q_all Q_statements Q_names Q_holes Q_conclusions Q_premises Q_counts (f_Q_rank_L26 Q_all Q_statements Q_names Q_holes Q_conclusions Q_premises Q_counts f') FU thr 3 (nI s) ho h1 h2 (nI g) (nI s) (nI b) 1 (nI s) else f_Q_rank_L86 Q_all Q_statements Q_names Q_holes Q_conclusions Q_premises Q_counts (f_Q_rank_L26 Q_all Q_statements Q_names Q_holes Q_conclusions Q_premises Q_counts f') FU thr 3 (nI s) ho h1 h2 (nI g) (nI s) (nI b) (nI a) (nI s) := by
      rw [f_Q_rank_L26, S.2.1, if_neg (nI_ge hsm (by omega)), ← S.2.1, o4, bd_s, gd_t (ixb_t (by omega) (by omega)), nI_clamp (by omega), o5, bd_s, bd_s, gd_t (ixb_t (by omega) (by omega)), o6, bd_s]
    rw [hX, hQ]
    have key : ∀ a' : Int32, ∃ r0' r1' r2' ho' h1' h2', ((f_H_addByShare (nI s) r0 r1 r2 (nI s) (nI b) a').bind fun r14 => nm (nI s + 1) fun x15 => f_X_rank_L30 T_count N T_withins S_count S_premises S_premiseCounts S_conclusions f 3 (nI g) r14.1 r14.2.1 r14.2.2.1 r14.2.2.2 (v &&& 1073741823) x15) = some (0, nI m, 3, nI g, nI m, r0', r1', r2') ∧
        f_Q_rank_L86 Q_all Q_statements Q_names Q_holes Q_conclusions Q_premises Q_counts (f_Q_rank_L26 Q_all Q_statements Q_names Q_holes Q_conclusions Q_premises Q_counts f') FU thr 3 (nI s) ho h1 h2 (nI g) (nI s) (nI b) a' (nI s) = some (nI m, thr, 3, nI m, ho', h1', h2') ∧ ∀ i, i < m → r0' i = ho' i ∧ r1' i = h1' i ∧ r2' i = h2' i := by
      intro a'
      obtain ⟨u0, u1, u2, v0, v1, v2, t1, t2, t3⟩ := hstep a'
      rw [t1, bd_s, nmE, nI_1, t2]
      have := ih (by omega) f f' (by omega) (by omega) u0 u1 u2 v0 v1 v2 (by rw [show m - d = s + 1 by omega]; exact t3)
      rw [show m - d = s + 1 by omega] at this
      exact this
    by_cases ca : nI a = 0
    · rw [if_pos ca, if_pos ca]
      exact key 1
    · rw [if_neg ca, if_neg ca]
      exact key (nI a)
theorem both_rank (R : RT tt n N sz ar T_count T_heads T_places T_olders T_sizes T_withins T_newest Q_all Q_kinds Q_which Q_firsts Q_seconds Q_thirds Q_nexts Q_heads Q_names Q_variables Q_holes Q_sizes) (S : RS tt n m cc pc pp S_count S_premises S_premiseCounts S_conclusions Q_statements Q_premises Q_counts Q_conclusions) (H : RH tt n m cc pc H_kind H_subject H_count H_statementRow H_firstRow H_secondRow Q_hitKind Q_hits Q_hitOf Q_hitOne Q_hitTwo Q_hitTerms) (p0 : Int32) :
    ∃ (k b : Int32) (H_kind' H_subject' H_count' : Int32) (H_statementRow' H_firstRow' H_secondRow' : Nat → Int32) (O_out' : Nat → Int64) (Q_hitKind' Q_hits' : Int32) (Q_hitOf' Q_hitOne' Q_hitTwo' : Nat → Int32),
      f_L_rank T_count N T_withins S_count S_premises S_premiseCounts S_conclusions H_kind H_subject H_count H_statementRow H_firstRow H_secondRow O_out p0 = some (k, H_kind', H_subject', H_count', H_statementRow', H_firstRow', H_secondRow', O_out') ∧
      f_Q_rank Q_thrown Q_all Q_statements Q_hitKind Q_hits Q_names Q_holes Q_conclusions Q_premises Q_counts Q_hitOf Q_hitOne Q_hitTwo p0 = some (b, k, Q_hitKind', Q_hits', Q_hitOf', Q_hitOne', Q_hitTwo') ∧
      RH tt n m cc pc H_kind' H_subject' H_count' H_statementRow' H_firstRow' H_secondRow' Q_hitKind' Q_hits' Q_hitOf' Q_hitOne' Q_hitTwo' Q_hitTerms ∧ (k = 0 → O_out' 0 = b.toInt64) := by
  have hm := S.2.2.1
  unfold f_L_rank f_X_rank f_Q_rank f_Q_refuses
  rcases goal_eq R p0 with ⟨h1, h2⟩ | ⟨h1, h2⟩ | ⟨h1, h2, g, hg, e, -⟩
  · rw [h1, h2, bd_s, bd_s]
    exact ⟨1, 0, H_kind, H_subject, H_count, H_statementRow, H_firstRow, H_secondRow, O_out, Q_hitKind, Q_hits, Q_hitOf, Q_hitOne, Q_hitTwo, rfl, rfl, H, fun e => absurd e (by decide)⟩
  · rw [h1, h2, bd_s, bd_s]
    exact ⟨2, 0, H_kind, H_subject, H_count, H_statementRow, H_firstRow, H_secondRow, O_out, Q_hitKind, Q_hits, Q_hitOf, Q_hitOne, Q_hitTwo, rfl, rfl, H, fun e => absurd e (by decide)⟩
  · obtain ⟨v, v1, v2⟩ := within_eq R.2.2.1 (x := nI g) (T := tt g) (Or.inr ⟨_, hg, rfl, rfl⟩)
    obtain ⟨r0', r1', r2', ho', h1', h2', l1, l2, l3⟩ := rank_loop R S hg v2 0 m (Nat.le_refl _) FU FU (by unfold FU; omega) (by unfold FU; omega) H_statementRow H_firstRow H_secondRow Q_hitOf Q_hitOne Q_hitTwo (fun i hi => by omega)
    rw [Nat.sub_self, nI_0] at l1 l2
    refine ⟨0, nI m, 3, nI g, nI m, r0', r1', r2', vp_updL O_out 0 (nI m).toInt64, 3, nI m, ho', h1', h2', ?_, ?_, ⟨m, by omega, rfl, rfl, l3, Or.inr (Or.inr (Or.inr ⟨rfl, rfl⟩))⟩, fun _ => upL_s _ _ _⟩
    · rw [h1, bd_s, if_pos rfl]
      unfold f_H_begin
      rw [bd_s, e, v1, bd_s, nmE, l1, bd_s]
      rfl
    · rw [h2, bd_s, if_pos (by decide), bd_s, if_pos rfl, e]
      exact l2
end
