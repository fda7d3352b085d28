section
variable {tt : Nat → Tm} {n N m : Nat} {ar : Nat → Int32} {sz : Nat → Nat} {cc pc : Nat → Nat} {pp : Nat → Nat → Nat} {T_count : Int32} {T_heads T_places T_olders T_sizes : Nat → Int32} {T_withins : Nat → Int64} {T_newest : Nat → Int32} {Q_all Q_thrown : Int32} {Q_kinds Q_which Q_firsts Q_seconds Q_thirds Q_nexts Q_heads Q_names Q_variables Q_holes Q_sizes : Nat → Int32}
variable {S_count : Int32} {S_premises S_premiseCounts S_conclusions : Nat → Int32} {Q_statements : Int32} {Q_premises Q_counts Q_conclusions : Nat → Int32} {H_kind H_subject H_count : Int32} {H_statementRow H_firstRow H_secondRow : Nat → Int32} {Q_hitKind Q_hits : Int32} {Q_hitOf Q_hitOne Q_hitTwo Q_hitTerms : Nat → Int32} {O_out : Nat → Int64}
variable {Q_places : Nat → Int32}
theorem cnt_zero {P : Nat → Bool} {k : Nat} (h : ∀ i, i < k → P i = false) : cnt P k = 0 := by
  induction k with
  | zero => rfl
  | succ k ih => rw [cnt_succ, h k (by omega), ih (fun i hi => h i (by omega))]; rfl
theorem cnt_pos {P : Nat → Bool} {k i : Nat} (hi : i < k) (h : P i = true) : 0 < cnt P k := by
  induction k with
  | zero => omega
  | succ k ih =>
    rw [cnt_succ]
    by_cases e : i = k
    · rw [← e, h]; simp; omega
    · have := ih (by omega); omega
theorem cnt_64_8 {f : Nat → Bool} (h1 : ∀ i, i < 30 → f i = false) (h2 : ∀ i, 38 ≤ i → i < 64 → f i = false) : cnt f 64 = cnt (fun i => f (30 + i)) 8 := by
  rw [show 64 = 30 + (8 + 26) from rfl, cnt_add, cnt_add, cnt_zero (k := 30) h1, cnt_zero (k := 26) (fun i hi => h2 _ (by omega) (by omega))]
  omega
theorem cnt_30_8 {f : Nat → Bool} (h2 : ∀ i, 8 ≤ i → i < 30 → f i = false) : cnt f 30 = cnt f 8 := by
  rw [show 30 = 8 + 22 from rfl, cnt_add, cnt_zero (k := 22) (fun i hi => h2 _ (by omega) (by omega))]
  omega
theorem cnt_64_30 {f : Nat → Bool} (h2 : ∀ i, 30 ≤ i → i < 64 → f i = false) : cnt f 64 = cnt f 30 := by
  rw [show 64 = 30 + 34 from rfl, cnt_add, cnt_zero (k := 34) (fun i hi => h2 _ (by omega) (by omega))]
  omega
/-- a head stands in a premise of the statement -/
def inP (tt : Nat → Tm) (pc : Nat → Nat) (pp : Nat → Nat → Nat) (s g : Nat) : Prop := ∃ k, k < pc s ∧ std (tt (pp s k)) g
def inPto (tt : Nat → Tm) (pp : Nat → Nat → Nat) (s j g : Nat) : Prop := ∃ k, k < j ∧ std (tt (pp s k)) g
theorem inPto_s {s j g : Nat} : inPto tt pp s (j + 1) g ↔ (inPto tt pp s j g ∨ std (tt (pp s j)) g) := by
  constructor
  · rintro ⟨k, h1, h2⟩
    by_cases e : k = j
    · rw [e] at h2; exact Or.inr h2
    · exact Or.inl ⟨k, by omega, h2⟩
  · rintro (⟨k, h1, h2⟩ | h)
    · exact ⟨k, by omega, h2⟩
    · exact ⟨j, by omega, h⟩
theorem prem_loop (ct : CT tt n N sz T_count T_heads T_places T_olders T_sizes T_withins T_newest) (S : RS tt n m cc pc pp S_count S_premises S_premiseCounts S_conclusions Q_statements Q_premises Q_counts Q_conclusions) {s : Nat} (hs : s < m) : ∀ d, d ≤ pc s → ∀ fuel, d < fuel → ∀ w : Int64, (∀ i, i < 64 → (w.toBitVec.getLsbD i = true ↔ inPto tt pp s (pc s - d) i)) →
    ∃ w', f_S_withinPremises_L5 T_count N T_withins S_count S_premises S_premiseCounts fuel (nI s) w (nI (pc s - d)) = some w' ∧ ∀ i, i < 64 → (w'.toBitVec.getLsbD i = true ↔ inP tt pc pp s i) := by
  have hpc := spremises_eq S hs
  have h4 := (S.2.2.2 s hs).2.1.2.2
  intro d
  induction d with
  | zero =>
    intro _ fuel hf w hw
    obtain ⟨f, rfl⟩ : ∃ f, fuel = f + 1 := ⟨fuel - 1, by omega⟩
    refine ⟨w, ?_, hw⟩
    rw [f_S_withinPremises_L5, hpc, bd_s, if_pos ((nI_leI (by omega) (by omega)).mpr (by omega))]
  | succ d ih =>
    intro hd fuel hf w hw
    obtain ⟨f, rfl⟩ : ∃ f, fuel = f + 1 := ⟨fuel - 1, by omega⟩
    obtain ⟨k, hk⟩ : ∃ k, k = pc s - (d + 1) := ⟨_, rfl⟩
    obtain ⟨-, -, hpn, -⟩ := (S.2.2.2 s hs).2.2 k (by omega)
    obtain ⟨v, hv, hwm⟩ := within_eq ct (x := nI (pp s k)) (T := tt (pp s k)) (Or.inr ⟨_, hpn, rfl, rfl⟩)
    rw [← hk] at hw
    obtain ⟨w', g1, g2⟩ := ih (by omega) f (by omega) (w ||| v) (by
      intro i hi
      rw [show pc s - d = k + 1 by omega, inPto_s, Int64.toBitVec_or, BitVec.getLsbD_or, Bool.or_eq_true, hw i hi, hwm i hi])
    refine ⟨w', ?_, g2⟩
    rw [← hk, f_S_withinPremises_L5, hpc, bd_s, if_neg (nI_ge (by omega) (by omega)), spremise_eq S hs (by omega), bd_s, hv, bd_s, nmE, nmE, nI_1]
    rw [show pc s - d = k + 1 by omega] at g1
    exact g1
theorem prem_eq (ct : CT tt n N sz T_count T_heads T_places T_olders T_sizes T_withins T_newest) (S : RS tt n m cc pc pp S_count S_premises S_premiseCounts S_conclusions Q_statements Q_premises Q_counts Q_conclusions) {s : Nat} (hs : s < m) : ∃ w, f_S_withinPremises T_count N T_withins S_count S_premises S_premiseCounts (nI s) = some w ∧ ∀ i, i < 64 → (w.toBitVec.getLsbD i = true ↔ inP tt pc pp s i) := by
  unfold f_S_withinPremises
  have h4 := (S.2.2.2 s hs).2.1.2.2
  obtain ⟨w', h1, h2⟩ := prem_loop ct S hs (pc s) (Nat.le_refl _) FU (by unfold FU; omega) 0 (by
    intro i hi
    rw [Nat.sub_self]
    constructor
    · intro h
      have e : (0 : Int64).toBitVec.getLsbD i = false := i64_zero.mp rfl i hi
      rw [e] at h
      exact absurd h (by decide)
    · rintro ⟨k, h, -⟩
      omega)
  rw [Nat.sub_self, nI_0] at h1
  exact ⟨w', h1, h2⟩
theorem qopen_loop (hn : n ≤ 100) (hq : QK tt n sz Q_names Q_variables Q_holes Q_sizes) (S : RS tt n m cc pc pp S_count S_premises S_premiseCounts S_conclusions Q_statements Q_premises Q_counts Q_conclusions) {s : Nat} (hs : s < m) : ∀ d, d ≤ pc s → ∀ fuel, d < fuel → ∀ w : Int32, (∀ i, i < 32 → (w.toBitVec.getLsbD i = true ↔ (i < 8 ∧ inPto tt pp s (pc s - d) (30 + i)))) →
    ∃ w', f_Q_open_L4 Q_variables Q_conclusions Q_premises Q_counts fuel (nI s) w (nI (pc s - d)) = some w' ∧ ∀ i, i < 32 → (w'.toBitVec.getLsbD i = true ↔ (i < 8 ∧ inP tt pc pp s (30 + i) ∧ ¬ std (tt (cc s)) (30 + i))) := by
  have h4 := (S.2.2.2 s hs).2.1.2.2
  have hm := S.2.2.1
  have hcq := (S.2.2.2 s hs).2.1.2.1
  intro d
  induction d with
  | zero =>
    intro _ fuel hf w hw
    obtain ⟨f, rfl⟩ : ∃ f, fuel = f + 1 := ⟨fuel - 1, by omega⟩
    obtain ⟨-, e2, e3, -⟩ := (S.2.2.2 s hs).1
    have hv := (hq (cc s) e3).2.1
    refine ⟨_, by rw [f_Q_open_L4, gd_t (ixb_t (by omega) (by omega)), nI_clamp (by omega), hcq, if_pos ((nI_leI (by omega) (by omega)).mpr (by omega)), gd_t (ixb_t (by omega) (by omega)), e2, gd_t (ixb_t (by omega) (by omega)), nI_clamp (by omega)], ?_⟩
    intro i hi
    have hm1 : (-1 : Int32).toBitVec.getLsbD i = true := (show ∀ i : Nat, i < 32 → (-1 : Int32).toBitVec.getLsbD i = true by decide +kernel) i hi
    rw [Int32.toBitVec_and, BitVec.getLsbD_and, Int32.toBitVec_xor, BitVec.getLsbD_xor, hm1, Bool.and_eq_true, hw i hi]
    have hvi := hv i hi
    constructor
    · rintro ⟨⟨a1, a2⟩, a3⟩
      refine ⟨a1, a2, fun h => ?_⟩
      rw [hvi.mpr ⟨a1, h⟩] at a3
      exact absurd a3 (by decide)
    · rintro ⟨a1, a2, a3⟩
      refine ⟨⟨a1, a2⟩, ?_⟩
      cases e : (Q_variables (cc s)).toBitVec.getLsbD i
      · rfl
      · exact absurd (hvi.mp e).2 a3
  | succ d ih =>
    intro hd fuel hf w hw
    obtain ⟨f, rfl⟩ : ∃ f, fuel = f + 1 := ⟨fuel - 1, by omega⟩
    obtain ⟨k, hk⟩ : ∃ k, k = pc s - (d + 1) := ⟨_, rfl⟩
    obtain ⟨-, -, hpn, -⟩ := (S.2.2.2 s hs).2.2 k (by omega)
    have hv := (hq (pp s k) hpn).2.1
    rw [← hk] at hw
    obtain ⟨w', g1, g2⟩ := ih (by omega) f (by omega) (w ||| Q_variables (pp s k)) (by
      intro i hi
      rw [show pc s - d = k + 1 by omega, inPto_s, Int32.toBitVec_or, BitVec.getLsbD_or, Bool.or_eq_true, hw i hi, hv i hi]
      constructor
      · rintro (⟨a, b⟩ | ⟨a, b⟩)
        · exact ⟨a, Or.inl b⟩
        · exact ⟨a, Or.inr b⟩
      · rintro ⟨a, b | b⟩
        · exact Or.inl ⟨a, b⟩
        · exact Or.inr ⟨a, b⟩)
    refine ⟨w', ?_, g2⟩
    rw [← hk, f_Q_open_L4, gd_t (ixb_t (by omega) (by omega)), nI_clamp (by omega), hcq, if_neg (nI_ge (by omega) (by omega)), qpremise_eq S hs (by omega), bd_s, gd_t (ixb_t (by omega) (by omega)), nmE, nmE, nI_1, nI_clamp (by omega)]
    rw [show pc s - d = k + 1 by omega] at g1
    exact g1
theorem qopen_eq (hn : n ≤ 100) (hq : QK tt n sz Q_names Q_variables Q_holes Q_sizes) (S : RS tt n m cc pc pp S_count S_premises S_premiseCounts S_conclusions Q_statements Q_premises Q_counts Q_conclusions) {s : Nat} (hs : s < m) : ∃ w, f_Q_open Q_variables Q_conclusions Q_premises Q_counts (nI s) = some w ∧ ∀ i, i < 32 → (w.toBitVec.getLsbD i = true ↔ (i < 8 ∧ inP tt pc pp s (30 + i) ∧ ¬ std (tt (cc s)) (30 + i))) := by
  unfold f_Q_open
  have h4 := (S.2.2.2 s hs).2.1.2.2
  obtain ⟨w', h1, h2⟩ := qopen_loop hn hq S hs (pc s) (Nat.le_refl _) FU (by unfold FU; omega) 0 (by
    intro i hi
    rw [Nat.sub_self]
    constructor
    · intro h
      have e : (0 : Int32).toBitVec.getLsbD i = false := i32_zero.mp rfl i hi
      rw [e] at h
      exact absurd h (by decide)
    · rintro ⟨-, k, h, -⟩
      omega)
  rw [Nat.sub_self, nI_0] at h1
  exact ⟨w', h1, h2⟩
theorem both_open (ct : CT tt n N sz T_count T_heads T_places T_olders T_sizes T_withins T_newest) (hn : n ≤ 100) (hq : QK tt n sz Q_names Q_variables Q_holes Q_sizes) (S : RS tt n m cc pc pp S_count S_premises S_premiseCounts S_conclusions Q_statements Q_premises Q_counts Q_conclusions) {s : Nat} (hs : s < m) : ∃ (c : Nat) (x : Int32), f_S_openVariables T_count N T_withins S_count S_premises S_premiseCounts S_conclusions (nI s) = some (nI c) ∧
    f_Q_open Q_variables Q_conclusions Q_premises Q_counts (nI s) = some x ∧ f_Q_many x = some (nI c) ∧ c ≤ 8 ∧ (x = 0 ↔ c = 0) ∧ (c = 0 ↔ ∀ g, 30 ≤ g → g < 38 → inP tt pc pp s g → std (tt (cc s)) g) := by
  obtain ⟨w, a1, a2⟩ := prem_eq ct S hs
  obtain ⟨x, b1, b2⟩ := qopen_eq hn hq S hs
  obtain ⟨-, -, e3, -⟩ := (S.2.2.2 s hs).1
  obtain ⟨v, c1, c2⟩ := within_eq ct (x := nI (cc s)) (T := tt (cc s)) (Or.inr ⟨_, e3, rfl, rfl⟩)
  have hbit : ∀ i, i < 64 → (((w &&& (v ^^^ (-1 : Int64))) &&& (273804165120 : Int64)).toBitVec.getLsbD i = true ↔ (30 ≤ i ∧ i < 38 ∧ inP tt pc pp s i ∧ ¬ std (tt (cc s)) i)) := by
    intro i hi
    have hm1 : (-1 : Int64).toBitVec.getLsbD i = true := (show ∀ i : Nat, i < 64 → (-1 : Int64).toBitVec.getLsbD i = true by decide +kernel) i hi
    have ha := a2 i hi
    have hc := c2 i hi
    rw [Int64.toBitVec_and, BitVec.getLsbD_and, var_bits i hi, Int64.toBitVec_and, BitVec.getLsbD_and, Int64.toBitVec_xor, BitVec.getLsbD_xor, hm1, Bool.and_eq_true, Bool.and_eq_true, ha, decide_eq_true_eq]
    constructor
    · rintro ⟨⟨h1, h2⟩, h3, h4⟩
      refine ⟨h3, h4, h1, fun h => ?_⟩
      rw [hc.mpr h] at h2
      exact absurd h2 (by decide)
    · rintro ⟨h1, h2, h3, h4⟩
      refine ⟨⟨h3, ?_⟩, h1, h2⟩
      cases e : v.toBitVec.getLsbD i
      · rfl
      · exact absurd (hc.mp e) h4
  generalize hz : ((w &&& (v ^^^ (-1 : Int64))) &&& (273804165120 : Int64)) = z at hbit
  have same : ∀ i, i < 8 → z.toBitVec.getLsbD (30 + i) = x.toBitVec.getLsbD i := by
    intro i hi
    have h1 := hbit (30 + i) (by omega)
    have h2 := b2 i (by omega)
    apply Bool.eq_iff_iff.mpr
    rw [h1, h2]
    constructor
    · rintro ⟨-, -, h⟩; exact ⟨hi, h⟩
    · rintro ⟨-, h⟩; exact ⟨by omega, by omega, h⟩
  have e1 : cnt (fun i => z.toBitVec.getLsbD i) 64 = cnt (fun i => x.toBitVec.getLsbD i) 8 := by
    rw [cnt_64_8 (f := fun i => z.toBitVec.getLsbD i) (fun i hi => Bool.eq_false_iff.mpr (fun h => by have := (hbit i (by omega)).mp h; omega)) (fun i h1 h2 => Bool.eq_false_iff.mpr (fun h => by have := (hbit i h2).mp h; omega))]
    exact cnt_congr (fun i hi => same i hi)
  have e2 : cnt (fun i => x.toBitVec.getLsbD i) 30 = cnt (fun i => x.toBitVec.getLsbD i) 8 := by
    exact cnt_30_8 (fun i h1 h2 => Bool.eq_false_iff.mpr (fun h => by have := (b2 i (by omega)).mp h; omega))
  have hx0 : cnt (fun i => x.toBitVec.getLsbD i) 8 = 0 ↔ ∀ i, i < 8 → x.toBitVec.getLsbD i = false := by
    constructor
    · intro h i hi
      cases e : x.toBitVec.getLsbD i
      · rfl
      · have := cnt_pos (P := fun i => x.toBitVec.getLsbD i) hi e; omega
    · exact fun h => cnt_zero h
  refine ⟨cnt (fun i => x.toBitVec.getLsbD i) 8, x, ?_, b1, ?_, cnt_le _ _, ?_, ?_⟩
  · unfold f_S_openVariables
    rw [a1, bd_s, sconcl_eq S hs, bd_s, c1, bd_s, bitCount_eq, bd_s, hz, e1]
  · rw [many_eq, e2]
  · rw [hx0, i32_zero]
    constructor
    · exact fun h i hi => h i (by omega)
    · intro h i hi
      by_cases h8 : i < 8
      · exact h i h8
      · exact Bool.eq_false_iff.mpr (fun e => h8 ((b2 i hi).mp e).1)
  · rw [hx0]
    constructor
    · intro h g h1 h2 h3
      have h4 := h (g - 30) (by omega)
      apply Classical.byContradiction
      intro h5
      have := (b2 (g - 30) (by omega)).mpr ⟨by omega, by rw [show 30 + (g - 30) = g by omega]; exact h3, by rw [show 30 + (g - 30) = g by omega]; exact h5⟩
      rw [h4] at this
      exact absurd this (by decide)
    · intro h i hi
      exact Bool.eq_false_iff.mpr (fun e => by
        have := (b2 i (by omega)).mp e
        exact this.2.2 (h (30 + i) (by omega) (by omega) this.2.1))
end
