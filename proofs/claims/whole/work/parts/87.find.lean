section
variable {tt : Nat → Tm} {n N m : Nat} {ar : Nat → Int32} {sz : Nat → Nat} {cc pc : Nat → Nat} {pp : Nat → Nat → Nat} {T_count : Int32} {T_heads T_places T_olders T_sizes : Nat → Int32} {T_withins : Nat → Int64} {T_newest : Nat → Int32} {Q_all Q_thrown : Int32} {Q_kinds Q_which Q_firsts Q_seconds Q_thirds Q_nexts Q_heads Q_names Q_variables Q_holes Q_sizes : Nat → Int32}
variable {S_count : Int32} {S_premises S_premiseCounts S_conclusions : Nat → Int32} {Q_statements : Int32} {Q_premises Q_counts Q_conclusions : Nat → Int32} {H_kind H_subject H_count : Int32} {H_statementRow H_firstRow H_secondRow : Nat → Int32} {Q_hitKind Q_hits : Int32} {Q_hitOf Q_hitOne Q_hitTwo Q_hitTerms : Nat → Int32} {O_out : Nat → Int64}
variable {Q_places : Nat → Int32}
theorem spremises_eq (S : RS tt n m cc pc pp S_count S_premises S_premiseCounts S_conclusions Q_statements Q_premises Q_counts Q_conclusions) {s : Nat} (hs : s < m) : f_S_premises S_count S_premiseCounts (nI s) = some (nI (pc s)) := by
  obtain ⟨s1, -, s3, s4⟩ := S
  unfold f_S_premises
  rw [s1, if_neg (nI_pos (by omega)), if_neg (nI_ge hs (by omega)), gd_t (ixb_t (by omega) (by omega)), nI_clamp (by omega), (s4 s hs).2.1.1]
theorem sconcl_eq (S : RS tt n m cc pc pp S_count S_premises S_premiseCounts S_conclusions Q_statements Q_premises Q_counts Q_conclusions) {s : Nat} (hs : s < m) : f_S_conclusion S_count S_conclusions (nI s) = some (nI (cc s)) := by
  obtain ⟨s1, -, s3, s4⟩ := S
  unfold f_S_conclusion
  rw [s1, if_neg (nI_pos (by omega)), if_neg (nI_ge hs (by omega)), gd_t (ixb_t (by omega) (by omega)), nI_clamp (by omega), (s4 s hs).1.1]
theorem spremise_eq (S : RS tt n m cc pc pp S_count S_premises S_premiseCounts S_conclusions Q_statements Q_premises Q_counts Q_conclusions) {s k : Nat} (hs : s < m) (hk : k < pc s) : f_S_premise S_count S_premises S_premiseCounts (nI s) (nI k) = some (nI (pp s k)) := by
  have hp := spremises_eq S hs
  obtain ⟨s1, -, s3, s4⟩ := S
  have h4 := (s4 s hs).2.1.2.2
  unfold f_S_premise
  rw [if_neg (nI_pos (by omega)), hp, bd_s, if_neg (nI_ge hk (by omega)), nI_x4, nI_add, gd_t (ixb_t (by omega) (by omega)), nI_clamp (by omega), ((s4 s hs).2.2 k hk).1]
theorem qpremise_eq (S : RS tt n m cc pc pp S_count S_premises S_premiseCounts S_conclusions Q_statements Q_premises Q_counts Q_conclusions) {s k : Nat} (hs : s < m) (hk : k < pc s) : f_Q_premise Q_premises (nI s) (nI k) = some (nI (pp s k)) := by
  obtain ⟨s1, -, s3, s4⟩ := S
  have h4 := (s4 s hs).2.1.2.2
  unfold f_Q_premise
  rw [nI_4x, nI_add, gd_t (ixb_t (by omega) (by omega)), nI_clamp (by omega), ((s4 s hs).2.2 k hk).2.1]
theorem forget_loop : ∀ d, d ≤ 100 → ∀ fuel, d < fuel → ∀ sn : Nat → Int32, ∃ sn', f_F_forgetSeen_L2 fuel sn (nI (100 - d)) = some sn' ∧ (∀ x, x < 100 → 100 - d ≤ x → sn' x = 0) ∧ (∀ x, x < 100 - d → sn' x = sn x) := by
  intro d
  induction d with
  | zero =>
    intro _ fuel hf sn
    obtain ⟨f, rfl⟩ : ∃ f, fuel = f + 1 := ⟨fuel - 1, by omega⟩
    refine ⟨sn, ?_, fun x h1 h2 => by omega, fun x _ => rfl⟩
    rw [f_F_forgetSeen_L2, if_pos (show (100 : Int32) ≤ nI (100 - 0) by decide)]
  | succ d ih =>
    intro hd fuel hf sn
    obtain ⟨f, rfl⟩ : ∃ f, fuel = f + 1 := ⟨fuel - 1, by omega⟩
    obtain ⟨sn', h1, h2, h3⟩ := ih (by omega) f (by omega) (upd sn (100 - (d + 1)) 0)
    refine ⟨sn', ?_, fun x h4 h5 => ?_, fun x h4 => ?_⟩
    · rw [f_F_forgetSeen_L2, if_neg (show ¬ (100 : Int32) ≤ nI (100 - (d + 1)) from (nI_ge (by omega) (by omega) : ¬ nI 100 ≤ _)), gd_t (ixb_t (by omega) (by omega)), nmE, nmE, nar0, nI_clamp (by omega), nI_1, show 100 - (d + 1) + 1 = 100 - d by omega]
      exact h1
    · by_cases e : x = 100 - (d + 1)
      · rw [h3 x (by omega), e, up_s]
      · exact h2 x h4 (by omega)
    · rw [h3 x (by omega), up_n (by omega)]
theorem forget_eq (sn : Nat → Int32) : ∃ sn', f_F_forgetSeen sn = some sn' ∧ ∀ x, x < 100 → sn' x = 0 := by
  obtain ⟨sn', h1, h2, -⟩ := forget_loop 100 (by omega) FU (by unfold FU; omega) sn
  rw [show 100 - 100 = 0 from rfl, nI_0] at h1
  exact ⟨sn', h1, fun x hx => h2 x hx (by omega)⟩
theorem qforget_loop (thr hk hh : Int32) (ho h1' h2' ht qi qb qw qv ql : Nat → Int32) (x1 : Int32) {s : Nat} (hs : s < 30) (K34 : Int32 → Int32 → Int32 → (Nat → Int32) → (Nat → Int32) → (Nat → Int32) → (Nat → Int32) → (Nat → Int32) → (Nat → Int32) → (Nat → Int32) → (Nat → Int32) → (Nat → Int32) → (Nat → Int32) → Int32 → Int32 → Option (Int32 × Int32 × Int32 × Int32 × (Nat → Int32) × (Nat → Int32) × (Nat → Int32) × (Nat → Int32) × (Nat → Int32) × (Nat → Int32) × (Nat → Int32) × (Nat → Int32) × (Nat → Int32) × (Nat → Int32))) :
    ∀ d, d ≤ 100 → ∀ fuel, d < fuel → ∀ sn : Nat → Int32, ∃ sn', f_Q_find_L44 Q_all Q_statements Q_kinds Q_which Q_firsts Q_seconds Q_thirds Q_variables Q_holes Q_places Q_conclusions Q_premises Q_counts K34 fuel thr hk hh ho h1' h2' ht qi qb qw qv sn ql x1 (nI s) (nI (100 - d)) =
      ((f_Q_firstMatch Q_kinds Q_which Q_firsts Q_seconds Q_thirds Q_variables Q_holes Q_places qi qb qw qv sn' ql x1 (Q_conclusions s)).bind fun r8 =>
        f_Q_find_L78 Q_all Q_statements Q_kinds Q_which Q_firsts Q_seconds Q_thirds Q_variables Q_holes Q_places Q_conclusions Q_premises Q_counts K34 FU thr hk hh ho h1' h2' ht r8.2.1 r8.2.2.1 r8.2.2.2.1 r8.2.2.2.2.1 r8.2.2.2.2.2.1 r8.2.2.2.2.2.2 x1 (nI s) (-1) r8.1) ∧ (∀ x, x < 100 → 100 - d ≤ x → sn' x = 0) ∧ (∀ x, x < 100 - d → sn' x = sn x) := by
  generalize hFU : FU = F
  intro d
  induction d with
  | zero =>
    intro _ fuel hf sn
    obtain ⟨f, rfl⟩ : ∃ f, fuel = f + 1 := ⟨fuel - 1, by omega⟩
    refine ⟨sn, ?_, fun x h1 h2 => by omega, fun x _ => rfl⟩
    rw [f_Q_find_L44, if_pos (show (100 : Int32) ≤ nI (100 - 0) by decide), gd_t (ixb_t (by omega) (by omega)), nI_clamp (by omega), hFU]
  | succ d ih =>
    intro hd fuel hf sn
    obtain ⟨f, rfl⟩ : ∃ f, fuel = f + 1 := ⟨fuel - 1, by omega⟩
    obtain ⟨sn', h1, h2, h3⟩ := ih (by omega) f (by omega) (upd sn (100 - (d + 1)) 0)
    refine ⟨sn', ?_, fun x h4 h5 => ?_, fun x h4 => ?_⟩
    · rw [f_Q_find_L44, if_neg (show ¬ (100 : Int32) ≤ nI (100 - (d + 1)) from (nI_ge (by omega) (by omega) : ¬ nI 100 ≤ _)), gd_t (ixb_t (by omega) (by omega)), nmE, nmE, nar0, nI_clamp (by omega), nI_1, show 100 - (d + 1) + 1 = 100 - d by omega]
      exact h1
    · by_cases e : x = 100 - (d + 1)
      · rw [h3 x (by omega), e, up_s]
      · exact h2 x h4 (by omega)
    · rw [h3 x (by omega), up_n (by omega)]
def fndP (tt : Nat → Tm) (n p : Nat) (r : Int32) (qb : Nat → Int32) : Prop := r = -1 ∨ ∃ t, t < n ∧ r = nI t ∧ ∃ σ, Mt true σ (tt p) (tt t) ∧ ∀ v, v < 8 → rf tt n (qb v) (oT (σ (38 + v)))
theorem finds_loop (R : RT tt n N sz ar T_count T_heads T_places T_olders T_sizes T_withins T_newest Q_all Q_kinds Q_which Q_firsts Q_seconds Q_thirds Q_nexts Q_heads Q_names Q_variables Q_holes Q_sizes) (har : ∀ h, h < 30 → Q_places h = ar h) (S : RS tt n m cc pc pp S_count S_premises S_premiseCounts S_conclusions Q_statements Q_premises Q_counts Q_conclusions) {p s : Nat} (hp : p < n) (hs : s < m) (thr hk hh : Int32) (ho h1' h2' ht : Nat → Int32) (K34 : Int32 → Int32 → Int32 → (Nat → Int32) → (Nat → Int32) → (Nat → Int32) → (Nat → Int32) → (Nat → Int32) → (Nat → Int32) → (Nat → Int32) → (Nat → Int32) → (Nat → Int32) → (Nat → Int32) → Int32 → Int32 → Option (Int32 × Int32 × Int32 × Int32 × (Nat → Int32) × (Nat → Int32) × (Nat → Int32) × (Nat → Int32) × (Nat → Int32) × (Nat → Int32) × (Nat → Int32) × (Nat → Int32) × (Nat → Int32) × (Nat → Int32))) :
    ∀ d, d ≤ pc s → ∀ fuel fuel', d < fuel → d < fuel' → ∀ r im sn wt qi qb qw qv qs ql, snR sn qs → fndP tt n p r qb → ∃ r' pr im' sn' wt' qi' qb' qw' qv' qs' ql',
      f_F_finds_L24 T_count N T_heads (3*N) T_places N T_withins S_count S_premises S_premiseCounts S_conclusions (nI p) fuel im r (nI (pc s - d) - 1) sn wt (nI s) (nI (pc s - d)) = some (if r' = -1 then 0 else 1, im', r', pr, sn', wt') ∧
      f_Q_find_L78 Q_all Q_statements Q_kinds Q_which Q_firsts Q_seconds Q_thirds Q_variables Q_holes Q_places Q_conclusions Q_premises Q_counts K34 fuel' thr hk hh ho h1' h2' ht qi qb qw qv qs ql (nI p) (nI s) (nI (pc s - d) - 1) r = f_Q_find_B115 Q_all Q_statements Q_kinds Q_which Q_firsts Q_seconds Q_thirds Q_variables Q_holes Q_places Q_conclusions Q_premises Q_counts K34 thr hk hh ho h1' h2' ht qi' qb' qw' qv' qs' ql' (nI p) (nI s) pr r' ∧ fndP tt n p r' qb' := by
  have hpc := spremises_eq S hs
  obtain ⟨s1, s2, s3, s4⟩ := S
  have S : RS tt n m cc pc pp S_count S_premises S_premiseCounts S_conclusions Q_statements Q_premises Q_counts Q_conclusions := ⟨s1, s2, s3, s4⟩
  have h4 := (s4 s hs).2.1.2.2
  have hB66 : ∀ im r pr sn wt, f_F_finds_B66 T_count N T_heads (3*N) T_places N T_withins S_count S_premises S_premiseCounts S_conclusions (nI p) im r pr sn wt = some (if r = -1 then 0 else 1, im, r, pr, sn, wt) := by
    intro im r pr sn wt
    unfold f_F_finds_B66
    by_cases c : r = -1
    · rw [if_pos c, if_pos c]
    · rw [if_neg c, if_neg c]
  intro d
  induction d with
  | zero =>
    intro _ fuel fuel' hf hf' r im sn wt qi qb qw qv qs ql hS hF
    obtain ⟨f, rfl⟩ : ∃ f, fuel = f + 1 := ⟨fuel - 1, by omega⟩
    obtain ⟨f', rfl⟩ : ∃ f, fuel' = f + 1 := ⟨fuel' - 1, by omega⟩
    refine ⟨r, nI (pc s - 0) - 1, im, sn, wt, qi, qb, qw, qv, qs, ql, ?_, ?_, hF⟩
    · rw [f_F_finds_L24, hpc, bd_s, if_pos ((nI_leI (by omega) (by omega)).mpr (by omega)), hB66]
    · rw [f_Q_find_L78]
      by_cases c : r = -1
      · rw [if_pos c, gd_t (ixb_t (by omega) (by omega)), nI_clamp (by omega), (s4 s hs).2.1.2.1, Int32.sub_add_cancel, if_pos ((nI_leI (by omega) (by omega)).mpr (by omega))]
      · rw [if_neg c]
  | succ d ih =>
    intro hd fuel fuel' hf hf' r im sn wt qi qb qw qv qs ql hS hF
    obtain ⟨f, rfl⟩ : ∃ f, fuel = f + 1 := ⟨fuel - 1, by omega⟩
    obtain ⟨f', rfl⟩ : ∃ f, fuel' = f + 1 := ⟨fuel' - 1, by omega⟩
    by_cases c : r = -1
    · obtain ⟨k, hkk⟩ : ∃ k, k = pc s - (d + 1) := ⟨_, rfl⟩
      obtain ⟨-, -, hpn, -⟩ := (s4 s hs).2.2 k (by omega)
      obtain ⟨r1, im1, sn1, wt1, qi1, qb1, qw1, qv1, qs1, ql1, f1, f2, f3, f4⟩ := first_both R har hp hpn im sn wt qi qb qw qv qs ql hS
      obtain ⟨r', pr, im', sn', wt', qi', qb', qw', qv', qs', ql', g1, g2, g3⟩ := ih (by omega) f f' (by omega) (by omega) r1 im1 sn1 wt1 qi1 qb1 qw1 qv1 qs1 ql1 f3 f4
      rw [show pc s - d = k + 1 by omega, nI_pred] at g1 g2
      rw [← hkk]
      refine ⟨r', pr, im', sn', wt', qi', qb', qw', qv', qs', ql', ?_, ?_, g3⟩
      · rw [f_F_finds_L24, hpc, bd_s, if_neg (nI_ge (by omega) (by omega)), if_pos c, spremise_eq S hs (by omega), bd_s, f1, bd_s, nmE, nI_1]
        exact g1
      · rw [f_Q_find_L78, if_pos c, gd_t (ixb_t (by omega) (by omega)), nI_clamp (by omega), (s4 s hs).2.1.2.1, Int32.sub_add_cancel, if_neg (nI_ge (by omega) (by omega)), nmE, qpremise_eq S hs (by omega), bd_s, f2, bd_s]
        exact g2
    · refine ⟨r, nI (pc s - (d + 1)) - 1, im, sn, wt, qi, qb, qw, qv, qs, ql, ?_, ?_, hF⟩
      · rw [f_F_finds_L24, hpc, bd_s, if_neg (nI_ge (by omega) (by omega)), if_neg c, hB66]
      · rw [f_Q_find_L78, if_neg c]
theorem hitL_loop (Q_bound : Nat → Int32) {c : Nat} (hc : c < 30) (ho h1 h2 : Nat → Int32) : ∀ d, d ≤ 8 → ∀ fuel, d < fuel → ∀ ht : Nat → Int32, ∃ ht', f_Q_hit_III_L33 Q_bound fuel (nI c) ho h1 h2 ht (nI (8 - d)) = some (nI (c + 1), ho, h1, h2, ht') ∧
    (∀ v, 8 - d ≤ v → v < 8 → ht' (8 * c + v) = Q_bound v) ∧ (∀ i, i < 8 * c + (8 - d) → ht' i = ht i) := by
  intro d
  induction d with
  | zero =>
    intro _ fuel hf ht
    obtain ⟨f, rfl⟩ : ∃ f, fuel = f + 1 := ⟨fuel - 1, by omega⟩
    refine ⟨ht, ?_, fun v h1 h2 => by omega, fun i _ => rfl⟩
    rw [f_Q_hit_III_L33, if_pos (show (8 : Int32) ≤ nI (8 - 0) by decide), nmE, nI_1]
  | succ d ih =>
    intro hd fuel hf ht
    obtain ⟨f, rfl⟩ : ∃ f, fuel = f + 1 := ⟨fuel - 1, by omega⟩
    obtain ⟨k, hk⟩ : ∃ k, k = 8 - (d + 1) := ⟨_, rfl⟩
    obtain ⟨ht', g1, g2, g3⟩ := ih (by omega) f (by omega) (upd ht (8 * c + k) (Q_bound k))
    rw [show 8 - d = k + 1 by omega] at g1 g2 g3
    rw [← hk]
    refine ⟨ht', ?_, fun v h3 h4 => ?_, fun i hi => ?_⟩
    · rw [f_Q_hit_III_L33, if_neg (show ¬ (8 : Int32) ≤ nI k from (nI_ge (by omega) (by omega) : ¬ nI 8 ≤ nI k)), gd_t (ixb_t (by omega) (by omega)), nI_8x, nI_add, gd_t (ixb_t (by omega) (by omega)), nmE, nmE, nI_clamp (by omega), nI_clamp (by omega), nI_1]
      exact g1
    · by_cases e : v = k
      · rw [e, g3 (8 * c + k) (by omega), up_s]
      · exact g2 v (by omega) h4
    · rw [g3 i (by omega), up_n (by omega)]
theorem qhit_eq (Q_bound : Nat → Int32) {c : Nat} (hc : c < 30) (ho h1 h2 ht : Nat → Int32) (a b d : Int32) : ∃ ht', f_Q_hit_III (nI c) ho h1 h2 ht Q_bound a b d = some (nI (c + 1), upd ho c a, upd h1 c b, upd h2 c d, ht') ∧
    (∀ v, v < 8 → ht' (8 * c + v) = Q_bound v) ∧ (∀ i, i < 8 * c → ht' i = ht i) := by
  obtain ⟨ht', g1, g2, g3⟩ := hitL_loop Q_bound hc (upd ho c a) (upd h1 c b) (upd h2 c d) 8 (by omega) FU (by unfold FU; omega) ht
  rw [show 8 - 8 = 0 from rfl, nI_0] at g1
  refine ⟨ht', ?_, fun v hv => g2 v (by omega) hv, fun i hi => g3 i (by omega)⟩
  unfold f_Q_hit_III
  rw [gd_t (ixb_t hc (by omega)), nmE, gd_t (ixb_t hc (by omega)), nmE, gd_t (ixb_t hc (by omega)), nmE, nI_clamp (by omega)]
  exact g1
theorem hadd_eq {c : Nat} (hc : c < 30) (r0 r1 r2 : Nat → Int32) (a b d : Int32) : f_H_add (nI c) r0 r1 r2 a b d = some (nI (c + 1), upd r0 c a, upd r1 c b, upd r2 c d) := by
  unfold f_H_add f_H_put
  rw [if_neg (show ¬ (30 : Int32) ≤ nI c from (nI_ge hc (by omega) : ¬ nI 30 ≤ nI c)), gd_t (ixb_t hc (by omega)), nmE, gd_t (ixb_t hc (by omega)), nmE, gd_t (ixb_t hc (by omega)), nmE, nI_clamp (by omega), bd_s, nmE, nI_1]
end
