section
variable {tt : Nat → Tm} {n N m : Nat} {ar : Nat → Int32} {sz : Nat → Nat} {cc pc : Nat → Nat} {pp : Nat → Nat → Nat} {T_count : Int32} {T_heads T_places T_olders T_sizes : Nat → Int32} {T_withins : Nat → Int64} {T_newest : Nat → Int32} {Q_all Q_thrown : Int32} {Q_kinds Q_which Q_firsts Q_seconds Q_thirds Q_nexts Q_heads Q_names Q_variables Q_holes Q_sizes : Nat → Int32}
variable {S_count : Int32} {S_premises S_premiseCounts S_conclusions : Nat → Int32} {Q_statements : Int32} {Q_premises Q_counts Q_conclusions : Nat → Int32} {H_kind H_subject H_count : Int32} {H_statementRow H_firstRow H_secondRow : Nat → Int32} {Q_hitKind Q_hits : Int32} {Q_hitOf Q_hitOne Q_hitTwo Q_hitTerms : Nat → Int32} {O_out : Nat → Int64}
variable {Q_places : Nat → Int32}
variable {M_images X_arities : Nat → Int32} {X_namesUsed : Int32}
theorem both_hit (R : RT tt n N sz ar T_count T_heads T_places T_olders T_sizes T_withins T_newest Q_all Q_kinds Q_which Q_firsts Q_seconds Q_thirds Q_nexts Q_heads Q_names Q_variables Q_holes Q_sizes) (S : RS tt n m cc pc pp S_count S_premises S_premiseCounts S_conclusions Q_statements Q_premises Q_counts Q_conclusions) (H : RH tt n m cc pc H_kind H_subject H_count H_statementRow H_firstRow H_secondRow Q_hitKind Q_hits Q_hitOf Q_hitOne Q_hitTwo Q_hitTerms) (p0 p1 : Int32) :
    ∃ (b : Int32) (M_images' : Nat → Int32), f_X_hit T_count N T_heads (3*N) T_places N T_olders N T_withins T_newest S_count S_conclusions M_images H_kind H_subject H_count H_statementRow H_firstRow H_secondRow p0 p1 = some (b, M_images') ∧ f_Q_hit_II Q_thrown Q_hitKind Q_hits Q_hitOf Q_hitOne Q_hitTwo Q_hitTerms p0 p1 = some (b, 0) := by
  obtain ⟨w, hn, ct, qt, hq⟩ := R
  obtain ⟨c, hc, k1, k2, hrow, hk⟩ := H
  unfold f_X_hit f_Q_hit_II
  by_cases c0 : p0 < 0
  · refine ⟨-1, M_images, ?_, ?_⟩
    · unfold f_H_has
      rw [if_pos c0, bd_s, if_pos rfl]
    · rw [if_pos c0]
  rw [if_neg c0]
  obtain ⟨i, hi, e⟩ := nI_of c0
  subst e
  by_cases ci : c ≤ i
  · refine ⟨-1, M_images, ?_, ?_⟩
    · unfold f_H_has
      rw [if_neg c0, k1, if_pos ((nI_leI (by omega) (by omega)).mpr ci), bd_s, if_pos rfl]
    · rw [k2, if_pos ((nI_leI (by omega) (by omega)).mpr ci)]
  have hhas : f_H_has H_count (nI i) = some 1 := by
    unfold f_H_has
    rw [if_neg c0, k1, if_neg (nI_ge (by omega) (by omega))]
  obtain ⟨q0, q1, q2⟩ := hrow i (by omega)
  have hst : f_H_statement H_count H_statementRow (nI i) = some (H_statementRow i) := by
    unfold f_H_statement
    rw [hhas, bd_s, if_neg (by decide), gd_t (ixb_t (by omega) (by omega)), nI_clamp (by omega)]
  have hfi : f_H_first H_count H_firstRow (nI i) = some (H_firstRow i) := by
    unfold f_H_first
    rw [hhas, bd_s, if_neg (by decide), gd_t (ixb_t (by omega) (by omega)), nI_clamp (by omega)]
  have hse : f_H_second H_count H_secondRow (nI i) = some (H_secondRow i) := by
    unfold f_H_second
    rw [hhas, bd_s, if_neg (by decide), gd_t (ixb_t (by omega) (by omega)), nI_clamp (by omega)]
  rw [hhas, bd_s, if_neg (by decide), k2, if_neg (nI_ge (by omega) (by omega)), hst, hfi, hse]
  have hlow : p1 < 4 → ∃ im', f_X_binding T_count N T_heads (3*N) T_places N T_olders N T_withins T_newest S_count S_conclusions M_images H_kind H_subject H_count H_statementRow H_secondRow (nI i) p1 = some (-1, im') := by
    intro h4
    refine ⟨M_images, ?_⟩
    unfold f_X_binding f_X_binding_B62 f_H_kind
    rw [bd_s, bd_s, if_pos h4, if_pos h4]
    split <;> split <;> rfl
  by_cases cn : (0 : Int32) ≤ p1
  case neg =>
    have hneg : p1 < 0 := by
      by_cases h : p1 < 0
      · exact h
      · obtain ⟨w', hw', e⟩ := nI_of h
        exact absurd (by rw [e]; exact (nI_leI (by omega) (by omega) : nI 0 ≤ nI w' ↔ _).mpr (Nat.zero_le _)) cn
    have hne : ∀ w' : Nat, w' < 2 ^ 31 → p1 ≠ nI w' := by
      intro w' hw' e
      rw [e] at hneg
      exact nI_pos (by omega) hneg
    obtain ⟨im', hb⟩ := hlow (by
      by_cases h : p1 < 4
      · exact h
      · exfalso
        have : ¬ p1 < 0 := fun _ => by
          have h1 := Int32.lt_iff_toInt_lt.mp hneg
          have h2 : ¬ p1.toInt < (4 : Int32).toInt := fun h3 => h (Int32.lt_iff_toInt_lt.mpr h3)
          have h3 : (0 : Int32).toInt = 0 := by decide
          have h4 : (4 : Int32).toInt = 4 := by decide
          omega
        exact this hneg)
    refine ⟨-1, im', ?_, by rw [if_neg cn]⟩
    rw [if_neg (show ¬ p1 = 0 from hne 0 (by omega)), if_neg (show ¬ p1 = 1 from hne 1 (by omega)), if_neg (show ¬ p1 = 2 from hne 2 (by omega)), hb, bd_s]
  rw [if_pos cn]
  obtain ⟨v, hv, e⟩ := nI_of (show ¬ p1 < 0 from fun h => by
    have h1 := Int32.lt_iff_toInt_lt.mp h
    have h2 := Int32.le_iff_toInt_le.mp cn
    omega)
  subst e
  have l3 : ((3 : Int32) ≤ nI v) = (3 ≤ v) := le_lit (a := 3) (by omega) hv
  have l4 : (nI v < (4 : Int32)) = (v < 4) := lt_lit (b := 4) hv (by omega)
  have l8 : ((8 : Int32) ≤ nI v) = (8 ≤ v) := le_lit (a := 8) (by omega) hv
  have l12 : ((12 : Int32) ≤ nI v) = (12 ≤ v) := le_lit (a := 12) (by omega) hv
  have e0 : (nI v = (0 : Int32)) = (v = 0) := propext ⟨fun h => nI_inj hv (by omega) (h : nI v = nI 0), fun h => by rw [h]; rfl⟩
  have e1 : (nI v = (1 : Int32)) = (v = 1) := propext ⟨fun h => nI_inj hv (by omega) (h : nI v = nI 1), fun h => by rw [h]; rfl⟩
  have e2 : (nI v = (2 : Int32)) = (v = 2) := propext ⟨fun h => nI_inj hv (by omega) (h : nI v = nI 2), fun h => by rw [h]; rfl⟩
  rw [gd_t (ixb_t (by omega) (by omega)), gd_t (ixb_t (by omega) (by omega)), gd_t (ixb_t (by omega) (by omega)), nI_clamp (by omega), ← q0, ← q1, ← q2]
  by_cases v0 : v = 0
  · subst v0
    exact ⟨H_statementRow i, M_images, by rw [if_pos (show nI 0 = (0 : Int32) from rfl), bd_s], by rw [if_neg (by decide), if_pos (show nI 0 = (0 : Int32) from rfl)]⟩
  by_cases v1 : v = 1
  · subst v1
    exact ⟨H_firstRow i, M_images, by rw [if_neg (by decide), if_pos (show nI 1 = (1 : Int32) from rfl), bd_s], by rw [if_neg (by decide), if_neg (by decide), if_pos (show nI 1 = (1 : Int32) from rfl)]⟩
  by_cases v2 : v = 2
  · subst v2
    exact ⟨H_secondRow i, M_images, by rw [if_neg (by decide), if_neg (by decide), if_pos (show nI 2 = (2 : Int32) from rfl), bd_s], by rw [if_neg (by decide), if_neg (by decide), if_neg (by decide)]⟩
  have hQ : ∀ k : Nat, k ≤ 8 → f_Q_hit_II_B88 Q_hitKind (nI c) Q_hitOf Q_hitOne Q_hitTwo Q_hitTerms 0 (nI i) (nI v) (nI k) = if v < 4 then some (-1, 0) else if v < 4 + k then some (Q_hitTerms (8 * i + (v - 4)), 0) else some (-1, 0) := by
    intro k hk
    unfold f_Q_hit_II_B88
    have l4k : (nI v < (4 : Int32) + nI k) = (v < 4 + k) := by
      rw [show (4 : Int32) + nI k = nI (4 + k) from nI_add 4 k]
      exact lt_lit hv (by omega)
    simp only [l4, l4k]
    by_cases d1 : v < 4
    · rw [if_pos d1, if_pos d1]
    rw [if_neg d1, if_neg d1]
    by_cases d2 : v < 4 + k
    · rw [if_pos d2, if_pos d2, nI_8x, nI_add, show nI (8 * i + v) - (4 : Int32) = nI (8 * i + (v - 4)) from (nI_sub (by omega) : nI (8 * i + v) - nI 4 = nI (8 * i + v - 4)).trans (by rw [show 8 * i + v - 4 = 8 * i + (v - 4) by omega]), gd_t (ixb_t (by omega) (by omega)), nI_clamp (by omega)]
    · rw [if_neg d2, if_neg d2]
  rw [if_neg (by rw [e0]; exact v0), if_neg (by rw [e1]; exact v1), if_neg (by rw [e2]; exact v2), if_pos (by rw [l3]; omega)]
  by_cases v3 : v < 4
  · obtain ⟨im', hb⟩ := hlow (by rw [l4]; exact v3)
    refine ⟨-1, im', by rw [hb, bd_s], ?_⟩
    have hQ0 := hQ 0 (by omega)
    have hQ4 := hQ 4 (by omega)
    have hQ8 := hQ 8 (by omega)
    rw [if_pos v3] at hQ0 hQ4 hQ8
    rw [show (4 : Int32) = nI 4 from rfl, show (8 : Int32) = nI 8 from rfl, show (0 : Int32) = nI 0 from rfl] at *
    rw [hQ0, hQ4, hQ8]
    split
    · rfl
    · split <;> rfl
  unfold f_X_binding f_X_binding_B62 f_H_kind f_H_subject
  simp only [bd_s, hst, hse, l4, l8, l12, v3, if_false]
  have n12 : ¬ (1 : Int32) = 2 := by decide
  have n21 : ¬ (2 : Int32) = 1 := by decide
  have n31 : ¬ (3 : Int32) = 1 := by decide
  have n32 : ¬ (3 : Int32) = 2 := by decide
  rcases hk with ⟨-, -, hk⟩ | ⟨a1, a2, p, hp, a3, a4⟩ | ⟨a1, a2, g, hg, a3, a4⟩ | ⟨a1, a2⟩
  · omega
  · simp only [a1, a2, if_true, n12, if_false]
    have hQ4 := hQ 4 (by omega)
    rw [a2, if_neg v3] at hQ4
    rw [show (4 : Int32) = nI 4 from rfl, hQ4]
    by_cases v8 : 8 ≤ v
    · exact ⟨-1, M_images, by rw [if_pos v8, bd_s], by rw [if_neg (by omega)]⟩
    · rw [if_neg v8, if_pos (by omega)]
      obtain ⟨t, ht, b1, σ, b2, b3⟩ := a4 i (by omega)
      rw [a3, b1]
      rcases matches_eq w ct true hp (by omega) ht M_images with ⟨im, τ, c1, c2, c3⟩ | ⟨im, c1, c2⟩
      · have hτ : τ = σ := Mt_uni w hp c2 b2
        obtain ⟨r, r1, r2⟩ := imageOfLeaf_eq (M_images := im) (fh := true) (h := 38 + (v - 4)) w ct hn hp c2 c3 (by unfold fre; rw [if_pos rfl]; omega)
        refine ⟨r, im, ?_, ?_⟩
        · rw [show (4123168604160 : Int64) = bitsOf true from rfl, c1, bd_s, show ((38 : Int32) + nI v) - nI 4 = nI (38 + (v - 4)) from (by rw [show (38 : Int32) + nI v = nI (38 + v) from nI_add 38 v, nI_sub (by omega), show 38 + v - 4 = 38 + (v - 4) by omega]), r1, bd_s, bd_s]
        · have := b3 (v - 4) (by omega)
          rw [hτ] at r2
          rw [rf_uni w r2 this]
      · exact absurd b2 (c2 σ)
  · simp only [a1, a2, if_true, n21, if_false]
    have hQ8 := hQ 8 (by omega)
    rw [a2, if_neg v3] at hQ8
    rw [show (8 : Int32) = nI 8 from rfl, hQ8]
    by_cases v12 : 12 ≤ v
    · exact ⟨-1, M_images, by rw [if_pos v12, bd_s], by rw [if_neg (by omega)]⟩
    · rw [if_neg v12, if_pos (by omega)]
      obtain ⟨s, hs, b1, b4, σ, b2, b3⟩ := a4 i (by omega)
      have hcc := (S.2.2.2 s hs).1.2.2.1
      rw [a3, b1, sconcl_eq S hs, bd_s]
      rcases matches_eq w ct false hcc (by omega) hg M_images with ⟨im, τ, c1, c2, c3⟩ | ⟨im, c1, c2⟩
      · have hτ : τ = σ := Mt_uni w hcc c2 b2
        obtain ⟨r, r1, r2⟩ := imageOfLeaf_eq (M_images := im) (fh := false) (h := 30 + (v - 4)) w ct hn hcc c2 c3 (by unfold fre; rw [if_neg (by decide)]; omega)
        refine ⟨r, im, ?_, ?_⟩
        · rw [show (273804165120 : Int64) = bitsOf false from rfl, c1, bd_s, show ((30 : Int32) + nI v) - (4 : Int32) = nI (30 + (v - 4)) from (by rw [show (30 : Int32) + nI v = nI (30 + v) from nI_add 30 v, show (4 : Int32) = nI 4 from rfl, nI_sub (by omega), show 30 + v - 4 = 30 + (v - 4) by omega]), r1, bd_s, bd_s]
        · have := b3 (v - 4) (by omega)
          rw [hτ] at r2
          rw [rf_uni w r2 this]
      · exact absurd b2 (c2 σ)
  · simp only [a1, a2, n31, n32, if_false]
    have hQ0 := hQ 0 (by omega)
    rw [a2, if_neg v3, if_neg (by omega)] at hQ0
    exact ⟨-1, M_images, by rw [bd_s], hQ0⟩
end
