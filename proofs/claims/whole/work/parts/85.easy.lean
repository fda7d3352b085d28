theorem nI_sub {a b : Nat} (h : b ≤ a) : nI a - nI b = nI (a - b) := by
  obtain ⟨d, rfl⟩ : ∃ d, a = b + d := ⟨a - b, by omega⟩
  rw [← nI_add, Nat.add_sub_cancel_left]
  rw [Int32.add_comm, Int32.add_sub_cancel]
section
variable {tt : Nat → Tm} {n N m : Nat} {ar : Nat → Int32} {sz : Nat → Nat} {cc pc : Nat → Nat} {pp : Nat → Nat → Nat} {T_count : Int32} {T_heads T_places T_olders T_sizes : Nat → Int32} {T_withins : Nat → Int64} {T_newest : Nat → Int32} {Q_all Q_thrown : Int32} {Q_kinds Q_which Q_firsts Q_seconds Q_thirds Q_nexts Q_heads Q_names Q_variables Q_holes Q_sizes : Nat → Int32}
variable {S_count : Int32} {S_premises S_premiseCounts S_conclusions : Nat → Int32} {Q_statements : Int32} {Q_premises Q_counts Q_conclusions : Nat → Int32} {H_kind H_subject H_count : Int32} {H_statementRow H_firstRow H_secondRow : Nat → Int32} {Q_hitKind Q_hits : Int32} {Q_hitOf Q_hitOne Q_hitTwo Q_hitTerms : Nat → Int32} {O_out : Nat → Int64}
variable {Q_places X_arities : Nat → Int32} {X_namesUsed E_tries E_taken E_first Q_tries Q_takenAll Q_takenFirst : Int32}
theorem both_term (R : RT tt n N sz ar T_count T_heads T_places T_olders T_sizes T_withins T_newest Q_all Q_kinds Q_which Q_firsts Q_seconds Q_thirds Q_nexts Q_heads Q_names Q_variables Q_holes Q_sizes) (p0 p1 : Int32) : ∃ v, f_X_term T_count N T_heads (3*N) T_places N T_sizes p0 p1 = some v ∧ f_Q_term Q_thrown Q_all Q_kinds Q_which Q_firsts Q_seconds Q_thirds Q_sizes p0 p1 = some (v, 0) := by
  obtain ⟨w, hn, ct, qt, hq⟩ := R
  unfold f_X_term f_Q_term
  rw [isTerm_has, qt.1, ct.1]
  rcases has_em (n := n) (by omega) p0 with ⟨t, ht, e, h⟩ | ⟨-, h⟩
  case inr => rw [h, bd_s, bd_s, if_pos rfl, if_pos rfl]; exact ⟨_, rfl, rfl⟩
  obtain ⟨g, hg, eg, -, -⟩ := w.2.1 t ht
  have hh := head_t ct ht eg
  rw [ct.1] at hh
  obtain ⟨k1, k2⟩ := qt.2.2.2.1 t ht g eg
  have hpl : ∀ k : Fin 3, ∃ x, f_T_place (nI n) (3 * N) T_places (nI t) (nI k.val) = some x ∧ f_Q_part Q_firsts Q_seconds Q_thirds (nI t) (nI k.val) = some x := by
    intro k
    obtain ⟨x, x1, x2⟩ := qpart qt ht k
    have y1 := place_v ct ht k.isLt
    rw [ct.1] at y1
    refine ⟨x, ?_, x1⟩
    rw [y1, rf_uni w (rf_mono (by omega) (ct.2.2.2.2.2.2.1 t ht k)) (rf_mono (by omega) x2)]
  simp only [h, bd_s, if_neg (show ¬ (1 : Int32) = 0 by decide)]
  rw [e, hh, bd_s]
  by_cases c0 : p1 = 0
  · rw [if_pos c0, if_pos c0, gd_t (ixb_t (by omega) (by omega)), nI_clamp (by omega), k1]
    refine ⟨_, ?_, rfl⟩
    unfold kd
    by_cases c30 : g < 30
    · rw [if_neg (show ¬ (30 : Int32) ≤ nI g from (nI_ge c30 (by omega) : ¬ nI 30 ≤ nI g)), if_pos c30]; rfl
    · rw [if_pos (show (30 : Int32) ≤ nI g from ((nI_leI (by omega) (by omega)).mpr (by omega) : nI 30 ≤ nI g)), if_neg c30]
      by_cases c38 : g < 38
      · rw [if_neg (show ¬ (38 : Int32) ≤ nI g from (nI_ge c38 (by omega) : ¬ nI 38 ≤ nI g)), if_pos c38]; rfl
      · rw [if_pos (show (38 : Int32) ≤ nI g from ((nI_leI (by omega) (by omega)).mpr (by omega) : nI 38 ≤ nI g)), if_neg c38]; rfl
  rw [if_neg c0, if_neg c0]
  by_cases c1 : p1 = 1
  · rw [if_pos c1, if_pos c1, gd_t (ixb_t (by omega) (by omega)), nI_clamp (by omega), k2]
    refine ⟨_, ?_, rfl⟩
    unfold wh
    by_cases c30 : g < 30
    · rw [if_neg (show ¬ (30 : Int32) ≤ nI g from (nI_ge c30 (by omega) : ¬ nI 30 ≤ nI g)), if_pos c30]
    · rw [if_pos (show (30 : Int32) ≤ nI g from ((nI_leI (by omega) (by omega)).mpr (by omega) : nI 30 ≤ nI g)), if_neg c30]
      by_cases c38 : g < 38
      · rw [if_neg (show ¬ (38 : Int32) ≤ nI g from (nI_ge c38 (by omega) : ¬ nI 38 ≤ nI g)), if_pos c38, show nI g - (30 : Int32) = nI (g - 30) from nI_sub (b := 30) (by omega)]
      · rw [if_pos (show (38 : Int32) ≤ nI g from ((nI_leI (by omega) (by omega)).mpr (by omega) : nI 38 ≤ nI g)), if_neg c38, show nI g - (38 : Int32) = nI (g - 38) from nI_sub (b := 38) (by omega)]
  rw [if_neg c1, if_neg c1]
  by_cases c2 : p1 = 2
  · obtain ⟨x, x1, x2⟩ := hpl 0
    rw [if_pos c2, if_pos c2, c2, show ((2 : Int32) - 2) = nI (0 : Fin 3).val by decide, x1, x2]
    exact ⟨x, rfl, rfl⟩
  rw [if_neg c2, if_neg c2]
  by_cases c3 : p1 = 3
  · obtain ⟨x, x1, x2⟩ := hpl 1
    rw [if_pos c3, if_pos c3, c3, show ((3 : Int32) - 2) = nI (1 : Fin 3).val by decide, x1, x2]
    exact ⟨x, rfl, rfl⟩
  rw [if_neg c3, if_neg c3]
  by_cases c4 : p1 = 4
  · obtain ⟨x, x1, x2⟩ := hpl 2
    rw [if_pos c4, if_pos c4, c4, show ((4 : Int32) - 2) = nI (2 : Fin 3).val by decide, x1, x2]
    exact ⟨x, rfl, rfl⟩
  rw [if_neg c4, if_neg c4]
  by_cases c5 : p1 = 5
  · have hs := (size_eq ct (Or.inr ⟨t, ht, rfl, rfl⟩ : rf tt n (nI t) (tt t))).1
    rw [ct.1] at hs
    rw [if_pos c5, if_pos c5, hs, gd_t (ixb_t (by omega) (by omega)), nI_clamp (by omega), (hq t ht).2.2.2.1]
    refine ⟨nI (sz t), ?_, rfl⟩
    unfold szo
    rw [bd_s, if_neg (nI_nm1 (by omega)), nI_clamp (by omega)]
  · rw [if_neg c5, if_neg c5]
    exact ⟨_, rfl, rfl⟩
theorem both_forget (S : RS tt n m cc pc pp S_count S_premises S_premiseCounts S_conclusions Q_statements Q_premises Q_counts Q_conclusions) : ∃ (v : Int32) (m' : Nat) (S_count' Q_statements' H_kind' H_subject' H_count' Q_hitKind' Q_hits' : Int32), f_X_forget S_count H_kind H_subject H_count = some (v, S_count', H_kind', H_subject', H_count') ∧ f_Q_forget Q_thrown Q_statements Q_hitKind Q_hits = some (v, 0, Q_statements', Q_hitKind', Q_hits') ∧
    RS tt n m' cc pc pp S_count' S_premises S_premiseCounts S_conclusions Q_statements' Q_premises Q_counts Q_conclusions ∧ RH tt n m' cc pc H_kind' H_subject' H_count' H_statementRow H_firstRow H_secondRow Q_hitKind' Q_hits' Q_hitOf Q_hitOne Q_hitTwo Q_hitTerms := by
  obtain ⟨s1, s2, s3, s4⟩ := S
  unfold f_X_forget f_H_clear f_H_begin f_S_dropLatest f_Q_forget f_Q_forget_B17 f_Q_forget_B32
  cases m with
  | zero =>
    rw [s1, s2, if_pos nI_0, if_pos (show nI 0 ≤ 0 by decide), if_pos rfl]
    exact ⟨0, 0, nI 0, nI 0, -1, -1, 0, 0, 0, rfl, rfl, ⟨rfl, rfl, s3, s4⟩, ⟨0, by omega, rfl, rfl, fun i hi => by omega, Or.inl ⟨rfl, rfl, rfl⟩⟩⟩
  | succ m =>
    rw [s1, s2, if_neg (nI_ne0 (by omega) (by omega)), if_neg (nI_nle (by omega) (by omega)), if_neg (show ¬ (1 : Int32) = 0 by decide)]
    refine ⟨1, m, nI m, nI m, -1, -1, 0, 0, 0, ?_, ?_, ⟨rfl, rfl, by omega, fun s hs => s4 s (by omega)⟩, ⟨0, by omega, rfl, rfl, fun i hi => by omega, Or.inl ⟨rfl, rfl, rfl⟩⟩⟩
    · rw [nmE, nI_pred]; rfl
    · rw [nmE, nI_pred]; rfl
theorem both_tried (h1 : E_tries = Q_tries) (h2 : E_taken = Q_takenAll) (h3 : E_first = Q_takenFirst) (p0 : Int32) : ∃ v, f_X_tried E_tries E_taken E_first p0 = some v ∧ f_Q_tried Q_thrown Q_tries Q_takenAll Q_takenFirst p0 = some (v, 0) := by
  unfold f_X_tried f_Q_tried f_E_tries f_E_taken f_E_first
  rw [h1, h2, h3]
  by_cases c0 : p0 = 0
  · rw [if_pos c0, if_pos c0]; exact ⟨_, rfl, rfl⟩
  rw [if_neg c0, if_neg c0]
  by_cases c1 : p0 = 1
  · rw [if_pos c1, if_pos c1]; exact ⟨_, rfl, rfl⟩
  rw [if_neg c1, if_neg c1]
  by_cases c2 : p0 = 2
  · rw [if_pos c2, if_pos c2]; exact ⟨_, rfl, rfl⟩
  · rw [if_neg c2, if_neg c2]; exact ⟨_, rfl, rfl⟩
theorem about_loop (har : ∀ h, h < 30 → Q_places h = ar h) (thr p0 : Int32) : ∀ d, d ≤ 30 → ∀ fuel, d < fuel → f_Q_about_L9 Q_all Q_statements Q_hits Q_places fuel thr p0 (nI (cnt (fun h => decide (ar h ≠ -1)) (30 - d))) (nI (30 - d)) =
    some (if p0 = 0 then Q_all else if p0 = 1 then Q_statements else if p0 = 2 then nI (cnt (fun h => decide (ar h ≠ -1)) 30) else if p0 = 3 then Q_hits else -1, thr) := by
  intro d
  induction d with
  | zero =>
    intro _ fuel hf
    obtain ⟨f, rfl⟩ : ∃ f, fuel = f + 1 := ⟨fuel - 1, by omega⟩
    rw [f_Q_about_L9, if_pos (show (30 : Int32) ≤ nI (30 - 0) by decide)]
    by_cases c0 : p0 = 0
    · simp only [if_pos c0]
    simp only [if_neg c0]
    by_cases c1 : p0 = 1
    · simp only [if_pos c1]
    simp only [if_neg c1]
    by_cases c2 : p0 = 2
    · simp only [if_pos c2]
    simp only [if_neg c2]
    by_cases c3 : p0 = 3
    · simp only [if_pos c3]
    · simp only [if_neg c3]
  | succ d ih =>
    intro hd fuel hf
    obtain ⟨f, rfl⟩ : ∃ f, fuel = f + 1 := ⟨fuel - 1, by omega⟩
    obtain ⟨k, hk⟩ : ∃ k, k = 30 - (d + 1) := ⟨_, rfl⟩
    have ih2 := ih (by omega) f (by omega)
    rw [show 30 - d = k + 1 by omega, cnt_succ] at ih2
    rw [← hk, f_Q_about_L9, if_neg (show ¬ (30 : Int32) ≤ nI k from (nI_ge (by omega) (by omega) : ¬ nI 30 ≤ nI k)), gd_t (ixb_t (by omega) (by omega)), nI_clamp (by omega), har k (by omega), ← ih2]
    by_cases c : ar k = -1
    · rw [if_pos c, nmE, nmE, nI_1, if_neg (by simp [c]), Nat.zero_add, Int32.add_zero]
    · rw [if_neg c, nmE, nmE, nI_1, nI_1, if_pos (by simp [c]), Nat.add_comm 1]
theorem both_about (R : RT tt n N sz ar T_count T_heads T_places T_olders T_sizes T_withins T_newest Q_all Q_kinds Q_which Q_firsts Q_seconds Q_thirds Q_nexts Q_heads Q_names Q_variables Q_holes Q_sizes) (A : RA ar X_arities Q_places X_namesUsed) (S : RS tt n m cc pc pp S_count S_premises S_premiseCounts S_conclusions Q_statements Q_premises Q_counts Q_conclusions) (H : RH tt n m cc pc H_kind H_subject H_count H_statementRow H_firstRow H_secondRow Q_hitKind Q_hits Q_hitOf Q_hitOne Q_hitTwo Q_hitTerms) (p0 : Int32) : ∃ v, f_X_about X_namesUsed T_count S_count H_count p0 = some v ∧ f_Q_about Q_thrown Q_all Q_statements Q_hits Q_places p0 = some (v, 0) := by
  have hl := about_loop (Q_all := Q_all) (Q_statements := Q_statements) (Q_hits := Q_hits) (fun h hh => (A.1 h hh).2.1) 0 p0 30 (by omega) FU (by unfold FU; omega)
  rw [show 30 - 30 = 0 from rfl, show cnt (fun h => decide (ar h ≠ -1)) 0 = 0 from rfl, nI_0] at hl
  refine ⟨_, ?_, hl⟩
  obtain ⟨c, -, h2, h3, -⟩ := H
  unfold f_X_about f_T_count f_S_count f_H_count
  rw [R.2.2.1.1, R.2.2.2.1.1, S.1, S.2.1, h2, h3, A.2]
  by_cases c0 : p0 = 0
  · rw [if_pos c0, if_pos c0]; rfl
  rw [if_neg c0, if_neg c0]
  by_cases c1 : p0 = 1
  · rw [if_pos c1, if_pos c1]; rfl
  rw [if_neg c1, if_neg c1]
  by_cases c2 : p0 = 2
  · rw [if_pos c2, if_pos c2]
  rw [if_neg c2, if_neg c2]
  by_cases c3 : p0 = 3
  · rw [if_pos c3, if_pos c3]; rfl
  · rw [if_neg c3, if_neg c3]
end
