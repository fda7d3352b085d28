/-- class and reference hold one table of at most a hundred terms -/
def RT (tt : Nat → Tm) (n N : Nat) (sz : Nat → Nat) (ar : Nat → Int32) (T_count : Int32) (T_heads T_places T_olders T_sizes : Nat → Int32) (T_withins : Nat → Int64) (T_newest : Nat → Int32)
    (Q_all : Int32) (Q_kinds Q_which Q_firsts Q_seconds Q_thirds Q_nexts Q_heads Q_names Q_variables Q_holes Q_sizes : Nat → Int32) : Prop :=
  WF tt n ar ∧ n ≤ 100 ∧ CT tt n N sz T_count T_heads T_places T_olders T_sizes T_withins T_newest ∧ QTb tt n Q_all Q_kinds Q_which Q_firsts Q_seconds Q_thirds Q_nexts Q_heads ∧ QK tt n sz Q_names Q_variables Q_holes Q_sizes
section
variable {tt : Nat → Tm} {n N : Nat} {ar : Nat → Int32} {sz : Nat → Nat} {T_count : Int32} {T_heads T_places T_olders T_sizes : Nat → Int32} {T_withins : Nat → Int64} {T_newest : Nat → Int32} {Q_all Q_thrown : Int32} {Q_kinds Q_which Q_firsts Q_seconds Q_thirds Q_nexts Q_heads Q_names Q_variables Q_holes Q_sizes Q_places X_arities : Nat → Int32} {X_namesUsed : Int32} {O_out : Nat → Int64}
theorem both_make (R : RT tt n N sz ar T_count T_heads T_places T_olders T_sizes T_withins T_newest Q_all Q_kinds Q_which Q_firsts Q_seconds Q_thirds Q_nexts Q_heads Q_names Q_variables Q_holes Q_sizes) {h : Nat} {C : Fin 3 → Tm} {a b c : Int32} (hh : h < 42) (hl : 30 ≤ h → ∀ k, C k = nilT) (hari : h < 30 → ∃ m, m ≤ 3 ∧ ar h = nI m ∧ ∀ k, (C k = nilT ↔ m ≤ k.val))
    (ha : rf tt n a (C 0)) (hb : rf tt n b (C 1)) (hc : rf tt n c (C 2)) :
    ∃ (r : Int32) (tt' : Nat → Tm) (n' : Nat) (sz' : Nat → Nat) (T_count' : Int32) (T_heads' T_places' T_olders' T_sizes' : Nat → Int32) (T_withins' : Nat → Int64) (T_newest' : Nat → Int32) (Q_all' : Int32) (Q_kinds' Q_which' Q_firsts' Q_seconds' Q_thirds' Q_nexts' Q_heads' Q_names' Q_variables' Q_holes' Q_sizes' : Nat → Int32),
      f_T_make T_count N T_heads (3*N) T_places N T_olders N T_sizes N T_withins T_newest (nI h) a b c (100 : Int32) = some (r, T_count', T_heads', T_places', T_olders', T_sizes', T_withins', T_newest') ∧ f_Q_make Q_all Q_kinds Q_which Q_firsts Q_seconds Q_thirds Q_nexts Q_heads Q_names Q_variables Q_holes Q_sizes (nI (kd h)) (nI (wh h)) a b c (100 : Int32) = some (r, Q_all', Q_kinds', Q_which', Q_firsts', Q_seconds', Q_thirds', Q_nexts', Q_heads', Q_names', Q_variables', Q_holes', Q_sizes') ∧ RT tt' n' N sz' ar T_count' T_heads' T_places' T_olders' T_sizes' T_withins' T_newest' Q_all' Q_kinds' Q_which' Q_firsts' Q_seconds' Q_thirds' Q_nexts' Q_heads' Q_names' Q_variables' Q_holes' Q_sizes' ∧ (∀ u, u < n → tt' u = tt u) ∧ n ≤ n' ∧
      ((r = -1 ∧ n' = n ∧ n = 100) ∨ ∃ u, u < n' ∧ r = nI u ∧ tt' u = mkT h C) := by
  obtain ⟨w, hn, ct, qt, hq⟩ := R
  have e100 : nI 100 = (100 : Int32) := by decide
  by_cases hin : ∃ u, u < n ∧ tt u = mkT h C
  · obtain ⟨u, hu, eu⟩ := hin
    exact ⟨nI u, tt, n, sz, _, _, _, _, _, _, _, _, _, _, _, _, _, _, _, _, _, _, _, make_old w ct hh ha hb hc _ hu eu, qmake_old w qt hh ha hb hc _ hu eu, ⟨w, hn, ct, qt, hq⟩, fun u _ => rfl, Nat.le_refl n, Or.inr ⟨u, hu, rfl, eu⟩⟩
  · have hnew : ∀ u, u < n → tt u ≠ mkT h C := fun u hu e => hin ⟨u, hu, e⟩
    by_cases h100 : n = 100
    · have m1 := make_full w ct hh ha hb hc (most := 100) (by omega) hnew
      have m2 := qmake_full (Q_names := Q_names) (Q_variables := Q_variables) (Q_holes := Q_holes) (Q_sizes := Q_sizes) w qt hh ha hb hc hnew
      rw [e100] at m1
      rw [h100, e100] at m2
      exact ⟨-1, tt, n, sz, _, _, _, _, _, _, _, _, _, _, _, _, _, _, _, _, _, _, _, m1, m2, ⟨w, hn, ct, qt, hq⟩, fun u _ => rfl, Nat.le_refl n, Or.inl ⟨rfl, rfl, h100⟩⟩
    · obtain ⟨a1, a2, a3, a4, a5, a6, a7, m1, ct'⟩ := make_new w ct hh ha hb hc (most := 100) (by omega) (by omega) (by have := ct.2.2.1; omega) hnew
      obtain ⟨b1, b2, b3, b4, b5, b6, b7, b8, b9, b10, b11, b12, m2, qt', hq'⟩ := qmake_new w qt hq hh ha hb hc (by omega) hnew
      rw [e100] at m1
      have hin2 : ∀ k, C k = nilT ∨ ∃ u, u < n ∧ tt u = C k := fin3 (rf_in ha) (rf_in hb) (rf_in hc)
      exact ⟨nI n, _, n + 1, _, a1, a2, a3, a4, a5, a6, a7, b1, b2, b3, b4, b5, b6, b7, b8, b9, b10, b11, b12, m1, m2, ⟨w.grow hh hl hari hin2 hnew, by omega, ct', qt', hq'⟩, ext_lt, by omega, Or.inr ⟨n, by omega, rfl, ext_s _ _ _⟩⟩
theorem out_set (v : Int32) : gd (ixb 0 1) (nm (vp_updL O_out (0 : Int32).toNatClampNeg v.toInt64) fun g => some g) = some (vp_updL O_out 0 v.toInt64) := rfl
theorem ixb01 : ixb (0 : Int32) 1 = true := by decide
theorem clamp0 : (0 : Int32).toNatClampNeg = 0 := by decide
theorem both_leaf (R : RT tt n N sz ar T_count T_heads T_places T_olders T_sizes T_withins T_newest Q_all Q_kinds Q_which Q_firsts Q_seconds Q_thirds Q_nexts Q_heads Q_names Q_variables Q_holes Q_sizes) (p0 p1 : Int32) (hp1 : p1 = 0 ∨ p1 = 1) :
    ∃ (k b : Int32) (tt' : Nat → Tm) (n' : Nat) (sz' : Nat → Nat) (T_count' : Int32) (T_heads' T_places' T_olders' T_sizes' : Nat → Int32) (T_withins' : Nat → Int64) (T_newest' : Nat → Int32) (Q_all' : Int32) (Q_kinds' Q_which' Q_firsts' Q_seconds' Q_thirds' Q_nexts' Q_heads' Q_names' Q_variables' Q_holes' Q_sizes' : Nat → Int32) (O_out' : Nat → Int64),
      f_L_leaf T_count N T_heads (3*N) T_places N T_olders N T_sizes N T_withins T_newest O_out p0 p1 = some (k, T_count', T_heads', T_places', T_olders', T_sizes', T_withins', T_newest', O_out') ∧ f_Q_leaf Q_thrown Q_all Q_kinds Q_which Q_firsts Q_seconds Q_thirds Q_nexts Q_heads Q_names Q_variables Q_holes Q_sizes p0 p1 = some (b, k, Q_all', Q_kinds', Q_which', Q_firsts', Q_seconds', Q_thirds', Q_nexts', Q_heads', Q_names', Q_variables', Q_holes', Q_sizes') ∧ RT tt' n' N sz' ar T_count' T_heads' T_places' T_olders' T_sizes' T_withins' T_newest' Q_all' Q_kinds' Q_which' Q_firsts' Q_seconds' Q_thirds' Q_nexts' Q_heads' Q_names' Q_variables' Q_holes' Q_sizes' ∧ (∀ u, u < n → tt' u = tt u) ∧ n ≤ n' ∧ (k = 0 → O_out' 0 = b.toInt64) := by
  have rz : f_Q_refuses Q_thrown 0 = some (0, 0) := by unfold f_Q_refuses; rw [if_pos (by decide)]
  have r1 : f_Q_refuses Q_thrown 1 = some (1, 1) := by unfold f_Q_refuses; rw [if_neg (by decide)]
  have hbadQ : ∀ x1 x2, f_Q_leaf_B24 Q_thrown Q_all Q_kinds Q_which Q_firsts Q_seconds Q_thirds Q_nexts Q_heads Q_names Q_variables Q_holes Q_sizes x1 x2 1 = some (0, 1, Q_all, Q_kinds, Q_which, Q_firsts, Q_seconds, Q_thirds, Q_nexts, Q_heads, Q_names, Q_variables, Q_holes, Q_sizes) := by
    intro x1 x2
    unfold f_Q_leaf_B24
    rw [r1, bd_s, if_neg (by decide)]
  have hbad : f_L_leaf T_count N T_heads (3*N) T_places N T_olders N T_sizes N T_withins T_newest O_out p0 p1 = some (1, T_count, T_heads, T_places, T_olders, T_sizes, T_withins, T_newest, O_out) → f_Q_leaf Q_thrown Q_all Q_kinds Q_which Q_firsts Q_seconds Q_thirds Q_nexts Q_heads Q_names Q_variables Q_holes Q_sizes p0 p1 = some (0, 1, Q_all, Q_kinds, Q_which, Q_firsts, Q_seconds, Q_thirds, Q_nexts, Q_heads, Q_names, Q_variables, Q_holes, Q_sizes) → ∃ (k b : Int32) (tt' : Nat → Tm) (n' : Nat) (sz' : Nat → Nat) (T_count' : Int32) (T_heads' T_places' T_olders' T_sizes' : Nat → Int32) (T_withins' : Nat → Int64) (T_newest' : Nat → Int32) (Q_all' : Int32) (Q_kinds' Q_which' Q_firsts' Q_seconds' Q_thirds' Q_nexts' Q_heads' Q_names' Q_variables' Q_holes' Q_sizes' : Nat → Int32) (O_out' : Nat → Int64),
      f_L_leaf T_count N T_heads (3*N) T_places N T_olders N T_sizes N T_withins T_newest O_out p0 p1 = some (k, T_count', T_heads', T_places', T_olders', T_sizes', T_withins', T_newest', O_out') ∧ f_Q_leaf Q_thrown Q_all Q_kinds Q_which Q_firsts Q_seconds Q_thirds Q_nexts Q_heads Q_names Q_variables Q_holes Q_sizes p0 p1 = some (b, k, Q_all', Q_kinds', Q_which', Q_firsts', Q_seconds', Q_thirds', Q_nexts', Q_heads', Q_names', Q_variables', Q_holes', Q_sizes') ∧ RT tt' n' N sz' ar T_count' T_heads' T_places' T_olders' T_sizes' T_withins' T_newest' Q_all' Q_kinds' Q_which' Q_firsts' Q_seconds' Q_thirds' Q_nexts' Q_heads' Q_names' Q_variables' Q_holes' Q_sizes' ∧ (∀ u, u < n → tt' u = tt u) ∧ n ≤ n' ∧ (k = 0 → O_out' 0 = b.toInt64) :=
    fun h1 h2 => ⟨1, 0, tt, n, sz, _, _, _, _, _, _, _, _, _, _, _, _, _, _, _, _, _, _, _, _, h1, h2, R, fun u _ => rfl, Nat.le_refl n, fun e => absurd e (by decide)⟩
  have hgood : ∀ (h w : Nat), h < 42 → 30 ≤ h → wh h = w → (f_X_leaf T_count N T_heads (3*N) T_places N T_olders N T_sizes N T_withins T_newest p0 p1 = f_X_leaf_B39 N (3*N) N N N T_count T_heads T_places T_olders T_sizes T_withins T_newest p0 (nI (h - w))) → p0 = nI w → w ≤ h → f_Q_leaf Q_thrown Q_all Q_kinds Q_which Q_firsts Q_seconds Q_thirds Q_nexts Q_heads Q_names Q_variables Q_holes Q_sizes p0 p1 = f_Q_leaf_B43 0 Q_all Q_kinds Q_which Q_firsts Q_seconds Q_thirds Q_nexts Q_heads Q_names Q_variables Q_holes Q_sizes p0 (nI (kd h)) → ∃ (k b : Int32) (tt' : Nat → Tm) (n' : Nat) (sz' : Nat → Nat) (T_count' : Int32) (T_heads' T_places' T_olders' T_sizes' : Nat → Int32) (T_withins' : Nat → Int64) (T_newest' : Nat → Int32) (Q_all' : Int32) (Q_kinds' Q_which' Q_firsts' Q_seconds' Q_thirds' Q_nexts' Q_heads' Q_names' Q_variables' Q_holes' Q_sizes' : Nat → Int32) (O_out' : Nat → Int64),
      f_L_leaf T_count N T_heads (3*N) T_places N T_olders N T_sizes N T_withins T_newest O_out p0 p1 = some (k, T_count', T_heads', T_places', T_olders', T_sizes', T_withins', T_newest', O_out') ∧ f_Q_leaf Q_thrown Q_all Q_kinds Q_which Q_firsts Q_seconds Q_thirds Q_nexts Q_heads Q_names Q_variables Q_holes Q_sizes p0 p1 = some (b, k, Q_all', Q_kinds', Q_which', Q_firsts', Q_seconds', Q_thirds', Q_nexts', Q_heads', Q_names', Q_variables', Q_holes', Q_sizes') ∧ RT tt' n' N sz' ar T_count' T_heads' T_places' T_olders' T_sizes' T_withins' T_newest' Q_all' Q_kinds' Q_which' Q_firsts' Q_seconds' Q_thirds' Q_nexts' Q_heads' Q_names' Q_variables' Q_holes' Q_sizes' ∧ (∀ u, u < n → tt' u = tt u) ∧ n ≤ n' ∧ (k = 0 → O_out' 0 = b.toInt64) := by
    intro h v hh h30 ew hX ep hvh hQ
    have r0 : rf tt n (-1) nilT := Or.inl ⟨rfl, rfl⟩
    obtain ⟨r, tt', n', sz', a1, a2, a3, a4, a5, a6, a7, b1, b2, b3, b4, b5, b6, b7, b8, b9, b10, b11, b12, m1, m2, R', hx, hnn, hr⟩ := both_make R (h := h) (C := fun _ => nilT) hh (fun _ _ => rfl) (fun hlt => by omega) r0 r0 r0
    unfold f_L_leaf
    rw [hX, hQ]
    unfold f_X_leaf_B39 f_Q_leaf_B43
    rw [nmE, ep, nI_add, show h - v + v = h by omega, m1, bd_s, ← ew, m2, bd_s]
    unfold f_Q_made f_Q_made_B11
    rcases hr with ⟨e1, e2, e3⟩ | ⟨u, hu, e1, e2⟩
    · simp only [e1, if_true, bd_s]
      exact ⟨2, 0, tt', n', sz', a1, a2, a3, a4, a5, a6, a7, b1, b2, b3, b4, b5, b6, b7, b8, b9, b10, b11, b12, O_out, rfl, rfl, R', hx, hnn, fun e => absurd e (by decide)⟩
    · have hne : ¬ r = -1 := by rw [e1]; exact nI_nm1 (by have := R'.2.1; omega)
      simp only [hne, if_false, bd_s, if_true, ixb01, gd_tt, nmE, clamp0]
      exact ⟨0, r, tt', n', sz', a1, a2, a3, a4, a5, a6, a7, b1, b2, b3, b4, b5, b6, b7, b8, b9, b10, b11, b12, _, rfl, rfl, R', hx, hnn, fun _ => upL_s _ _ _⟩
  by_cases c0 : p0 < 0
  · apply hbad
    · unfold f_L_leaf f_X_leaf
      rw [if_pos c0, bd_s]
      rfl
    · unfold f_Q_leaf
      rw [if_pos c0, hbadQ]
  · obtain ⟨v, hv, ev⟩ := nI_of c0
    rcases hp1 with e1 | e1
    · by_cases c8 : v < 8
      · have c8' : p0 < (8 : Int32) := by rw [ev]; exact (nI_lt c8 (by omega) : _ < nI 8)
        refine hgood (30 + v) v (by omega) (by omega) (by unfold wh; rw [if_neg (by omega), if_pos (by omega)]; omega) ?_ ev (by omega) ?_
        · unfold f_X_leaf f_X_leaf_B15
          rw [if_neg c0, if_pos e1, if_pos c8', if_pos e1, show 30 + v - v = 30 by omega]
          rfl
        · unfold f_Q_leaf f_Q_leaf_B16 f_Q_leaf_B24
          rw [if_neg c0, if_pos e1, if_pos c8', rz, bd_s, if_pos rfl, if_pos e1, show kd (30 + v) = 1 by unfold kd; rw [if_neg (by omega), if_pos (by omega)]]
          rfl
      · have c8' : ¬ p0 < (8 : Int32) := by rw [ev]; exact (show ¬ nI v < nI 8 from nI_nlt (by omega) (by omega))
        apply hbad
        · unfold f_L_leaf f_X_leaf f_X_leaf_B15
          rw [if_neg c0, if_pos e1, if_neg c8', bd_s]
          rfl
        · unfold f_Q_leaf f_Q_leaf_B16
          rw [if_neg c0, if_pos e1, if_neg c8', hbadQ]
    · have e1' : ¬ p1 = 0 := by rw [e1]; decide
      by_cases c8 : v < 4
      · have c8' : p0 < (4 : Int32) := by rw [ev]; exact (nI_lt c8 (by omega) : _ < nI 4)
        refine hgood (38 + v) v (by omega) (by omega) (by unfold wh; rw [if_neg (by omega), if_neg (by omega)]; omega) ?_ ev (by omega) ?_
        · unfold f_X_leaf f_X_leaf_B15
          rw [if_neg c0, if_neg e1', if_pos c8', if_neg e1', show 38 + v - v = 38 by omega]
          rfl
        · unfold f_Q_leaf f_Q_leaf_B16 f_Q_leaf_B24
          rw [if_neg c0, if_neg e1', if_pos c8', rz, bd_s, if_pos rfl, if_neg e1', show kd (38 + v) = 2 by unfold kd; rw [if_neg (by omega), if_neg (by omega)]]
          rfl
      · have c8' : ¬ p0 < (4 : Int32) := by rw [ev]; exact (show ¬ nI v < nI 4 from nI_nlt (by omega) (by omega))
        apply hbad
        · unfold f_L_leaf f_X_leaf f_X_leaf_B15
          rw [if_neg c0, if_neg e1', if_neg c8', bd_s]
          rfl
        · unfold f_Q_leaf f_Q_leaf_B16
          rw [if_neg c0, if_neg e1', if_neg c8', hbadQ]
end
