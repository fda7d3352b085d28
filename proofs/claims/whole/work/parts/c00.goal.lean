section
variable {tt : Nat → Tm} {n N m : Nat} {ar : Nat → Int32} {sz : Nat → Nat} {cc pc : Nat → Nat} {pp : Nat → Nat → Nat} {T_count : Int32} {T_heads T_places T_olders T_sizes : Nat → Int32} {T_withins : Nat → Int64} {T_newest : Nat → Int32} {Q_all Q_thrown : Int32} {Q_kinds Q_which Q_firsts Q_seconds Q_thirds Q_nexts Q_heads Q_names Q_variables Q_holes Q_sizes : Nat → Int32}
variable {S_count : Int32} {S_premises S_premiseCounts S_conclusions : Nat → Int32} {Q_statements : Int32} {Q_premises Q_counts Q_conclusions : Nat → Int32} {H_kind H_subject H_count : Int32} {H_statementRow H_firstRow H_secondRow : Nat → Int32} {Q_hitKind Q_hits : Int32} {Q_hitOf Q_hitOne Q_hitTwo Q_hitTerms : Nat → Int32} {O_out : Nat → Int64}
variable {Q_places : Nat → Int32}
variable {M_images M_path Q_image Q_bound Q_waits : Nat → Int32}
theorem gbind_loop (x1 x2 : Int32) {i : Nat} (hi : i < 30) (e1 : x1 = nI i) (thr : Int32) : ∀ d, d ≤ 8 → ∀ fuel, d < fuel → ∀ bd : Nat → Int32, ∃ f bd', f_Q_goal_L50 Q_hitKind Q_hits Q_premises Q_hitOf Q_hitTwo Q_hitTerms fuel thr Q_all Q_kinds Q_which Q_firsts Q_seconds Q_thirds Q_nexts Q_heads Q_names Q_variables Q_holes Q_sizes Q_image bd Q_waits x1 x2 (nI (8 - d)) = f_Q_goal_L50 Q_hitKind Q_hits Q_premises Q_hitOf Q_hitTwo Q_hitTerms (f + 1) thr Q_all Q_kinds Q_which Q_firsts Q_seconds Q_thirds Q_nexts Q_heads Q_names Q_variables Q_holes Q_sizes Q_image bd' Q_waits x1 x2 8 ∧ (∀ v, v < 8 → 8 - d ≤ v → bd' v = Q_hitTerms (8 * i + v)) ∧ (∀ v, v < 8 - d → bd' v = bd v) := by
  intro d
  induction d with
  | zero =>
    intro _ fuel hf bd
    obtain ⟨f, rfl⟩ : ∃ f, fuel = f + 1 := ⟨fuel - 1, by omega⟩
    exact ⟨f, bd, rfl, fun v h1 h2 => by omega, fun v _ => rfl⟩
  | succ d ih =>
    intro hd fuel hf bd
    obtain ⟨f, rfl⟩ : ∃ f, fuel = f + 1 := ⟨fuel - 1, by omega⟩
    obtain ⟨k, hk⟩ : ∃ k, k = 8 - (d + 1) := ⟨_, rfl⟩
    obtain ⟨f2, bd', h1, h2, h3⟩ := ih (by omega) f (by omega) (upd bd k (Q_hitTerms (8 * i + k)))
    rw [show 8 - d = k + 1 by omega] at h1 h2 h3
    rw [← hk]
    refine ⟨f2, bd', ?_, fun v h4 h5 => ?_, fun v h4 => ?_⟩
    · rw [f_Q_goal_L50, if_neg (show ¬ (8 : Int32) ≤ nI k from (nI_ge (by omega) (by omega) : ¬ nI 8 ≤ nI k))]
      rw [e1] at h1 ⊢
      rw [nI_8x, nI_add, gd_t (ixb_t (by omega) (by omega)), gd_t (ixb_t (by omega) (by omega)), nmE, nmE, nI_clamp (by omega), nI_clamp (by omega), nI_1]
      exact h1
    · by_cases e : v = k
      · rw [e, h3 k (by omega), up_s]
      · exact h2 v h4 (by omega)
    · rw [h3 v (by omega), up_n (by omega)]
theorem both_goal (R : RT tt n N sz ar T_count T_heads T_places T_olders T_sizes T_withins T_newest Q_all Q_kinds Q_which Q_firsts Q_seconds Q_thirds Q_nexts Q_heads Q_names Q_variables Q_holes Q_sizes) (S : RS tt n m cc pc pp S_count S_premises S_premiseCounts S_conclusions Q_statements Q_premises Q_counts Q_conclusions) (H : RH tt n m cc pc H_kind H_subject H_count H_statementRow H_firstRow H_secondRow Q_hitKind Q_hits Q_hitOf Q_hitOne Q_hitTwo Q_hitTerms) (p0 p1 : Int32) :
    ∃ (k b : Int32) (tt' : Nat → Tm) (n' : Nat) (sz' : Nat → Nat) (T_count' : Int32) (T_heads' T_places' T_olders' T_sizes' : Nat → Int32) (T_withins' : Nat → Int64) (T_newest' M_images' M_path' : Nat → Int32) (O_out' : Nat → Int64) (Q_all' : Int32) (Q_kinds' Q_which' Q_firsts' Q_seconds' Q_thirds' Q_nexts' Q_heads' Q_names' Q_variables' Q_holes' Q_sizes' Q_image' Q_bound' Q_waits' : Nat → Int32),
      f_L_goal T_count N T_heads (3*N) T_places N T_olders N T_sizes N T_withins T_newest S_count S_premises S_premiseCounts S_conclusions M_images M_path H_kind H_subject H_count H_statementRow H_secondRow O_out p0 p1 = some (k, T_count', T_heads', T_places', T_olders', T_sizes', T_withins', T_newest', M_images', M_path', O_out') ∧ f_Q_goal Q_thrown Q_all Q_hitKind Q_hits Q_kinds Q_which Q_firsts Q_seconds Q_thirds Q_nexts Q_heads Q_names Q_variables Q_holes Q_sizes Q_premises Q_hitOf Q_hitTwo Q_hitTerms Q_image Q_bound Q_waits p0 p1 = some (b, k, Q_all', Q_kinds', Q_which', Q_firsts', Q_seconds', Q_thirds', Q_nexts', Q_heads', Q_names', Q_variables', Q_holes', Q_sizes', Q_image', Q_bound', Q_waits') ∧ RT tt' n' N sz' ar T_count' T_heads' T_places' T_olders' T_sizes' T_withins' T_newest' Q_all' Q_kinds' Q_which' Q_firsts' Q_seconds' Q_thirds' Q_nexts' Q_heads' Q_names' Q_variables' Q_holes' Q_sizes' ∧ (∀ u, u < n → tt' u = tt u) ∧ n ≤ n' ∧ (k = 0 → O_out' 0 = b.toInt64) := by
  obtain ⟨w, hn, ct, qt, hq⟩ := R
  obtain ⟨c, hc, k1, k2, hrow, hk⟩ := H
  have hbad : f_X_goal T_count N T_heads (3*N) T_places N T_olders N T_sizes N T_withins T_newest S_count S_premises S_premiseCounts S_conclusions M_images M_path H_kind H_subject H_count H_statementRow H_secondRow p0 p1 = some (1, 0, T_count, T_heads, T_places, T_olders, T_sizes, T_withins, T_newest, M_images, M_path) → f_Q_goal Q_thrown Q_all Q_hitKind Q_hits Q_kinds Q_which Q_firsts Q_seconds Q_thirds Q_nexts Q_heads Q_names Q_variables Q_holes Q_sizes Q_premises Q_hitOf Q_hitTwo Q_hitTerms Q_image Q_bound Q_waits p0 p1 = f_Q_goal_B40 Q_hitKind Q_hits Q_premises Q_hitOf Q_hitTwo Q_hitTerms Q_thrown Q_all Q_kinds Q_which Q_firsts Q_seconds Q_thirds Q_nexts Q_heads Q_names Q_variables Q_holes Q_sizes Q_image Q_bound Q_waits p0 p1 1 → ∃ (k b : Int32) (tt' : Nat → Tm) (n' : Nat) (sz' : Nat → Nat) (T_count' : Int32) (T_heads' T_places' T_olders' T_sizes' : Nat → Int32) (T_withins' : Nat → Int64) (T_newest' M_images' M_path' : Nat → Int32) (O_out' : Nat → Int64) (Q_all' : Int32) (Q_kinds' Q_which' Q_firsts' Q_seconds' Q_thirds' Q_nexts' Q_heads' Q_names' Q_variables' Q_holes' Q_sizes' Q_image' Q_bound' Q_waits' : Nat → Int32),
      f_L_goal T_count N T_heads (3*N) T_places N T_olders N T_sizes N T_withins T_newest S_count S_premises S_premiseCounts S_conclusions M_images M_path H_kind H_subject H_count H_statementRow H_secondRow O_out p0 p1 = some (k, T_count', T_heads', T_places', T_olders', T_sizes', T_withins', T_newest', M_images', M_path', O_out') ∧ f_Q_goal Q_thrown Q_all Q_hitKind Q_hits Q_kinds Q_which Q_firsts Q_seconds Q_thirds Q_nexts Q_heads Q_names Q_variables Q_holes Q_sizes Q_premises Q_hitOf Q_hitTwo Q_hitTerms Q_image Q_bound Q_waits p0 p1 = some (b, k, Q_all', Q_kinds', Q_which', Q_firsts', Q_seconds', Q_thirds', Q_nexts', Q_heads', Q_names', Q_variables', Q_holes', Q_sizes', Q_image', Q_bound', Q_waits') ∧ RT tt' n' N sz' ar T_count' T_heads' T_places' T_olders' T_sizes' T_withins' T_newest' Q_all' Q_kinds' Q_which' Q_firsts' Q_seconds' Q_thirds' Q_nexts' Q_heads' Q_names' Q_variables' Q_holes' Q_sizes' ∧ (∀ u, u < n → tt' u = tt u) ∧ n ≤ n' ∧ (k = 0 → O_out' 0 = b.toInt64) := by
    intro h1 h2
    refine ⟨1, 0, tt, n, sz, T_count, T_heads, T_places, T_olders, T_sizes, T_withins, T_newest, M_images, M_path, O_out, Q_all, Q_kinds, Q_which, Q_firsts, Q_seconds, Q_thirds, Q_nexts, Q_heads, Q_names, Q_variables, Q_holes, Q_sizes, Q_image, Q_bound, Q_waits, ?_, ?_, ⟨w, hn, ct, qt, hq⟩, fun u _ => rfl, Nat.le_refl _, fun e => absurd e (by decide)⟩
    · unfold f_L_goal
      rw [h1, bd_s]
      rfl
    · rw [h2]
      unfold f_Q_goal_B40 f_Q_refuses
      rw [if_neg (by decide), bd_s, if_neg (by decide)]
  by_cases c0 : p0 < 0
  · apply hbad
    · unfold f_X_goal f_H_has
      rw [if_pos c0, bd_s, if_pos rfl]
    · unfold f_Q_goal
      rw [if_pos c0]
      split <;> rfl
  obtain ⟨i, hi, e⟩ := nI_of c0
  subst e
  by_cases ci : c ≤ i
  · apply hbad
    · unfold f_X_goal f_H_has
      rw [if_neg c0, k1, if_pos ((nI_leI (by omega) (by omega)).mpr ci), bd_s, if_pos rfl]
    · unfold f_Q_goal
      rw [if_neg c0, k2, if_pos ((nI_leI (by omega) (by omega)).mpr ci)]
      split <;> rfl
  have hhas : f_H_has H_count (nI i) = some 1 := by
    unfold f_H_has
    rw [if_neg c0, k1, if_neg (nI_ge (by omega) (by omega))]
  obtain ⟨q0, q1, q2⟩ := hrow i (by omega)
  have hst : f_H_statement H_count H_statementRow (nI i) = some (H_statementRow i) := by
    unfold f_H_statement
    rw [hhas, bd_s, if_neg (by decide), gd_t (ixb_t (by omega) (by omega)), nI_clamp (by omega)]
  have hse : f_H_second H_count H_secondRow (nI i) = some (H_secondRow i) := by
    unfold f_H_second
    rw [hhas, bd_s, if_neg (by decide), gd_t (ixb_t (by omega) (by omega)), nI_clamp (by omega)]
  have n12 : ¬ (-1 : Int32) = 2 := by decide
  have nk : (¬ H_kind = 2 ∧ ¬ Q_hitKind = 2) ∨ (H_kind = 2 ∧ Q_hitKind = 2 ∧ ∃ g, g < n ∧ H_subject = nI g ∧ ∀ i, i < c → ∃ s, s < m ∧ H_statementRow i = nI s ∧ H_secondRow i = nI (pc s) ∧ ∃ σ, Mt false σ (tt (cc s)) (tt g) ∧ ∀ v, v < 8 → rf tt n (Q_hitTerms (8 * i + v)) (oT (σ (30 + v)))) := by
    rcases hk with ⟨a1, a2, -⟩ | ⟨a1, a2, -⟩ | h | ⟨a1, a2⟩
    · rw [a1, a2]; exact Or.inl ⟨by decide, by decide⟩
    · rw [a1, a2]; exact Or.inl ⟨by decide, by decide⟩
    · exact Or.inr h
    · rw [a1, a2]; exact Or.inl ⟨by decide, by decide⟩
  rcases nk with ⟨a1, a2⟩ | ⟨a1, a2, g, hg, a3, a4⟩
  · apply hbad
    · unfold f_X_goal f_H_kind
      rw [hhas, bd_s, if_neg (by decide), bd_s, if_neg a1]
    · unfold f_Q_goal
      rw [if_neg a2]
  obtain ⟨s, hs, b1, b4, σ, b2, b3⟩ := a4 i (by omega)
  have hpc4 := (S.2.2.2 s hs).2.1.2.2
  have hm30 := S.2.2.1
  by_cases c1 : p1 < 0
  · apply hbad
    · unfold f_X_goal f_H_kind
      rw [hhas, bd_s, if_neg (by decide), bd_s, if_pos a1, if_pos c1]
    · unfold f_Q_goal
      rw [if_pos a2, if_neg c0, k2, if_neg (nI_ge (by omega) (by omega)), if_pos c1]
  obtain ⟨k, hk31, e⟩ := nI_of c1
  subst e
  by_cases ck : k < pc s
  case neg =>
    have hnlt : ¬ nI k < nI (pc s) := by rw [lt_lit hk31 (by omega)]; exact ck
    apply hbad
    · unfold f_X_goal f_H_kind
      rw [hhas, bd_s, if_neg (by decide), bd_s, if_pos a1, if_neg c1, hse, bd_s, b4, if_neg hnlt]
    · unfold f_Q_goal
      rw [if_pos a2, if_neg c0, k2, if_neg (nI_ge (by omega) (by omega)), if_neg c1, gd_t (ixb_t (by omega) (by omega)), nI_clamp (by omega), ← q2, b4, if_neg hnlt]
  have hlt : nI k < nI (pc s) := nI_lt ck (by omega)
  have hcc := (S.2.2.2 s hs).1.2.2.1
  obtain ⟨-, -, hpn, -⟩ := (S.2.2.2 s hs).2.2 k ck
  rcases matches_eq w ct false hcc (by omega) hg M_images with ⟨im, τ, d1, d2, d3⟩ | ⟨im, d1, d2⟩
  case inr => exact absurd b2 (d2 σ)
  have hτ : τ = σ := Mt_uni w hcc d2 b2
  subst hτ
  obtain ⟨i1, i2⟩ := img_imS (sz := sz) d2 d3
  obtain ⟨i3, i4⟩ := mt_in w hcc (by omega) d2 d3
  have i5 : ∀ h, τ h ≠ none → 30 ≤ h ∧ h < 38 := by
    intro h hne
    have := ((d2.2 h).mp hne).1
    unfold fre at this
    rw [if_neg (by decide)] at this
    exact this
  have hN := ct.2.2.1
  obtain ⟨F, hF⟩ : ∃ F, insT 100 τ (pp s k + 1) (tt (pp s k)) (tt, n, sz, true) = F := ⟨_, rfl⟩
  obtain ⟨r, t1, t2, t3, t4, t5, t6, t7, im', path', x1, x2, x3, x4, -, x6⟩ := cinst w ct i3 i4 hpn (by omega) (most := 100) (by omega) (Or.inl (by omega)) i1 i2 M_path hF
  have hqr : QR false tt n sz Q_names Q_variables Q_holes Q_sizes Q_all Q_kinds Q_which Q_firsts Q_seconds Q_thirds Q_nexts Q_heads Q_names Q_variables Q_holes Q_sizes := ⟨qt, fun h => absurd h (by decide), fun _ => ⟨hn, hq⟩⟩
  obtain ⟨f2, bd, g1, g2, -⟩ := gbind_loop (Q_hitKind := Q_hitKind) (Q_hits := Q_hits) (Q_premises := Q_premises) (Q_hitOf := Q_hitOf) (Q_hitTwo := Q_hitTwo) (Q_hitTerms := Q_hitTerms) (Q_all := Q_all) (Q_kinds := Q_kinds) (Q_which := Q_which) (Q_firsts := Q_firsts) (Q_seconds := Q_seconds) (Q_thirds := Q_thirds) (Q_nexts := Q_nexts) (Q_heads := Q_heads) (Q_names := Q_names) (Q_variables := Q_variables) (Q_holes := Q_holes) (Q_sizes := Q_sizes) (Q_image := Q_image) (Q_waits := Q_waits) (nI i) (nI k) (i := i) (by omega) rfl 0 8 (Nat.le_refl _) FU (by unfold FU; omega) Q_bound
  rw [Nat.sub_self, nI_0] at g1
  have hbd : ∀ v, v < 8 → rf tt n (bd v) (oT (τ (30 + v))) := fun v hv => by rw [g2 v hv (by omega)]; exact b3 v hv
  obtain ⟨r', u1, u2, u3, u4, u5, u6, u7, u8, u9, u10, u11, u12, im2, ws2, y1, y2, y3, y4, -, y6⟩ := qinst (md := false) (Q_bound := bd) w hqr i5 i4 hbd hpn (by omega) Q_image Q_waits (F := F) hF
  have e100 : nI (mdn false) = (100 : Int32) := by decide
  rw [e100] at y1
  have hXe : f_X_goal T_count N T_heads (3*N) T_places N T_olders N T_sizes N T_withins T_newest S_count S_premises S_premiseCounts S_conclusions M_images M_path H_kind H_subject H_count H_statementRow H_secondRow (nI i) (nI k) = if r = -1 then some (3, 0, t1, t2, t3, t4, t5, t6, t7, im', path') else some (0, r, t1, t2, t3, t4, t5, t6, t7, im', path') := by
    unfold f_X_goal f_H_kind f_H_subject
    rw [hhas, bd_s, if_neg (by decide), bd_s, if_pos a1, if_neg c1, hse, bd_s, b4, if_pos hlt, hst, bd_s, b1, sconcl_eq S hs, bd_s, bd_s, a3, show (273804165120 : Int64) = bitsOf false from rfl, d1, bd_s, spremise_eq S hs ck, bd_s]
    rw [show nI 100 = (100 : Int32) from rfl] at x1
    rw [x1, bd_s]
  have hQe : f_Q_goal Q_thrown Q_all Q_hitKind Q_hits Q_kinds Q_which Q_firsts Q_seconds Q_thirds Q_nexts Q_heads Q_names Q_variables Q_holes Q_sizes Q_premises Q_hitOf Q_hitTwo Q_hitTerms Q_image Q_bound Q_waits (nI i) (nI k) = (f_Q_made 0 r' 2).bind fun r13 => some (r13.1, r13.2, u1, u2, u3, u4, u5, u6, u7, u8, u9, u10, u11, u12, im2, bd, ws2) := by
    unfold f_Q_goal f_Q_goal_B40 f_Q_refuses
    rw [if_pos a2, if_neg c0, k2, if_neg (nI_ge (by omega) (by omega)), if_neg c1, gd_t (ixb_t (by omega) (by omega)), nI_clamp (by omega), ← q2, b4, if_pos hlt, if_pos (by decide), bd_s, if_pos rfl]
    rw [k2] at g1
    rw [g1, f_Q_goal_L50, if_pos (by decide), gd_t (ixb_t (by omega) (by omega)), nI_clamp (by omega), ← q0, b1, qpremise_eq S hs ck, bd_s, y1, bd_s]
  unfold f_L_goal
  rw [hXe, hQe]
  have hR : RT F.1 F.2.1 N F.2.2.1 ar t1 t2 t3 t4 t5 t6 t7 u1 u2 u3 u4 u5 u6 u7 u8 u9 u10 u11 u12 := ⟨x2, (y3.2.2 rfl).1, x3, y3.1, (y3.2.2 rfl).2⟩
  rcases x6 with ⟨z1, z2⟩ | ⟨z2, v, hv, z1, z3⟩
  · rcases y6 with ⟨o1, o2⟩ | ⟨o2, -⟩
    · rw [if_pos z1, o1, bd_s]
      exact ⟨2, 0, F.1, F.2.1, F.2.2.1, t1, t2, t3, t4, t5, t6, t7, im', path', O_out, u1, u2, u3, u4, u5, u6, u7, u8, u9, u10, u11, u12, im2, bd, ws2, rfl, rfl, hR, x4.2.1, x4.1, fun e => absurd e (by decide)⟩
    · rw [z2] at o2; exact absurd o2 (by decide)
  · rcases y6 with ⟨-, o2⟩ | ⟨-, v', hv', o1, o3⟩
    · rw [z2] at o2; exact absurd o2 (by decide)
    · have hvv : v = v' := x2.1 v hv v' hv' (z3.trans o3.symm)
      subst hvv
      have hv31 : v < 2 ^ 31 := by have := hR.2.1; omega
      have hne : ¬ nI v = -1 := nI_nm1 hv31
      unfold f_Q_made f_Q_made_B11
      rw [z1, if_neg hne, o1, bd_s]
      simp only [hne, if_false, if_true, bd_s, ixb01, gd_tt, nmE, clamp0]
      exact ⟨0, nI v, F.1, F.2.1, F.2.2.1, t1, t2, t3, t4, t5, t6, t7, im', path', _, u1, u2, u3, u4, u5, u6, u7, u8, u9, u10, u11, u12, im2, bd, ws2, rfl, rfl, hR, x4.2.1, x4.1, fun _ => upL_s _ _ _⟩
end
