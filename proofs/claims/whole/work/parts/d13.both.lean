section
variable {tt : Nat → Tm} {n N m : Nat} {ar : Nat → Int32} {sz : Nat → Nat} {cc pc : Nat → Nat} {pp : Nat → Nat → Nat} {T_count : Int32} {T_heads T_places T_olders T_sizes : Nat → Int32} {T_withins : Nat → Int64} {T_newest : Nat → Int32} {Q_all Q_thrown : Int32} {Q_kinds Q_which Q_firsts Q_seconds Q_thirds Q_nexts Q_heads Q_names Q_variables Q_holes Q_sizes : Nat → Int32}
variable {S_count : Int32} {S_premises S_premiseCounts S_conclusions : Nat → Int32} {Q_statements : Int32} {Q_premises Q_counts Q_conclusions : Nat → Int32} {H_kind H_subject H_count : Int32} {H_statementRow H_firstRow H_secondRow : Nat → Int32} {Q_hitKind Q_hits : Int32} {Q_hitOf Q_hitOne Q_hitTwo Q_hitTerms : Nat → Int32} {O_out : Nat → Int64}
variable {Q_places : Nat → Int32}
variable {S_order M_images M_path E_goals E_marks E_looked E_underway E_met E_takenHere Q_places Q_image Q_bound Q_waits Q_waitsFor Q_goals Q_steps Q_looked Q_under Q_taken Q_news Q_order : Nat → Int32} {E_level E_steps E_tries E_taken E_first Q_tries Q_takenAll Q_takenFirst : Int32}
theorem CT.szc {sz' : Nat → Nat} (ct : CT tt n N sz' T_count T_heads T_places T_olders T_sizes T_withins T_newest) (h : ∀ v, v < n → sz' v = sz v) : CT tt n N sz T_count T_heads T_places T_olders T_sizes T_withins T_newest := by
  obtain ⟨a1, a2, a3, a4, a5, a6, a7, a8, a9⟩ := ct
  exact ⟨a1, a2, a3, a4, a5, a6, a7, fun t ht => by rw [← h t ht]; exact a8 t ht, a9⟩
theorem stpK_ex (p1 : Int32) : ∃ kk, stpK p1 kk := by
  by_cases c : p1 ≤ 0
  · exact ⟨0, Or.inl ⟨c, rfl⟩⟩
  · have c0 : ¬ p1 < 0 := fun h => c (by
      have a1 := Int32.lt_iff_toInt_lt.mp h
      exact Int32.le_iff_toInt_le.mpr (by omega))
    obtain ⟨j, hj, e⟩ := nI_of c0
    subst e
    have h1 : 1 ≤ j := by
      apply Classical.byContradiction
      intro h
      exact c (by rw [show j = 0 by omega]; decide)
    by_cases c2 : 100 < j
    · exact ⟨100, Or.inr ⟨by omega, by omega, by rw [if_pos (show (100 : Int32) < nI j from (nI_lt c2 hj : nI 100 < _))]; rfl⟩⟩
    · exact ⟨j, Or.inr ⟨h1, by omega, by rw [if_neg (show ¬ (100 : Int32) < nI j from (nI_nlt (by omega) (by omega) : ¬ nI 100 < _))]⟩⟩
theorem both_follows (R : RT tt n N sz ar T_count T_heads T_places T_olders T_sizes T_withins T_newest Q_all Q_kinds Q_which Q_firsts Q_seconds Q_thirds Q_nexts Q_heads Q_names Q_variables Q_holes Q_sizes) (har : ∀ h, h < 30 → Q_places h = ar h) (S : RS tt n m cc pc pp S_count S_premises S_premiseCounts S_conclusions Q_statements Q_premises Q_counts Q_conclusions) (h1 : E_tries = Q_tries) (h2 : E_taken = Q_takenAll) (h3 : E_first = Q_takenFirst) (p0 p1 : Int32) :
    ∃ (k b : Int32) (N' : Nat) (T_count' : Int32) (T_heads' T_places' T_olders' T_sizes' : Nat → Int32) (T_withins' : Nat → Int64) (T_newest' S_order' M_images' M_path' : Nat → Int32) (E_level' E_steps' E_tries' E_taken' E_first' : Int32) (E_goals' E_marks' E_looked' E_underway' E_met' E_takenHere' : Nat → Int32) (O_out' : Nat → Int64) (Q_all' Q_tries' Q_takenAll' Q_takenFirst' : Int32) (Q_kinds' Q_which' Q_firsts' Q_seconds' Q_thirds' Q_nexts' Q_heads' Q_image' Q_bound' Q_waits' Q_waitsFor' Q_goals' Q_steps' Q_looked' Q_under' Q_taken' Q_news' Q_order' : Nat → Int32),
      f_L_follows T_count N T_heads (3*N) T_places N T_olders N T_sizes N T_withins T_newest S_count S_premises S_premiseCounts S_conclusions S_order M_images M_path E_level E_steps E_tries E_taken E_first E_goals E_marks E_looked E_underway E_met E_takenHere O_out p0 p1 = some (k, T_count', N', T_heads', 3*N', T_places', N', T_olders', N', T_sizes', N', T_withins', T_newest', S_order', M_images', M_path', E_level', E_steps', E_tries', E_taken', E_first', E_goals', E_marks', E_looked', E_underway', E_met', E_takenHere', O_out') ∧
      f_Q_follows Q_thrown Q_all Q_statements Q_tries Q_takenAll Q_takenFirst Q_kinds Q_which Q_firsts Q_seconds Q_thirds Q_nexts Q_heads Q_names Q_variables Q_holes Q_sizes Q_places Q_conclusions Q_premises Q_counts Q_image Q_bound Q_waits Q_waitsFor Q_goals Q_steps Q_looked Q_under Q_taken Q_news Q_order p0 p1 = some (b, k, Q_all', Q_tries', Q_takenAll', Q_takenFirst', Q_kinds', Q_which', Q_firsts', Q_seconds', Q_thirds', Q_nexts', Q_heads', Q_names, Q_variables, Q_holes, Q_sizes, Q_image', Q_bound', Q_waits', Q_waitsFor', Q_goals', Q_steps', Q_looked', Q_under', Q_taken', Q_news', Q_order') ∧
      RT tt n N' sz ar T_count' T_heads' T_places' T_olders' T_sizes' T_withins' T_newest' Q_all' Q_kinds' Q_which' Q_firsts' Q_seconds' Q_thirds' Q_nexts' Q_heads' Q_names Q_variables Q_holes Q_sizes ∧ N ≤ N' ∧ E_tries' = Q_tries' ∧ E_taken' = Q_takenAll' ∧ E_first' = Q_takenFirst' ∧ (k = 0 → O_out' 0 = b.toInt64) ∧ (b = 0 ∨ b = 1) := by
  have R2 := R
  obtain ⟨w, hn, ct, qt, hq⟩ := R2
  unfold f_L_follows f_X_follows
  rcases goal_eq R p0 with ⟨g1, g2⟩ | ⟨g1, g2⟩ | ⟨g1, g2, g, hg, e, -⟩
  · refine ⟨1, 0, N, T_count, T_heads, T_places, T_olders, T_sizes, T_withins, T_newest, S_order, M_images, M_path, E_level, E_steps, E_tries, E_taken, E_first, E_goals, E_marks, E_looked, E_underway, E_met, E_takenHere, O_out, Q_all, Q_tries, Q_takenAll, Q_takenFirst, Q_kinds, Q_which, Q_firsts, Q_seconds, Q_thirds, Q_nexts, Q_heads, Q_image, Q_bound, Q_waits, Q_waitsFor, Q_goals, Q_steps, Q_looked, Q_under, Q_taken, Q_news, Q_order, ?_, ?_, R, Nat.le_refl _, h1, h2, h3, fun e => absurd e (by decide), Or.inl rfl⟩
    · rw [g1, bd_s]; rfl
    · unfold f_Q_follows f_Q_refuses
      rw [g2, bd_s]; rfl
  · refine ⟨2, 0, N, T_count, T_heads, T_places, T_olders, T_sizes, T_withins, T_newest, S_order, M_images, M_path, E_level, E_steps, E_tries, E_taken, E_first, E_goals, E_marks, E_looked, E_underway, E_met, E_takenHere, O_out, Q_all, Q_tries, Q_takenAll, Q_takenFirst, Q_kinds, Q_which, Q_firsts, Q_seconds, Q_thirds, Q_nexts, Q_heads, Q_image, Q_bound, Q_waits, Q_waitsFor, Q_goals, Q_steps, Q_looked, Q_under, Q_taken, Q_news, Q_order, ?_, ?_, R, Nat.le_refl _, h1, h2, h3, fun e => absurd e (by decide), Or.inl rfl⟩
    · rw [g1, bd_s]; rfl
    · unfold f_Q_follows f_Q_refuses
      rw [g2, bd_s]; rfl
  · subst e
    obtain ⟨kk, hk⟩ := stpK_ex p1
    obtain ⟨od, hod⟩ := od_ex (pc := pc) (m := m) (fun s hs => (S.2.2.2 s hs).2.1.2.2)
    obtain ⟨gi, N', sz', t2, t3, t4, t5, t6, t7, od', im', path', lv', st', tr', tk', fi', d1, d2, d3, d4, d5, d6, x1, x2, x3, x4, x5⟩ := ends_eq (S_order := S_order) (M_images := M_images) (M_path := M_path) (E_level := E_level) (E_steps := E_steps) (E_tries := E_tries) (E_taken := E_taken) (E_first := E_first) (E_goals := E_goals) (E_marks := E_marks) (E_looked := E_looked) (E_underway := E_underway) (E_met := E_met) (E_takenHere := E_takenHere) w ct hn S hod hg hk
    obtain ⟨b, th, tr2, tk2, fi2, c1, c2, c3, c4, c5, c6, c7, v1, v2, v3, v4, u1, u2, u3, u4, u5, u6, od2, y1, y2, y3⟩ := qfollows_eq (Q_thrown := Q_thrown) (Q_tries := Q_tries) (Q_takenAll := Q_takenAll) (Q_takenFirst := Q_takenFirst) (Q_image := Q_image) (Q_bound := Q_bound) (Q_waits := Q_waits) (Q_waitsFor := Q_waitsFor) (Q_goals := Q_goals) (Q_steps := Q_steps) (Q_looked := Q_looked) (Q_under := Q_under) (Q_taken := Q_taken) (Q_news := Q_news) (Q_order := Q_order) w hn qt hq har S hod hg hk g2
    have hR : RT tt n N' sz ar (nI n) t2 t3 t4 t5 t6 t7 (nI n) c1 c2 c3 c4 c5 c6 c7 Q_names Q_variables Q_holes Q_sizes := ⟨w, hn, x2.szc x4, y2, hq⟩
    rw [g1, bd_s, if_pos rfl, x1, bd_s]
    cases hL : LKs tt cc pc pp od m kk (tt g) 0 with
    | none =>
      obtain ⟨a1, a2, a3, a4⟩ := x5.1 hL
      obtain ⟨b1, b2, b3, b4, b5⟩ := y3.1 hL
      subst a1 a2 a3 a4 b1 b2 b3 b4 b5
      exact ⟨3, 0, N', nI n, t2, t3, t4, t5, t6, t7, od', im', path', lv', st', 1000, 0, -1, d1, d2, d3, d4, d5, d6, O_out, nI n, 1000, 0, -1, c1, c2, c3, c4, c5, c6, c7, v1, v2, v3, v4, u1, u2, u3, u4, u5, u6, od2, rfl, y1, hR, x3, rfl, rfl, rfl, fun e => absurd e (by decide), Or.inl rfl⟩
    | some q =>
      obtain ⟨t, r⟩ := q
      obtain ⟨a1, a2, a3, a4⟩ := x5.2 t r hL
      obtain ⟨b1, b2, b3, b4⟩ := y3.2 t r hL
      subst a1 a2 b1 b2
      obtain ⟨e1, e2, e3⟩ := bd_LK od kk (tt g) 0 (by omega) t r hL
      cases r with
      | none =>
        obtain ⟨a5, a6⟩ := a3 rfl
        obtain ⟨b5, b6, b7⟩ := b3 rfl
        subst a5 a6 b5 b6 b7
        exact ⟨0, 0, N', nI n, t2, t3, t4, t5, t6, t7, od', im', path', lv', st', nI t, 0, -1, d1, d2, d3, d4, d5, d6, vp_updL O_out 0 0, nI n, nI t, 0, -1, c1, c2, c3, c4, c5, c6, c7, v1, v2, v3, v4, u1, u2, u3, u4, u5, u6, od2, rfl, y1, hR, x3, rfl, rfl, rfl, fun _ => upL_s _ _ _, Or.inl rfl⟩
      | some q =>
        obtain ⟨a, s⟩ := q
        obtain ⟨a5, a6⟩ := a4 a s rfl
        obtain ⟨b5, b6, b7⟩ := b4 a s rfl
        obtain ⟨e4, e5⟩ := e3 a s rfl
        subst a5 a6 b5 b6 b7
        refine ⟨0, 1, N', nI n, t2, t3, t4, t5, t6, t7, od', im', path', lv', st', nI t, nI a, nI s, d1, d2, d3, d4, d5, d6, vp_updL O_out 0 1, nI n, nI t, nI a, nI s, c1, c2, c3, c4, c5, c6, c7, v1, v2, v3, v4, u1, u2, u3, u4, u5, u6, od2, ?_, y1, hR, x3, rfl, rfl, rfl, fun _ => upL_s _ _ _, Or.inr rfl⟩
        unfold f_E_taken
        rw [if_neg (show ¬ (1 : Int32) = 0 by decide), bd_s, if_neg (show ¬ nI a ≤ (0 : Int32) from (nI_ge (by omega) (by omega) : ¬ nI a ≤ nI 0)), bd_s]
        rfl
end
