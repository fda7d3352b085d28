def HPf (tt : Nat → Tm) (n p c : Nat) (r0 r1 r2 ho h1 h2 ht : Nat → Int32) : Prop :=
  ∀ i, i < c → r0 i = ho i ∧ r1 i = h1 i ∧ r2 i = h2 i ∧ ∃ t, t < n ∧ r2 i = nI t ∧ ∃ σ, Mt true σ (tt p) (tt t) ∧ ∀ v, v < 8 → rf tt n (ht (8 * i + v)) (oT (σ (38 + v)))
section
variable {tt : Nat → Tm} {n N m : Nat} {ar : Nat → Int32} {sz : Nat → Nat} {cc pc : Nat → Nat} {pp : Nat → Nat → Nat} {T_count : Int32} {T_heads T_places T_olders T_sizes : Nat → Int32} {T_withins : Nat → Int64} {T_newest : Nat → Int32} {Q_all Q_thrown : Int32} {Q_kinds Q_which Q_firsts Q_seconds Q_thirds Q_nexts Q_heads Q_names Q_variables Q_holes Q_sizes : Nat → Int32}
variable {S_count : Int32} {S_premises S_premiseCounts S_conclusions : Nat → Int32} {Q_statements : Int32} {Q_premises Q_counts Q_conclusions : Nat → Int32} {H_kind H_subject H_count : Int32} {H_statementRow H_firstRow H_secondRow : Nat → Int32} {Q_hitKind Q_hits : Int32} {Q_hitOf Q_hitOne Q_hitTwo Q_hitTerms : Nat → Int32} {O_out : Nat → Int64}
variable {Q_places M_images F_seen F_waiting Q_image Q_bound Q_waits Q_waitsFor Q_seen Q_looked : Nat → Int32} {F_shape F_match F_premise : Int32}
theorem find_loop (R : RT tt n N sz ar T_count T_heads T_places T_olders T_sizes T_withins T_newest Q_all Q_kinds Q_which Q_firsts Q_seconds Q_thirds Q_nexts Q_heads Q_names Q_variables Q_holes Q_sizes) (har : ∀ h, h < 30 → Q_places h = ar h) (S : RS tt n m cc pc pp S_count S_premises S_premiseCounts S_conclusions Q_statements Q_premises Q_counts Q_conclusions) {p : Nat} (hp : p < n) (thr : Int32) : ∀ d, d ≤ m → ∀ fuel fuel', d < fuel → d < fuel' → ∀ c im mt pr sn wt r0 r1 r2 ho h1 h2 ht qi qb qw qv qs ql, c ≤ m - d → HPf tt n p c r0 r1 r2 ho h1 h2 ht →
    ∃ c' im' mt' pr' sn' wt' r0' r1' r2' ho' h1' h2' ht' qi' qb' qw' qv' qs' ql',
      f_X_find_L40 T_count N T_heads (3*N) T_places N T_withins S_count S_premises S_premiseCounts S_conclusions fuel im (nI p) mt pr sn wt 1 (nI p) (nI c) r0 r1 r2 (nI (m - d)) = some (0, nI c', im', nI p, mt', pr', sn', wt', 1, nI p, nI c', r0', r1', r2') ∧
      f_Q_find_L34 Q_all Q_statements Q_kinds Q_which Q_firsts Q_seconds Q_thirds Q_variables Q_holes Q_places Q_conclusions Q_premises Q_counts fuel' thr 1 (nI c) ho h1 h2 ht qi qb qw qv qs ql (nI p) (nI (m - d)) = some (nI c', thr, 1, nI c', ho', h1', h2', ht', qi', qb', qw', qv', qs', ql') ∧ c' ≤ m ∧ HPf tt n p c' r0' r1' r2' ho' h1' h2' ht' := by
  have hm := S.2.2.1
  intro d
  induction d with
  | zero =>
    intro _ fuel fuel' hf hf' c im mt pr sn wt r0 r1 r2 ho h1 h2 ht qi qb qw qv qs ql hc hP
    obtain ⟨f, rfl⟩ : ∃ f, fuel = f + 1 := ⟨fuel - 1, by omega⟩
    obtain ⟨f', rfl⟩ : ∃ f, fuel' = f + 1 := ⟨fuel' - 1, by omega⟩
    refine ⟨c, im, mt, pr, sn, wt, r0, r1, r2, ho, h1, h2, ht, qi, qb, qw, qv, qs, ql, ?_, ?_, by omega, hP⟩
    · rw [f_X_find_L40, S.1]
      unfold f_S_count f_H_count
      rw [bd_s, if_pos ((nI_leI (by omega) (by omega)).mpr (by omega)), bd_s]
    · rw [f_Q_find_L34, S.2.1, if_pos ((nI_leI (by omega) (by omega)).mpr (by omega))]
  | succ d ih =>
    intro hd fuel fuel' hf hf' c im mt pr sn wt r0 r1 r2 ho h1 h2 ht qi qb qw qv qs ql hc hP
    obtain ⟨f, rfl⟩ : ∃ f, fuel = f + 1 := ⟨fuel - 1, by omega⟩
    obtain ⟨f', rfl⟩ : ∃ f, fuel' = f + 1 := ⟨fuel' - 1, by omega⟩
    obtain ⟨s, hs⟩ : ∃ s, s = m - (d + 1) := ⟨_, rfl⟩
    have hsm : s < m := by omega
    obtain ⟨⟨s5, s6, hcc, -⟩, -, -⟩ := S.2.2.2 s hsm
    obtain ⟨sn1, g1, g2⟩ := forget_eq sn
    obtain ⟨qs1, k1, k2, -⟩ := qforget_loop (Q_all := Q_all) (Q_statements := Q_statements) (Q_kinds := Q_kinds) (Q_which := Q_which) (Q_firsts := Q_firsts) (Q_seconds := Q_seconds) (Q_thirds := Q_thirds) (Q_variables := Q_variables) (Q_holes := Q_holes) (Q_places := Q_places) (Q_conclusions := Q_conclusions) (Q_premises := Q_premises) (Q_counts := Q_counts) thr 1 (nI c) ho h1 h2 ht qi qb qw qv ql (nI p) (show s < 30 by omega) (f_Q_find_L34 Q_all Q_statements Q_kinds Q_which Q_firsts Q_seconds Q_thirds Q_variables Q_holes Q_places Q_conclusions Q_premises Q_counts f') 100 (by omega) FU (by unfold FU; omega) qs
    rw [show 100 - 100 = 0 from rfl, nI_0] at k1
    have hS0 : snR sn1 qs1 := fun x hx => ⟨by rw [g2 x hx, k2 x hx (by omega)], Or.inl (g2 x hx)⟩
    obtain ⟨ra, im1, sn2, wt1, qi1, qb1, qw1, qv1, qs2, ql1, f1, f2, f3, f4⟩ := first_both R har hp hcc im sn1 wt qi qb qw qv qs1 ql hS0
    obtain ⟨rb, pr1, im2, sn3, wt2, qi2, qb2, qw2, qv2, qs3, ql2, l1, l2, l3⟩ := finds_loop R har S hp hsm thr 1 (nI c) ho h1 h2 ht (f_Q_find_L34 Q_all Q_statements Q_kinds Q_which Q_firsts Q_seconds Q_thirds Q_variables Q_holes Q_places Q_conclusions Q_premises Q_counts f') (pc s) (Nat.le_refl _) FU FU (by have := (S.2.2.2 s hsm).2.1.2.2; unfold FU; omega) (by have := (S.2.2.2 s hsm).2.1.2.2; unfold FU; omega) ra im1 sn2 wt1 qi1 qb1 qw1 qv1 qs2 ql1 f3 f4
    rw [Nat.sub_self, show (nI 0 - 1 : Int32) = -1 by decide, nI_0] at l1
    rw [Nat.sub_self, show (nI 0 - 1 : Int32) = -1 by decide] at l2
    have hFi : f_F_finds T_count N T_heads (3*N) T_places N T_withins S_count S_premises S_premiseCounts S_conclusions im (nI p) mt pr sn wt (nI s) = some (if rb = -1 then 0 else 1, im2, rb, pr1, sn3, wt2) := by
      unfold f_F_finds
      rw [g1, bd_s, sconcl_eq S hsm, bd_s, f1, bd_s]
      exact l1
    have hQi : f_Q_find_L34 Q_all Q_statements Q_kinds Q_which Q_firsts Q_seconds Q_thirds Q_variables Q_holes Q_places Q_conclusions Q_premises Q_counts (f' + 1) thr 1 (nI c) ho h1 h2 ht qi qb qw qv qs ql (nI p) (nI s) = f_Q_find_B115 Q_all Q_statements Q_kinds Q_which Q_firsts Q_seconds Q_thirds Q_variables Q_holes Q_places Q_conclusions Q_premises Q_counts (f_Q_find_L34 Q_all Q_statements Q_kinds Q_which Q_firsts Q_seconds Q_thirds Q_variables Q_holes Q_places Q_conclusions Q_premises Q_counts f') thr 1 (nI c) ho h1 h2 ht qi2 qb2 qw2 qv2 qs3 ql2 (nI p) (nI s) pr1 rb := by
      rw [f_Q_find_L34, S.2.1, if_neg (nI_ge hsm (by omega)), ← S.2.1, k1, s6, f2, bd_s]
      exact l2
    have hXi : f_X_find_L40 T_count N T_heads (3*N) T_places N T_withins S_count S_premises S_premiseCounts S_conclusions (f + 1) im (nI p) mt pr sn wt 1 (nI p) (nI c) r0 r1 r2 (nI s) = if (if rb = -1 then (0 : Int32) else 1) = 0 then f_X_find_L40 T_count N T_heads (3*N) T_places N T_withins S_count S_premises S_premiseCounts S_conclusions f im2 (nI p) rb pr1 sn3 wt2 1 (nI p) (nI c) r0 r1 r2 (nI (s + 1)) else (f_H_add (nI c) r0 r1 r2 (nI s) pr1 rb).bind fun r14 => f_X_find_L40 T_count N T_heads (3*N) T_places N T_withins S_count S_premises S_premiseCounts S_conclusions f im2 (nI p) rb pr1 sn3 wt2 1 (nI p) r14.1 r14.2.1 r14.2.2.1 r14.2.2.2 (nI (s + 1)) := by
      rw [f_X_find_L40, hFi, bd_s, S.1]
      unfold f_S_count f_F_premise f_F_match
      rw [bd_s, if_neg (nI_ge hsm (by omega))]
      simp only [nmE, nI_1, bd_s]
    rw [← hs, hXi, hQi]
    unfold f_Q_find_B115
    by_cases cr : rb = -1
    · rw [if_pos cr, if_pos rfl, if_pos cr, nmE, nI_1, show s + 1 = m - d by omega]
      exact ih (by omega) f f' (by omega) (by omega) c im2 rb pr1 sn3 wt2 r0 r1 r2 ho h1 h2 ht qi2 qb2 qw2 qv2 qs3 ql2 (by omega) hP
    · obtain ⟨ht', t1, t2, t3⟩ := qhit_eq qb2 (show c < 30 by omega) ho h1 h2 ht (nI s) pr1 rb
      rw [if_neg cr, if_neg (by decide), if_neg cr, hadd_eq (by omega), bd_s, t1, bd_s, nmE, nI_1, show s + 1 = m - d by omega]
      refine ih (by omega) f f' (by omega) (by omega) (c + 1) im2 rb pr1 sn3 wt2 (upd r0 c (nI s)) (upd r1 c pr1) (upd r2 c rb) (upd ho c (nI s)) (upd h1 c pr1) (upd h2 c rb) ht' qi2 qb2 qw2 qv2 qs3 ql2 (by omega) (fun i hi => ?_)
      by_cases e : i = c
      · rw [e, up_s, up_s, up_s, up_s, up_s, up_s]
        rcases l3 with l3 | ⟨t, t4, t5, σ, t6, t7⟩
        · exact absurd l3 cr
        · exact ⟨rfl, rfl, rfl, t, t4, t5, σ, t6, fun v hv => by rw [t2 v hv]; exact t7 v hv⟩
      · rw [up_n e, up_n e, up_n e, up_n e, up_n e, up_n e]
        obtain ⟨a1, a2, a3, t, a4, a5, σ, a6, a7⟩ := hP i (by omega)
        exact ⟨a1, a2, a3, t, a4, a5, σ, a6, fun v hv => by rw [t3 (8 * i + v) (by omega)]; exact a7 v hv⟩
theorem both_find (R : RT tt n N sz ar T_count T_heads T_places T_olders T_sizes T_withins T_newest Q_all Q_kinds Q_which Q_firsts Q_seconds Q_thirds Q_nexts Q_heads Q_names Q_variables Q_holes Q_sizes) (har : ∀ h, h < 30 → Q_places h = ar h) (S : RS tt n m cc pc pp S_count S_premises S_premiseCounts S_conclusions Q_statements Q_premises Q_counts Q_conclusions) (H : RH tt n m cc pc H_kind H_subject H_count H_statementRow H_firstRow H_secondRow Q_hitKind Q_hits Q_hitOf Q_hitOne Q_hitTwo Q_hitTerms) (p0 : Int32) :
    ∃ (k b : Int32) (M_images' : Nat → Int32) (F_shape' F_match' F_premise' : Int32) (F_seen' F_waiting' : Nat → Int32) (H_kind' H_subject' H_count' : Int32) (H_statementRow' H_firstRow' H_secondRow' : Nat → Int32) (O_out' : Nat → Int64) (Q_hitKind' Q_hits' : Int32) (Q_hitOf' Q_hitOne' Q_hitTwo' Q_hitTerms' Q_image' Q_bound' Q_waits' Q_waitsFor' Q_seen' Q_looked' : Nat → Int32),
      f_L_find T_count N T_heads (3*N) T_places N T_withins S_count S_premises S_premiseCounts S_conclusions M_images F_shape F_match F_premise F_seen F_waiting H_kind H_subject H_count H_statementRow H_firstRow H_secondRow O_out p0 = some (k, M_images', F_shape', F_match', F_premise', F_seen', F_waiting', H_kind', H_subject', H_count', H_statementRow', H_firstRow', H_secondRow', O_out') ∧
      f_Q_find Q_thrown Q_all Q_statements Q_hitKind Q_hits Q_kinds Q_which Q_firsts Q_seconds Q_thirds Q_variables Q_holes Q_places Q_conclusions Q_premises Q_counts Q_hitOf Q_hitOne Q_hitTwo Q_hitTerms Q_image Q_bound Q_waits Q_waitsFor Q_seen Q_looked p0 = some (b, k, Q_hitKind', Q_hits', Q_hitOf', Q_hitOne', Q_hitTwo', Q_hitTerms', Q_image', Q_bound', Q_waits', Q_waitsFor', Q_seen', Q_looked') ∧
      RH tt n m cc pc H_kind' H_subject' H_count' H_statementRow' H_firstRow' H_secondRow' Q_hitKind' Q_hits' Q_hitOf' Q_hitOne' Q_hitTwo' Q_hitTerms' ∧ (k = 0 → O_out' 0 = b.toInt64) := by
  have hn : n ≤ 100 := R.2.1
  have hcnt : T_count = nI n := R.2.2.1.1
  have hall : Q_all = nI n := R.2.2.2.1.1
  unfold f_L_find f_X_find f_Q_find f_Q_find_B14 f_Q_refuses
  rw [isTerm_has]
  rcases has_em (n := n) (by omega) p0 with ⟨p, hp, e, h⟩ | ⟨-, h⟩
  · have hm := S.2.2.1
    obtain ⟨c', im', mt', pr', sn', wt', r0', r1', r2', ho', h1', h2', ht', qi', qb', qw', qv', qs', ql', l1, l2, l3, l4⟩ := find_loop R har S hp 0 m (Nat.le_refl m) FU FU (by unfold FU; omega) (by unfold FU; omega) 0 M_images F_match F_premise F_seen F_waiting H_statementRow H_firstRow H_secondRow Q_hitOf Q_hitOne Q_hitTwo Q_hitTerms Q_image Q_bound Q_waits Q_waitsFor Q_seen Q_looked (by omega) (fun i hi => by omega)
    rw [Nat.sub_self, nI_0] at l1 l2
    refine ⟨0, nI c', im', nI p, mt', pr', sn', wt', 1, nI p, nI c', r0', r1', r2', vp_updL O_out 0 (nI c').toInt64, 1, nI c', ho', h1', h2', ht', qi', qb', qw', qv', qs', ql', ?_, ?_, ⟨c', by omega, rfl, rfl, fun i hi => ⟨(l4 i hi).1, (l4 i hi).2.1, (l4 i hi).2.2.1⟩, Or.inr (Or.inl ⟨rfl, rfl, p, hp, rfl, fun i hi => (l4 i hi).2.2.2⟩)⟩, fun _ => upL_s _ _ _⟩
    · rw [hcnt] at l1
      rw [hcnt, h, bd_s, if_neg (by decide), e]
      unfold f_H_begin f_F_begin
      rw [bd_s, bd_s, l1, bd_s]
      rfl
    · rw [hall] at l2
      rw [hall, h, bd_s, if_neg (by decide), if_pos (by decide), bd_s, if_pos rfl, e]
      exact l2
  · refine ⟨1, 0, M_images, F_shape, F_match, F_premise, F_seen, F_waiting, H_kind, H_subject, H_count, H_statementRow, H_firstRow, H_secondRow, O_out, Q_hitKind, Q_hits, Q_hitOf, Q_hitOne, Q_hitTwo, Q_hitTerms, Q_image, Q_bound, Q_waits, Q_waitsFor, Q_seen, Q_looked, ?_, ?_, H, fun e => absurd e (by decide)⟩
    · rw [hcnt, h, bd_s, if_pos rfl, bd_s]
      rfl
    · rw [hall, h, bd_s, if_pos rfl, if_neg (by decide), bd_s, if_neg (by decide)]
end
