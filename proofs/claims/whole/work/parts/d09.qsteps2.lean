section
variable {tt : Nat → Tm} {n N m : Nat} {ar : Nat → Int32} {sz : Nat → Nat} {cc pc : Nat → Nat} {pp : Nat → Nat → Nat} {T_count : Int32} {T_heads T_places T_olders T_sizes : Nat → Int32} {T_withins : Nat → Int64} {T_newest : Nat → Int32} {Q_all Q_thrown : Int32} {Q_kinds Q_which Q_firsts Q_seconds Q_thirds Q_nexts Q_heads Q_names Q_variables Q_holes Q_sizes : Nat → Int32}
variable {S_count : Int32} {S_premises S_premiseCounts S_conclusions : Nat → Int32} {Q_statements : Int32} {Q_premises Q_counts Q_conclusions : Nat → Int32} {H_kind H_subject H_count : Int32} {H_statementRow H_firstRow H_secondRow : Nat → Int32} {Q_hitKind Q_hits : Int32} {Q_hitOf Q_hitOne Q_hitTwo Q_hitTerms : Nat → Int32} {O_out : Nat → Int64}
variable {Q_places : Nat → Int32}
variable {tt0 : Nat → Tm} {n0 kk : Nat} {od : Nat → Nat} {sz0 : Nat → Nat} {σ : Nat → Option Tm} {Q_places Q_image Q_bound Q_waits Q_waitsFor Q_goals Q_steps Q_looked Q_under Q_taken Q_news Q_order : Nat → Int32} {tr thr : Int32} {f f2 l : Nat}
theorem q_succ (hl : l ≤ 1000) {c i s : Nat} (hc : c ≤ 4) (hu : Q_under l = nI c) (hlk : Q_looked l = nI i) (hi : i < 30) (hor : Q_order i = nI s) (hs : s < 30) (hcs : Q_counts s = nI c) :
    QF Q_statements Q_places Q_conclusions Q_premises Q_counts n0 f (f2 + 1) thr Q_all tr Q_kinds Q_which Q_firsts Q_seconds Q_thirds Q_nexts Q_heads Q_names Q_variables Q_holes Q_sizes Q_image Q_bound Q_waits Q_waitsFor Q_goals Q_steps Q_looked Q_under Q_taken Q_news Q_order l = QH Q_statements Q_places Q_conclusions Q_premises Q_counts n0 f thr Q_all tr Q_kinds Q_which Q_firsts Q_seconds Q_thirds Q_nexts Q_heads Q_names Q_variables Q_holes Q_sizes Q_image Q_bound Q_waits Q_waitsFor Q_goals Q_steps Q_looked Q_under Q_taken Q_news Q_order (nI l) 1 := by
  have hne : ¬ Q_under l = -1 := by rw [hu]; exact nI_nm1 (by omega)
  unfold QF QH
  rw [f_Q_follows_L145, gd_t (ixb_t (by omega) (by omega)), nI_clamp (by omega), if_neg hne]
  unfold f_Q_follows_B236
  rw [gd_t (ixb_t (by omega) (by omega)), nI_clamp (by omega), if_neg hne, gd_t (ixb_t (by omega) (by omega)), gd_t (ixb_t (by omega) (by omega)), hlk, gd_t (ixb_t hi (by omega)), nI_clamp (by omega), hor, gd_t (ixb_t hs (by omega)), nI_clamp (by omega), hcs, if_pos hu, nmE, nI_m1]
theorem q_push (hl : l ≤ 1000) {c i s j k : Nat} (hc : c ≤ 4) (hj : j < c) (hu : Q_under l = nI j) (hlk : Q_looked l = nI i) (hi : i < 30) (hor : Q_order i = nI s) (hs : s < 30) (hcs : Q_counts s = nI c) (hst : Q_steps l = nI (k + 1)) :
    QF Q_statements Q_places Q_conclusions Q_premises Q_counts n0 f (f2 + 1) thr Q_all tr Q_kinds Q_which Q_firsts Q_seconds Q_thirds Q_nexts Q_heads Q_names Q_variables Q_holes Q_sizes Q_image Q_bound Q_waits Q_waitsFor Q_goals Q_steps Q_looked Q_under Q_taken Q_news Q_order l = QH Q_statements Q_places Q_conclusions Q_premises Q_counts n0 f thr Q_all tr Q_kinds Q_which Q_firsts Q_seconds Q_thirds Q_nexts Q_heads Q_names Q_variables Q_holes Q_sizes Q_image Q_bound Q_waits Q_waitsFor (upd Q_goals (l + 1) (Q_news (4 * l + j))) (upd Q_steps (l + 1) (nI k)) (upd Q_looked (l + 1) 0) (upd Q_under (l + 1) (-1)) (upd Q_taken (l + 1) 1) Q_news Q_order (nI (l + 2)) 0 := by
  have hne : ¬ Q_under l = -1 := by rw [hu]; exact nI_nm1 (by omega)
  have hnc : ¬ Q_under l = nI c := by rw [hu]; exact fun e => by have := nI_inj (by omega) (by omega) e; omega
  unfold QF QH
  rw [f_Q_follows_L145, gd_t (ixb_t (by omega) (by omega)), nI_clamp (by omega), if_neg hne]
  unfold f_Q_follows_B236 f_Q_look
  rw [gd_t (ixb_t (by omega) (by omega)), nI_clamp (by omega), if_neg hne, gd_t (ixb_t (by omega) (by omega)), gd_t (ixb_t (by omega) (by omega)), hlk, gd_t (ixb_t hi (by omega)), nI_clamp (by omega), hor, gd_t (ixb_t hs (by omega)), nI_clamp (by omega), hcs, if_neg hnc, gd_t (ixb_t (by omega) (by omega)), hu, nI_4x, nI_add, gd_t (ixb_t (by omega) (by omega)), gd_t (ixb_t (by omega) (by omega)), nI_clamp (by omega), hst, nI_pred]
  rw [gd_t (ixb_t (by omega) (by omega)), nmE, gd_t (ixb_t (by omega) (by omega)), nmE, gd_t (ixb_t (by omega) (by omega)), nmE, gd_t (ixb_t (by omega) (by omega)), nmE, gd_t (ixb_t (by omega) (by omega)), nmE, bd_s, nmE, nI_1, nI_clamp (by omega)]
theorem QH_0 (hl : l ≤ 1000) : QH Q_statements Q_places Q_conclusions Q_premises Q_counts n0 (f + 1) thr Q_all tr Q_kinds Q_which Q_firsts Q_seconds Q_thirds Q_nexts Q_heads Q_names Q_variables Q_holes Q_sizes Q_image Q_bound Q_waits Q_waitsFor Q_goals Q_steps Q_looked Q_under Q_taken Q_news Q_order (nI (l + 1)) 0 = QF Q_statements Q_places Q_conclusions Q_premises Q_counts n0 f FU thr Q_all tr Q_kinds Q_which Q_firsts Q_seconds Q_thirds Q_nexts Q_heads Q_names Q_variables Q_holes Q_sizes Q_image Q_bound Q_waits Q_waitsFor Q_goals Q_steps Q_looked Q_under Q_taken Q_news Q_order l := by
  unfold QH QF
  generalize hFU : FU = G
  rw [f_Q_follows_L62, if_neg (show ¬ nI (l + 1) ≤ (0 : Int32) from (nI_ge (by omega) (by omega) : ¬ nI (l + 1) ≤ nI 0)), nmE, nI_pred, if_neg (by decide)]
  unfold f_Q_follows_B106
  rw [if_neg (by decide), hFU]
theorem QH_2 (hl : l ≤ 1000) : QH Q_statements Q_places Q_conclusions Q_premises Q_counts n0 (f + 1) thr Q_all tr Q_kinds Q_which Q_firsts Q_seconds Q_thirds Q_nexts Q_heads Q_names Q_variables Q_holes Q_sizes Q_image Q_bound Q_waits Q_waitsFor Q_goals Q_steps Q_looked Q_under Q_taken Q_news Q_order (nI (l + 1)) 2 = QF Q_statements Q_places Q_conclusions Q_premises Q_counts n0 f FU thr Q_all tr Q_kinds Q_which Q_firsts Q_seconds Q_thirds Q_nexts Q_heads Q_names Q_variables Q_holes Q_sizes Q_image Q_bound Q_waits Q_waitsFor Q_goals Q_steps (upd Q_looked l (Q_looked l + 1)) (upd Q_under l (-1)) (upd Q_taken l 1) Q_news Q_order l := by
  unfold QH QF
  generalize hFU : FU = G
  rw [f_Q_follows_L62, if_neg (show ¬ nI (l + 1) ≤ (0 : Int32) from (nI_ge (by omega) (by omega) : ¬ nI (l + 1) ≤ nI 0)), nmE, nI_pred, if_pos rfl, gd_t (ixb_t (by omega) (by omega)), gd_t (ixb_t (by omega) (by omega)), nmE, gd_t (ixb_t (by omega) (by omega)), nmE, gd_t (ixb_t (by omega) (by omega)), nmE, nI_clamp (by omega)]
  unfold f_Q_follows_B106
  rw [if_neg (by decide), hFU]
theorem QH_1 (hl : l ≤ 1000) : QH Q_statements Q_places Q_conclusions Q_premises Q_counts n0 (f + 1) thr Q_all tr Q_kinds Q_which Q_firsts Q_seconds Q_thirds Q_nexts Q_heads Q_names Q_variables Q_holes Q_sizes Q_image Q_bound Q_waits Q_waitsFor Q_goals Q_steps Q_looked Q_under Q_taken Q_news Q_order (nI (l + 1)) 1 = QF Q_statements Q_places Q_conclusions Q_premises Q_counts n0 f FU thr Q_all tr Q_kinds Q_which Q_firsts Q_seconds Q_thirds Q_nexts Q_heads Q_names Q_variables Q_holes Q_sizes Q_image Q_bound Q_waits Q_waitsFor Q_goals Q_steps Q_looked (upd Q_under l (Q_under l + 1)) (upd Q_taken l (Q_taken l + Q_taken (l + 1))) Q_news Q_order l := by
  unfold QH QF
  generalize hFU : FU = G
  rw [f_Q_follows_L62, if_neg (show ¬ nI (l + 1) ≤ (0 : Int32) from (nI_ge (by omega) (by omega) : ¬ nI (l + 1) ≤ nI 0)), nmE, nI_pred, if_neg (by decide)]
  unfold f_Q_follows_B106
  rw [if_pos rfl, gd_t (ixb_t (by omega) (by omega)), nI_1, gd_t (ixb_t (by omega) (by omega)), gd_t (ixb_t (by omega) (by omega)), nmE, gd_t (ixb_t (by omega) (by omega)), gd_t (ixb_t (by omega) (by omega)), nmE, nI_clamp (by omega), nI_clamp (by omega), hFU]
end
