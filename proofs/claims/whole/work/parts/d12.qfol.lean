section
variable {tt : Nat → Tm} {n N m : Nat} {ar : Nat → Int32} {sz : Nat → Nat} {cc pc : Nat → Nat} {pp : Nat → Nat → Nat} {T_count : Int32} {T_heads T_places T_olders T_sizes : Nat → Int32} {T_withins : Nat → Int64} {T_newest : Nat → Int32} {Q_all Q_thrown : Int32} {Q_kinds Q_which Q_firsts Q_seconds Q_thirds Q_nexts Q_heads Q_names Q_variables Q_holes Q_sizes : Nat → Int32}
variable {S_count : Int32} {S_premises S_premiseCounts S_conclusions : Nat → Int32} {Q_statements : Int32} {Q_premises Q_counts Q_conclusions : Nat → Int32} {H_kind H_subject H_count : Int32} {H_statementRow H_firstRow H_secondRow : Nat → Int32} {Q_hitKind Q_hits : Int32} {Q_hitOf Q_hitOne Q_hitTwo Q_hitTerms : Nat → Int32} {O_out : Nat → Int64}
variable {Q_places : Nat → Int32}
variable {tt0 : Nat → Tm} {n0 kk : Nat} {od : Nat → Nat} {sz0 : Nat → Nat} {Q_places Q_image Q_bound Q_waits Q_waitsFor Q_goals Q_steps Q_looked Q_under Q_taken Q_news Q_order : Nat → Int32} {tr thr Q_tries Q_takenAll Q_takenFirst : Int32} {f f2 l : Nat}
theorem q_give0 (hl : l ≤ 1000) (hu : Q_under l = -1) (hst : Q_steps l ≤ 0) :
    QF Q_statements Q_places Q_conclusions Q_premises Q_counts n0 f (f2 + 1) thr Q_all tr Q_kinds Q_which Q_firsts Q_seconds Q_thirds Q_nexts Q_heads Q_names Q_variables Q_holes Q_sizes Q_image Q_bound Q_waits Q_waitsFor Q_goals Q_steps Q_looked Q_under Q_taken Q_news Q_order l = QH Q_statements Q_places Q_conclusions Q_premises Q_counts n0 f thr Q_all tr Q_kinds Q_which Q_firsts Q_seconds Q_thirds Q_nexts Q_heads Q_names Q_variables Q_holes Q_sizes Q_image Q_bound Q_waits Q_waitsFor Q_goals Q_steps Q_looked Q_under Q_taken Q_news Q_order (nI l) 2 := by
  unfold QF QH
  rw [f_Q_follows_L145, gd_t (ixb_t (by omega) (by omega)), nI_clamp (by omega), if_pos hu, gd_t (ixb_t (by omega) (by omega)), if_pos hst, B236_none hl hu]
def ansQ (R : Option (Nat × Option (Nat × Nat))) (b th tr tk fi : Int32) : Prop :=
  (R = none → b = 0 ∧ th = 3 ∧ tr = 1000 ∧ tk = 0 ∧ fi = -1) ∧ ∀ t r, R = some (t, r) → th = 0 ∧ tr = nI t ∧ (r = none → b = 0 ∧ tk = 0 ∧ fi = -1) ∧ ∀ a s, r = some (a, s) → b = 1 ∧ tk = nI a ∧ fi = nI s
theorem qfollows_eq (w : WF tt0 n0 ar) (hn0 : n0 ≤ 100) (qt : QTb tt0 n0 Q_all Q_kinds Q_which Q_firsts Q_seconds Q_thirds Q_nexts Q_heads) (hq : QK tt0 n0 sz0 Q_names Q_variables Q_holes Q_sizes) (har : ∀ h, h < 30 → Q_places h = ar h) (S : RS tt0 n0 m cc pc pp S_count S_premises S_premiseCounts S_conclusions Q_statements Q_premises Q_counts Q_conclusions) (hod : ∀ i, i < m → od i < m ∧ ∀ A : Nat → Int32, ordO pc m A → A i = nI (od i)) {g : Nat} (hg : g < n0) {p1 : Int32} (hk : stpK p1 kk) (hwg : f_Q_wrongGoal Q_all Q_holes (nI g) = some 0) :
    ∃ (b th tr' tk' fi' : Int32) (Q_kinds' Q_which' Q_firsts' Q_seconds' Q_thirds' Q_nexts' Q_heads' Q_image' Q_bound' Q_waits' Q_waitsFor' Q_goals' Q_steps' Q_looked' Q_under' Q_taken' Q_news' Q_order' : Nat → Int32),
      f_Q_follows Q_thrown Q_all Q_statements Q_tries Q_takenAll Q_takenFirst Q_kinds Q_which Q_firsts Q_seconds Q_thirds Q_nexts Q_heads Q_names Q_variables Q_holes Q_sizes Q_places Q_conclusions Q_premises Q_counts Q_image Q_bound Q_waits Q_waitsFor Q_goals Q_steps Q_looked Q_under Q_taken Q_news Q_order (nI g) p1 = some (b, th, nI n0, tr', tk', fi', Q_kinds', Q_which', Q_firsts', Q_seconds', Q_thirds', Q_nexts', Q_heads', Q_names, Q_variables, Q_holes, Q_sizes, Q_image', Q_bound', Q_waits', Q_waitsFor', Q_goals', Q_steps', Q_looked', Q_under', Q_taken', Q_news', Q_order') ∧
      QTb tt0 n0 (nI n0) Q_kinds' Q_which' Q_firsts' Q_seconds' Q_thirds' Q_nexts' Q_heads' ∧ ansQ (LKs tt0 cc pc pp od m kk (tt0 g) 0) b th tr' tk' fi' := by
  have hm := S.2.2.1
  have hall := qt.1
  obtain ⟨od', o1, o2⟩ := qorder_eq hm (fun s hs => (S.2.2.2 s hs).2.1.2.2) (fun s hs => (S.2.2.2 s hs).2.1.2.1) Q_order
  have hod' : ∀ i, i < m → od i < m ∧ od' i = nI (od i) := fun i hi => ⟨(hod i hi).1, (hod i hi).2 od' o2⟩
  have o1' : f_Q_inOrder Q_statements Q_counts Q_order = some od' := by rw [S.2.1]; exact o1
  have hlook : ∀ st : Int32, f_Q_look Q_goals Q_steps Q_looked Q_under Q_taken 0 (nI g) st = some (upd Q_goals 0 (nI g), upd Q_steps 0 st, upd Q_looked 0 0, upd Q_under 0 (-1), upd Q_taken 0 1) := by
    intro st
    unfold f_Q_look
    rfl
  -- behind the loop
  have hend : ∀ (fuel n : Nat) (tt : Nat → Tm) (t : Nat) (Q_all : Int32) (Q_kinds Q_which Q_firsts Q_seconds Q_thirds Q_nexts Q_heads Q_image Q_bound Q_waits Q_waitsFor Q_goals Q_steps Q_looked Q_under Q_taken Q_news : Nat → Int32) (tld : Int32) (r : Option (Nat × Nat)), QTb tt n Q_all Q_kinds Q_which Q_firsts Q_seconds Q_thirds Q_nexts Q_heads → n0 ≤ n → (∀ u, u < n0 → tt u = tt0 u) → (r = none → tld = 2) → (∀ a s, r = some (a, s) → tld = 1 ∧ Q_taken 0 = nI a ∧ ∃ i, i < m ∧ Q_looked 0 = nI i ∧ od i = s) →
      ∃ (b tk fi : Int32) (Q_heads' : Nat → Int32), QH Q_statements Q_places Q_conclusions Q_premises Q_counts n0 (fuel + 1) 0 Q_all (nI t) Q_kinds Q_which Q_firsts Q_seconds Q_thirds Q_nexts Q_heads Q_names Q_variables Q_holes Q_sizes Q_image Q_bound Q_waits Q_waitsFor Q_goals Q_steps Q_looked Q_under Q_taken Q_news od' (nI 0) tld = some (b, 0, nI n0, nI t, tk, fi, Q_kinds, Q_which, Q_firsts, Q_seconds, Q_thirds, Q_nexts, Q_heads', Q_names, Q_variables, Q_holes, Q_sizes, Q_image, Q_bound, Q_waits, Q_waitsFor, Q_goals, Q_steps, Q_looked, Q_under, Q_taken, Q_news, od') ∧ QTb tt0 n0 (nI n0) Q_kinds Q_which Q_firsts Q_seconds Q_thirds Q_nexts Q_heads' ∧ (r = none → b = 0 ∧ tk = 0 ∧ fi = -1) ∧ ∀ a s, r = some (a, s) → b = 1 ∧ tk = nI a ∧ fi = nI s := by
    intro fuel n tt t Q_all Q_kinds Q_which Q_firsts Q_seconds Q_thirds Q_nexts Q_heads Q_image Q_bound Q_waits Q_waitsFor Q_goals Q_steps Q_looked Q_under Q_taken Q_news tld r qt hn hx h1 h2
    obtain ⟨hd', s1, s2⟩ := shrink_eq qt hn
    have s3 := s2.congr (fun u hu => (hx u hu).symm)
    unfold QH
    rw [f_Q_follows_L62, if_pos (show nI 0 ≤ (0 : Int32) by decide)]
    unfold f_Q_follows_B361
    cases r with
    | none =>
      rw [h1 rfl, if_neg (by decide), s1, bd_s, if_neg (by decide)]
      exact ⟨0, 0, -1, hd', rfl, s3, fun _ => ⟨rfl, rfl, rfl⟩, fun a s e => by cases e⟩
    | some q =>
      obtain ⟨a, s⟩ := q
      obtain ⟨e1, e2, i, hi, e3, e4⟩ := h2 a s rfl
      rw [e1, if_pos rfl, gd_t (show ixb (0 : Int32) 1002 = true by decide), nmE, gd_t (show ixb (0 : Int32) 1002 = true by decide), clamp0, e3, gd_t (ixb_t (by omega) (by omega)), nmE, nI_clamp (by omega), s1, bd_s, if_pos rfl, e2, (hod' i hi).2, e4]
      exact ⟨1, nI a, nI s, hd', rfl, s3, (fun e => by cases e), fun a' s' e => by cases e; exact ⟨rfl, rfl, rfl⟩⟩
  have hstart : ∀ st : Int32, st = (if (100 : Int32) < p1 then (100 : Int32) else p1) → f_Q_follows Q_thrown Q_all Q_statements Q_tries Q_takenAll Q_takenFirst Q_kinds Q_which Q_firsts Q_seconds Q_thirds Q_nexts Q_heads Q_names Q_variables Q_holes Q_sizes Q_places Q_conclusions Q_premises Q_counts Q_image Q_bound Q_waits Q_waitsFor Q_goals Q_steps Q_looked Q_under Q_taken Q_news Q_order (nI g) p1 = QH Q_statements Q_places Q_conclusions Q_premises Q_counts n0 FU 0 Q_all (nI 0) Q_kinds Q_which Q_firsts Q_seconds Q_thirds Q_nexts Q_heads Q_names Q_variables Q_holes Q_sizes Q_image Q_bound Q_waits Q_waitsFor (upd Q_goals 0 (nI g)) (upd Q_steps 0 st) (upd Q_looked 0 0) (upd Q_under 0 (-1)) (upd Q_taken 0 1) Q_news od' (nI (0 + 1)) 0 := by
    intro st hst
    unfold f_Q_follows f_Q_refuses QH
    rw [hwg, bd_s, if_pos (by decide), bd_s, if_pos rfl, o1', bd_s, hlook, hlook, bd_s, bd_s]
    have e1 : (nI (0 + 1) : Int32) = 1 := by decide
    have e0 : (nI 0 : Int32) = 0 := by decide
    by_cases c : (100 : Int32) < p1
    · rw [if_pos c] at hst
      have c' : ¬ p1 ≤ (100 : Int32) := fun h => by
        have a1 := Int32.lt_iff_toInt_lt.mp c
        have a2 := Int32.le_iff_toInt_le.mp h
        omega
      rw [if_neg c', hst, e1, e0, ← hall]
    · rw [if_neg c] at hst
      have c' : p1 ≤ (100 : Int32) := by
        apply Int32.le_iff_toInt_le.mpr
        have a1 : ¬ (100 : Int32).toInt < p1.toInt := fun h => c (Int32.lt_iff_toInt_lt.mpr h)
        omega
      rw [if_pos c', hst, e1, e0, ← hall]
  rcases hk with ⟨h1, h2⟩ | ⟨h1, h2, h3⟩
  · have hst : (if (100 : Int32) < p1 then (100 : Int32) else p1) = p1 := if_neg (fun h => by
      have a1 := Int32.lt_iff_toInt_lt.mp h
      have a2 := Int32.le_iff_toInt_le.mp h1
      have a3 : (100 : Int32).toInt = 100 := by decide
      have a4 : (0 : Int32).toInt = 0 := by decide
      omega)
    rw [hstart p1 hst.symm]
    obtain ⟨G, hG⟩ : ∃ G, FU = G + 1 := ⟨FU - 1, by unfold FU; omega⟩
    obtain ⟨G2, hG2⟩ : ∃ G2, G = G2 + 1 := ⟨G - 1, by unfold FU at hG; omega⟩
    have hq0 : QH Q_statements Q_places Q_conclusions Q_premises Q_counts n0 FU 0 Q_all (nI 0) Q_kinds Q_which Q_firsts Q_seconds Q_thirds Q_nexts Q_heads Q_names Q_variables Q_holes Q_sizes Q_image Q_bound Q_waits Q_waitsFor (upd Q_goals 0 (nI g)) (upd Q_steps 0 p1) (upd Q_looked 0 0) (upd Q_under 0 (-1)) (upd Q_taken 0 1) Q_news od' (nI (0 + 1)) 0 = QH Q_statements Q_places Q_conclusions Q_premises Q_counts n0 (G2 + 1) 0 Q_all (nI 0) Q_kinds Q_which Q_firsts Q_seconds Q_thirds Q_nexts Q_heads Q_names Q_variables Q_holes Q_sizes Q_image Q_bound Q_waits Q_waitsFor (upd Q_goals 0 (nI g)) (upd Q_steps 0 p1) (upd Q_looked 0 0) (upd Q_under 0 (-1)) (upd Q_taken 0 1) Q_news od' (nI 0) 2 := by
      rw [hG, QH_0 (Nat.zero_le _), hG, q_give0 (Nat.zero_le _) (up_s _ _ _) (by rw [up_s]; exact h1), hG2]
    obtain ⟨b, tk, fi, hd', q1, q2, q3, q4⟩ := hend G2 n0 tt0 0 Q_all Q_kinds Q_which Q_firsts Q_seconds Q_thirds Q_nexts Q_heads Q_image Q_bound Q_waits Q_waitsFor (upd Q_goals 0 (nI g)) (upd Q_steps 0 p1) (upd Q_looked 0 0) (upd Q_under 0 (-1)) (upd Q_taken 0 1) Q_news 2 none qt (Nat.le_refl _) (fun _ _ => rfl) (fun _ => rfl) (fun a s e => by cases e)
    refine ⟨b, 0, nI 0, tk, fi, Q_kinds, Q_which, Q_firsts, Q_seconds, Q_thirds, Q_nexts, hd', Q_image, Q_bound, Q_waits, Q_waitsFor, _, _, _, _, _, Q_news, od', hq0.trans q1, q2, ?_⟩
    rw [h2]
    refine ⟨(fun e => by cases e), fun t r e => ?_⟩
    have e' : some ((0 : Nat), (none : Option (Nat × Nat))) = some (t, r) := e
    cases e'
    exact ⟨rfl, rfl, fun _ => q3 rfl, fun a s e => by cases e⟩
  · rw [hstart (nI kk) h3.symm]
    have hsim := q_SIM (thr := 0) w S hn0 hq har h2 hod' kk 0 (by omega) FU tt0 n0 Q_all Q_kinds Q_which Q_firsts Q_seconds Q_thirds Q_nexts Q_heads Q_image Q_bound Q_waits Q_waitsFor (upd Q_goals 0 (nI g)) (upd Q_steps 0 (nI kk)) (upd Q_looked 0 0) (upd Q_under 0 (-1)) (upd Q_taken 0 1) Q_news 0 1 g (by unfold FU; omega) w qt (fun _ _ => rfl) (Nat.le_refl _) (by omega) (up_s _ _ _) hg (up_s _ _ _) (up_s _ _ _) (up_s _ _ _) (up_s _ _ _) (by omega) (by omega)
    have hq0 : QH Q_statements Q_places Q_conclusions Q_premises Q_counts n0 FU 0 Q_all (nI 0) Q_kinds Q_which Q_firsts Q_seconds Q_thirds Q_nexts Q_heads Q_names Q_variables Q_holes Q_sizes Q_image Q_bound Q_waits Q_waitsFor (upd Q_goals 0 (nI g)) (upd Q_steps 0 (nI kk)) (upd Q_looked 0 0) (upd Q_under 0 (-1)) (upd Q_taken 0 1) Q_news od' (nI (0 + 1)) 0 = QF Q_statements Q_places Q_conclusions Q_premises Q_counts n0 (FU - 1) FU 0 Q_all (nI 0) Q_kinds Q_which Q_firsts Q_seconds Q_thirds Q_nexts Q_heads Q_names Q_variables Q_holes Q_sizes Q_image Q_bound Q_waits Q_waitsFor (upd Q_goals 0 (nI g)) (upd Q_steps 0 (nI kk)) (upd Q_looked 0 0) (upd Q_under 0 (-1)) (upd Q_taken 0 1) Q_news od' 0 := by
      obtain ⟨G, hG⟩ : ∃ G, FU = G + 1 := ⟨FU - 1, by unfold FU; omega⟩
      have hG1 : FU - 1 = G := by omega
      rw [hG1]
      conv => lhs; rw [hG]
      exact QH_0 (Nat.zero_le _)
    rw [hq0]
    have hR : ∀ R, QRes tt0 n0 ar m od Q_statements Q_places Q_conclusions Q_premises Q_counts Q_names Q_variables Q_holes Q_sizes od' 0 tt0 n0 0 0 1 (upd Q_goals 0 (nI g)) (upd Q_steps 0 (nI kk)) (upd Q_looked 0 0) (upd Q_under 0 (-1)) (upd Q_taken 0 1) Q_news (QF Q_statements Q_places Q_conclusions Q_premises Q_counts n0 (FU - 1) FU 0 Q_all (nI 0) Q_kinds Q_which Q_firsts Q_seconds Q_thirds Q_nexts Q_heads Q_names Q_variables Q_holes Q_sizes Q_image Q_bound Q_waits Q_waitsFor (upd Q_goals 0 (nI g)) (upd Q_steps 0 (nI kk)) (upd Q_looked 0 0) (upd Q_under 0 (-1)) (upd Q_taken 0 1) Q_news od' 0) R → (∀ t r, R = some (t, r) → t ≤ 1000) →
        ∃ (b th tr' tk' fi' : Int32) (Q_kinds' Q_which' Q_firsts' Q_seconds' Q_thirds' Q_nexts' Q_heads' Q_image' Q_bound' Q_waits' Q_waitsFor' Q_goals' Q_steps' Q_looked' Q_under' Q_taken' Q_news' Q_order' : Nat → Int32),
          QF Q_statements Q_places Q_conclusions Q_premises Q_counts n0 (FU - 1) FU 0 Q_all (nI 0) Q_kinds Q_which Q_firsts Q_seconds Q_thirds Q_nexts Q_heads Q_names Q_variables Q_holes Q_sizes Q_image Q_bound Q_waits Q_waitsFor (upd Q_goals 0 (nI g)) (upd Q_steps 0 (nI kk)) (upd Q_looked 0 0) (upd Q_under 0 (-1)) (upd Q_taken 0 1) Q_news od' 0 = some (b, th, nI n0, tr', tk', fi', Q_kinds', Q_which', Q_firsts', Q_seconds', Q_thirds', Q_nexts', Q_heads', Q_names, Q_variables, Q_holes, Q_sizes, Q_image', Q_bound', Q_waits', Q_waitsFor', Q_goals', Q_steps', Q_looked', Q_under', Q_taken', Q_news', Q_order') ∧
          QTb tt0 n0 (nI n0) Q_kinds' Q_which' Q_firsts' Q_seconds' Q_thirds' Q_nexts' Q_heads' ∧ ansQ R b th tr' tk' fi' := by
      intro R hC hb
      cases R with
      | none =>
        obtain ⟨c1, c2, c3, c4, c5, c6, c7, v1, v2, v3, v4, d1, d2, d3, d4, d5, d6, g1, g2⟩ := hC
        exact ⟨0, 3, 1000, 0, -1, c1, c2, c3, c4, c5, c6, c7, v1, v2, v3, v4, d1, d2, d3, d4, d5, d6, od', g1, g2, fun _ => ⟨rfl, rfl, rfl, rfl, rfl⟩, fun t r e => by cases e⟩
      | some q =>
        obtain ⟨t', r⟩ := q
        have hb' := hb t' r rfl
        obtain ⟨y', tt1, n1, c0, c1, c2, c3, c4, c5, c6, c7, v1, v2, v3, v4, d1, d2, d3, d4, d5, d6, tld, g1, g2, g3, g4, g5, g6, g7, g8, g9, g10, g11⟩ := hC
        rw [g1, fuQ (show y' < 1000000 by omega)]
        obtain ⟨b, tk, fi, hd', q1, q2, q3, q4⟩ := hend (FU - (y' + 1)) n1 tt1 t' c0 c1 c2 c3 c4 c5 c6 c7 v1 v2 v3 v4 d1 d2 d3 d4 d5 d6 tld r g3 g4 g6 g10 g11
        refine ⟨b, 0, nI t', tk, fi, c1, c2, c3, c4, c5, c6, hd', v1, v2, v3, v4, d1, d2, d3, d4, d5, d6, od', q1, q2, (fun e => by cases e), fun t r' e => ?_⟩
        cases e
        exact ⟨rfl, rfl, q3, q4⟩
    exact hR _ hsim (fun t r e => (bd_LK od kk (tt0 g) 0 (by omega) t r e).2.1)
end
