section
variable {tt : Nat → Tm} {n N m : Nat} {ar : Nat → Int32} {sz : Nat → Nat} {cc pc : Nat → Nat} {pp : Nat → Nat → Nat} {T_count : Int32} {T_heads T_places T_olders T_sizes : Nat → Int32} {T_withins : Nat → Int64} {T_newest : Nat → Int32} {Q_all Q_thrown : Int32} {Q_kinds Q_which Q_firsts Q_seconds Q_thirds Q_nexts Q_heads Q_names Q_variables Q_holes Q_sizes : Nat → Int32}
variable {S_count : Int32} {S_premises S_premiseCounts S_conclusions : Nat → Int32} {Q_statements : Int32} {Q_premises Q_counts Q_conclusions : Nat → Int32} {H_kind H_subject H_count : Int32} {H_statementRow H_firstRow H_secondRow : Nat → Int32} {Q_hitKind Q_hits : Int32} {Q_hitOf Q_hitOne Q_hitTwo Q_hitTerms : Nat → Int32} {O_out : Nat → Int64}
variable {Q_places : Nat → Int32}
variable {tt0 : Nat → Tm} {n0 kk : Nat} {od : Nat → Nat} {S_order M_images M_path E_goals E_marks E_looked E_underway E_met E_takenHere : Nat → Int32} {E_level E_steps E_tries E_taken E_first : Int32}
/-- what an answer of the search says -/
def ansE (R : Option (Nat × Option (Nat × Nat))) (gi tr tk fi : Int32) : Prop :=
  (R = none → gi = 0 ∧ tr = 1000 ∧ tk = 0 ∧ fi = -1) ∧ ∀ t r, R = some (t, r) → gi = 1 ∧ tr = nI t ∧ (r = none → tk = 0 ∧ fi = -1) ∧ ∀ a s, r = some (a, s) → tk = nI a ∧ fi = nI s
/-- how many steps there are -/
def stpK (p1 : Int32) (kk : Nat) : Prop := (p1 ≤ 0 ∧ kk = 0) ∨ (1 ≤ kk ∧ kk ≤ 100 ∧ (if (100 : Int32) < p1 then (100 : Int32) else p1) = nI kk)
theorem ends_eq (w : WF tt0 n0 ar) (ct : CT tt0 n0 N sz T_count T_heads T_places T_olders T_sizes T_withins T_newest) (hn0 : n0 ≤ 100) (S : RS tt0 n0 m cc pc pp S_count S_premises S_premiseCounts S_conclusions Q_statements Q_premises Q_counts Q_conclusions) (hod : ∀ i, i < m → od i < m ∧ ∀ A : Nat → Int32, ordO pc m A → A i = nI (od i)) {g : Nat} (hg : g < n0) {p1 : Int32} (hk : stpK p1 kk) :
    ∃ (gi : Int32) (N' : Nat) (sz' : Nat → Nat) (T_heads' T_places' T_olders' T_sizes' : Nat → Int32) (T_withins' : Nat → Int64) (T_newest' S_order' M_images' M_path' : Nat → Int32) (E_level' E_steps' E_tries' E_taken' E_first' : Int32) (E_goals' E_marks' E_looked' E_underway' E_met' E_takenHere' : Nat → Int32),
      f_E_ends T_count N T_heads (3*N) T_places N T_olders N T_sizes N T_withins T_newest S_count S_premises S_premiseCounts S_conclusions S_order M_images M_path E_level E_steps E_tries E_taken E_first E_goals E_marks E_looked E_underway E_met E_takenHere (nI g) p1 = some (gi, nI n0, N', T_heads', 3*N', T_places', N', T_olders', N', T_sizes', N', T_withins', T_newest', S_order', M_images', M_path', E_level', E_steps', E_tries', E_taken', E_first', E_goals', E_marks', E_looked', E_underway', E_met', E_takenHere') ∧
      CT tt0 n0 N' sz' (nI n0) T_heads' T_places' T_olders' T_sizes' T_withins' T_newest' ∧ N ≤ N' ∧ (∀ v, v < n0 → sz' v = sz v) ∧ ansE (LKs tt0 cc pc pp od m kk (tt0 g) 0) gi E_tries' E_taken' E_first' := by
  have hm := S.2.2.1
  have hcnt := ct.1
  subst hcnt
  obtain ⟨odA, o1, o2⟩ := order_eq hm (fun s hs => (S.2.2.2 s hs).2.1.2.2) (fun s hs => (S.2.2.2 s hs).2.1.1) S_order
  have hod' : ∀ i, i < m → od i < m ∧ odA i = nI (od i) := fun i hi => ⟨(hod i hi).1, (hod i hi).2 odA o2⟩
  have o1' : f_S_putInOrder S_count S_premiseCounts S_order = some odA := by rw [S.1]; exact o1
  have hlow : ∀ (fuel x : Nat) (T_heads T_places T_olders T_sizes : Nat → Int32) (T_withins : Nat → Int64) (T_newest im path : Nat → Int32) (N : Nat) (sz : Nat → Nat) (st tr tk fi : Int32) (E_goals E_marks E_looked E_underway E_met E_takenHere : Nat → Int32), x < 1000000 → CT tt0 n0 N sz (nI n0) T_heads T_places T_olders T_sizes T_withins T_newest →
      ∃ T_newest', f_E_ends_L58 S_count S_premises S_premiseCounts S_conclusions (fuel + 1) (nI n0) N T_heads (3*N) T_places N T_olders N T_sizes N T_withins T_newest odA im path (-1) st tr tk fi E_goals E_marks E_looked E_underway E_met E_takenHere (nI n0) 1 (nI x) = some (1, nI n0, N, T_heads, 3*N, T_places, N, T_olders, N, T_sizes, N, T_withins, T_newest', odA, im, path, -1, st, tr, tk, fi, E_goals, E_marks, E_looked, E_underway, E_met, E_takenHere) ∧ CT tt0 n0 N sz (nI n0) T_heads T_places T_olders T_sizes T_withins T_newest' := by
    intro fuel x T_heads T_places T_olders T_sizes T_withins T_newest im path N sz st tr tk fi E_goals E_marks E_looked E_underway E_met E_takenHere hx ct
    obtain ⟨nw, k1, k2⟩ := keep_eq ct (Nat.le_refl n0)
    refine ⟨nw, ?_, k2⟩
    rw [f_E_ends_L58, if_neg (show ¬ (1000000 : Int32) ≤ nI x from (nI_ge hx (by omega) : ¬ nI 1000000 ≤ nI x)), if_neg (by decide), if_pos m1_lt]
    unfold f_E_ends_B145
    rw [k1, bd_s]
    rfl
  obtain ⟨F, hF⟩ : ∃ F, FU = F + 1 := ⟨FU - 1, by unfold FU; omega⟩
  unfold f_E_ends f_T_count
  rw [nmE, o1', bd_s, bd_s]
  rcases hk with ⟨h1, h2⟩ | ⟨h1, h2, h3⟩
  · have hle : (if (100 : Int32) < p1 then (100 : Int32) else p1) ≤ 0 := by
      rw [if_neg (fun h => by
        have a1 := Int32.lt_iff_toInt_lt.mp h
        have a2 := Int32.le_iff_toInt_le.mp h1
        have a3 : (100 : Int32).toInt = 100 := by decide
        have a4 : (0 : Int32).toInt = 0 := by decide
        omega)]
      exact h1
    have hent : f_E_enter (-1) (if (100 : Int32) < p1 then (100 : Int32) else p1) E_goals E_marks E_looked E_underway (nI g) (nI n0) = some (0, -1, E_goals, E_marks, E_looked, E_underway) := by
      unfold f_E_enter
      rw [show (-1 : Int32) + 1 = 0 by decide, if_pos hle]
    rw [hent, bd_s]
    obtain ⟨nw, l1, l2⟩ := hlow F 0 T_heads T_places T_olders T_sizes T_withins T_newest M_images M_path N sz (if (100 : Int32) < p1 then (100 : Int32) else p1) 0 0 (-1) E_goals E_marks E_looked E_underway E_met E_takenHere (by omega) ct
    rw [nI_0] at l1
    rw [hF]
    refine ⟨1, N, sz, T_heads, T_places, T_olders, T_sizes, T_withins, nw, odA, M_images, M_path, -1, _, 0, 0, -1, E_goals, E_marks, E_looked, E_underway, E_met, E_takenHere, l1, l2, Nat.le_refl _, fun _ _ => rfl, ?_⟩
    rw [h2]
    refine ⟨(fun e => by cases e), fun t r e => ?_⟩
    have e' : some ((0 : Nat), (none : Option (Nat × Nat))) = some (t, r) := e
    cases e'
    exact ⟨rfl, rfl, fun _ => ⟨rfl, rfl⟩, fun a s e => by cases e⟩
  · have hent : f_E_enter (-1) (nI kk) E_goals E_marks E_looked E_underway (nI g) (nI n0) = some (1, nI 0, upd E_goals 0 (nI g), upd E_marks 0 (nI n0), upd E_looked 0 0, upd E_underway 0 (-1)) := by
      unfold f_E_enter
      rw [show (-1 : Int32) + 1 = nI 0 by decide, if_neg (nI_ge (by omega) (by omega)), if_pos (show nI 0 < (100 : Int32) by decide), nmE]
      rw [gd_t (ixb_t (by omega) (by omega)), nmE, gd_t (ixb_t (by omega) (by omega)), nmE, gd_t (ixb_t (by omega) (by omega)), nmE, gd_t (ixb_t (by omega) (by omega)), nmE, nI_clamp (by omega)]
    rw [h3, hent, bd_s]
    obtain ⟨k, rfl⟩ : ∃ k, kk = k + 1 := ⟨kk - 1, by omega⟩
    have hsim := c_SIM (ar := ar) S hn0 h2 hod' k 0 (by omega) tt0 n0 N sz (nI n0) T_heads T_places T_olders T_sizes T_withins T_newest M_images M_path (upd E_goals 0 (nI g)) (upd E_marks 0 (nI n0)) (upd E_looked 0 0) (upd E_underway 0 (-1)) E_met E_takenHere 0 0 g n0 w ct (fun _ _ => rfl) (Nat.le_refl _) (Nat.le_refl _) (by omega) (up_s _ _ _) hg (up_s _ _ _) (up_s _ _ _) (up_s _ _ _) (by omega) (by omega)
    have hR : ∀ R, CRes tt0 S_count S_premises S_premiseCounts S_conclusions odA (k + 1) n0 tt0 n0 N sz 0 0 0 (upd E_goals 0 (nI g)) (upd E_marks 0 (nI n0)) (upd E_looked 0 0) (upd E_underway 0 (-1)) E_met E_takenHere (LE S_count S_premises S_premiseCounts S_conclusions odA (k + 1) n0 (FU - 0) (nI n0) T_heads T_places T_olders T_sizes T_withins T_newest N M_images M_path (nI 0) (nI 0) 0 (-1) (upd E_goals 0 (nI g)) (upd E_marks 0 (nI n0)) (upd E_looked 0 0) (upd E_underway 0 (-1)) E_met E_takenHere (nI 0)) R → (∀ t r, R = some (t, r) → t ≤ 1000) →
        ∃ (gi : Int32) (N' : Nat) (sz' : Nat → Nat) (T_heads' T_places' T_olders' T_sizes' : Nat → Int32) (T_withins' : Nat → Int64) (T_newest' S_order' M_images' M_path' : Nat → Int32) (E_level' E_steps' E_tries' E_taken' E_first' : Int32) (E_goals' E_marks' E_looked' E_underway' E_met' E_takenHere' : Nat → Int32),
          LE S_count S_premises S_premiseCounts S_conclusions odA (k + 1) n0 (FU - 0) (nI n0) T_heads T_places T_olders T_sizes T_withins T_newest N M_images M_path (nI 0) (nI 0) 0 (-1) (upd E_goals 0 (nI g)) (upd E_marks 0 (nI n0)) (upd E_looked 0 0) (upd E_underway 0 (-1)) E_met E_takenHere (nI 0) = some (gi, nI n0, N', T_heads', 3*N', T_places', N', T_olders', N', T_sizes', N', T_withins', T_newest', S_order', M_images', M_path', E_level', E_steps', E_tries', E_taken', E_first', E_goals', E_marks', E_looked', E_underway', E_met', E_takenHere') ∧
          CT tt0 n0 N' sz' (nI n0) T_heads' T_places' T_olders' T_sizes' T_withins' T_newest' ∧ N ≤ N' ∧ (∀ v, v < n0 → sz' v = sz v) ∧ ansE R gi E_tries' E_taken' E_first' := by
      intro R hC hb
      cases R with
      | none =>
        obtain ⟨N', sz', c1, c2, c3, c4, c5, c6, c7, c8, lv, d1, d2, d3, d4, d5, d6, g1, g2, g3⟩ := hC
        exact ⟨0, N', sz', c1, c2, c3, c4, c5, c6, odA, c7, c8, lv, nI (k + 1), 1000, 0, -1, d1, d2, d3, d4, d5, d6, g1, g2, g3.1, g3.2, fun _ => ⟨rfl, rfl, rfl, rfl⟩, fun t r e => by cases e⟩
      | some q =>
        obtain ⟨t', r⟩ := q
        have hb' := hb t' r rfl
        obtain ⟨x', N', sz', c1, c2, c3, c4, c5, c6, c7, c8, tk', fi', d1, d2, d3, d4, d5, d6, g1, g2, g3, g4, g5, g6, g7, g8⟩ := hC
        obtain ⟨nw, l1, l2⟩ := hlow (FU - (x' + 1)) x' c1 c2 c3 c4 c5 c6 c7 c8 N' sz' (nI (k + 1)) (nI t') tk' fi' d1 d2 d3 d4 d5 d6 (by omega) g2
        refine ⟨1, N', sz', c1, c2, c3, c4, c5, nw, odA, c7, c8, -1, nI (k + 1), nI t', tk', fi', d1, d2, d3, d4, d5, d6, ?_, l2, g3.1, g3.2, (fun e => by cases e), fun t r' e => ?_⟩
        · rw [g1]
          unfold LE
          rw [fuS (by omega), show (nI 0 - 1 : Int32) = -1 by decide]
          exact l1
        · cases e
          exact ⟨rfl, rfl, fun h => (g7 h).1 rfl, fun a s h => (g8 a s h).1 rfl⟩
    exact hR _ hsim (fun t r e => (bd_LK od (k + 1) (tt0 g) 0 (by omega) t r e).2.1)
end
