section
variable {tt : Nat → Tm} {n N m : Nat} {ar : Nat → Int32} {sz : Nat → Nat} {cc pc : Nat → Nat} {pp : Nat → Nat → Nat} {T_count : Int32} {T_heads T_places T_olders T_sizes : Nat → Int32} {T_withins : Nat → Int64} {T_newest : Nat → Int32} {Q_all Q_thrown : Int32} {Q_kinds Q_which Q_firsts Q_seconds Q_thirds Q_nexts Q_heads Q_names Q_variables Q_holes Q_sizes : Nat → Int32}
variable {S_count : Int32} {S_premises S_premiseCounts S_conclusions : Nat → Int32} {Q_statements : Int32} {Q_premises Q_counts Q_conclusions : Nat → Int32} {H_kind H_subject H_count : Int32} {H_statementRow H_firstRow H_secondRow : Nat → Int32} {Q_hitKind Q_hits : Int32} {Q_hitOf Q_hitOne Q_hitTwo Q_hitTerms : Nat → Int32} {O_out : Nat → Int64}
variable {Q_places : Nat → Int32}
variable {tt0 : Nat → Tm} {n0 kk k : Nat} {odA : Nat → Int32} {od : Nat → Nat}
theorem opn_congr (S : RS tt0 n0 m cc pc pp S_count S_premises S_premiseCounts S_conclusions Q_statements Q_premises Q_counts Q_conclusions) (hx : ∀ u, u < n0 → tt u = tt0 u) {s : Nat} (hs : s < m) : opn tt cc pc pp s ↔ opn tt0 cc pc pp s := by
  have hc := (S.2.2.2 s hs).1.2.2.1
  have hp : ∀ g, inP tt pc pp s g ↔ inP tt0 pc pp s g := by
    intro g
    constructor
    · rintro ⟨k, h1, h2⟩
      rw [hx _ ((S.2.2.2 s hs).2.2 k h1).2.2.1] at h2
      exact ⟨k, h1, h2⟩
    · rintro ⟨k, h1, h2⟩
      rw [← hx _ ((S.2.2.2 s hs).2.2 k h1).2.2.1] at h2
      exact ⟨k, h1, h2⟩
  unfold opn
  rw [hx _ hc]
  constructor
  · exact fun h g h1 h2 h3 => h g h1 h2 ((hp g).mpr h3)
  · exact fun h g h1 h2 h3 => h g h1 h2 ((hp g).mp h3)
theorem c_SC (S : RS tt0 n0 m cc pc pp S_count S_premises S_premiseCounts S_conclusions Q_statements Q_premises Q_counts Q_conclusions) (hn0 : n0 ≤ 100) (hkk : kk ≤ 100) (hod : ∀ i, i < m → od i < m ∧ odA i = nI (od i)) {F : Tm → Nat → Option (Nat × Option (Nat × Nat))} (hb : bdF F) (hF0 : k = 0 → ∀ G t, F G t = some (t, none)) (hSIM : 1 ≤ k → SIM tt0 n0 ar S_count S_premises S_premiseCounts S_conclusions odA kk k F) {l : Nat} (hl : l + (k + 1) = kk) :
    ∀ d, d ≤ m → ∀ (tt : Nat → Tm) (n N : Nat) (sz : Nat → Nat) (T_count : Int32) (T_heads T_places T_olders T_sizes : Nat → Int32) (T_withins : Nat → Int64) (T_newest im path E_goals E_marks E_looked E_underway E_met E_takenHere : Nat → Int32) (t x g mk : Nat),
    WF tt n ar → CT tt n N sz T_count T_heads T_places T_olders T_sizes T_withins T_newest → (∀ u, u < n0 → tt u = tt0 u) → n0 ≤ mk → mk ≤ n → n ≤ n0 + 100 * l → E_goals l = nI g → g < n → E_marks l = nI mk → E_looked l = nI (m - d) → E_underway l = -1 → t ≤ 1000 → x ≤ 9 * t →
    CRes tt0 S_count S_premises S_premiseCounts S_conclusions odA kk n0 tt mk N sz l t x E_goals E_marks E_looked E_underway E_met E_takenHere (LE S_count S_premises S_premiseCounts S_conclusions odA kk n0 (FU - x) T_count T_heads T_places T_olders T_sizes T_withins T_newest N im path (nI l) (nI t) 0 (-1) E_goals E_marks E_looked E_underway E_met E_takenHere (nI x)) (SCs tt0 cc pc pp od m F (tt g) d t) := by
  have hm := S.2.2.1
  intro d
  induction d with
  | zero =>
    intro _ tt n N sz T_count T_heads T_places T_olders T_sizes T_withins T_newest im path E_goals E_marks E_looked E_underway E_met E_takenHere t x g mk w ct hx hmk hmn hn2 hg hgn hma hlk hu ht hxx
    obtain ⟨nw, un, e1, e2, e3, e4⟩ := st_give (od := odA) (kk := kk) (n0 := n0) (f := FU - (x + 1)) (tr := nI t) (tk := 0) (fi := -1) (im := im) (path := path) (E_goals := E_goals) (E_met := E_met) (E_takenHere := E_takenHere) (S_premises := S_premises) (S_premiseCounts := S_premiseCounts) (S_conclusions := S_conclusions) ct S.1 hm (show x < 1000000 by omega) (show l < 100 by omega) hu hlk (by omega) (by omega) hma hmn
    rw [fuS (by omega), e1]
    refine ⟨x + 1, N, sz, T_heads, T_places, T_olders, T_sizes, T_withins, nw, im, path, 0, -1, E_goals, E_marks, E_looked, un, E_met, E_takenHere, rfl, e2, ⟨Nat.le_refl _, fun _ _ => rfl⟩, by omega, fun j hj => ⟨rfl, rfl, rfl, e3 j hj, rfl, rfl⟩, fun j hj => ⟨rfl, rfl, rfl, rfl, rfl⟩, fun _ => ⟨fun _ => ⟨rfl, rfl⟩, fun j hj => ⟨e4 j hj, rfl, rfl⟩⟩, fun a s e => by cases e⟩
  | succ d ih =>
    intro hd tt n N sz T_count T_heads T_places T_olders T_sizes T_withins T_newest im path E_goals E_marks E_looked E_underway E_met E_takenHere t x g mk w ct hx hmk hmn hn2 hg hgn hma hlk hu ht hxx
    obtain ⟨i, hi⟩ : ∃ i, i = m - (d + 1) := ⟨_, rfl⟩
    have him : i < m := by omega
    obtain ⟨hos, hoa⟩ := hod i him
    obtain ⟨s, hse⟩ : ∃ s, s = od i := ⟨_, rfl⟩
    rw [← hse] at hos hoa
    have hcc := (S.2.2.2 s hos).1.2.2.1
    have S' : RS tt n m cc pc pp S_count S_premises S_premiseCounts S_conclusions Q_statements Q_premises Q_counts Q_conclusions := S.grow hx (by omega)
    rw [← hi] at hlk
    show CRes tt0 S_count S_premises S_premiseCounts S_conclusions odA kk n0 tt mk N sz l t x E_goals E_marks E_looked E_underway E_met E_takenHere _ (if 1000 ≤ t then none else match tkS tt0 cc pc pp (od (m - (d + 1))) (tt g) with
      | none => SCs tt0 cc pc pp od m F (tt g) d (t + 1)
      | some σ => match PRs tt0 pp F σ (od (m - (d + 1))) (pc (od (m - (d + 1)))) (pc (od (m - (d + 1)))) (t + 1) 1 with
        | none => none
        | some (t', none) => SCs tt0 cc pc pp od m F (tt g) d t'
        | some (t', some a) => some (t', some (a, od (m - (d + 1)))))
    rw [← hi, ← hse]
    by_cases c1000 : 1000 ≤ t
    · rw [if_pos c1000]
      obtain ⟨nw, e1, e2⟩ := st_end (od := odA) (kk := kk) (n0 := n0) (f := FU - (x + 2)) (tr := nI t) (tk := 0) (fi := -1) (im := im) (path := path) (E_goals := E_goals) (E_marks := E_marks) (E_met := E_met) (E_takenHere := E_takenHere) (S_premises := S_premises) (S_premiseCounts := S_premiseCounts) (S_conclusions := S_conclusions) ct S.1 hm (show x + 1 < 1000000 by omega) (show l < 100 by omega) hu hlk him hoa (by omega) (by rw [show t = 1000 by omega]; rfl) (by omega)
      rw [show FU - x = FU - (x + 2) + 2 by unfold FU; omega, e1]
      exact ⟨N, sz, T_heads, T_places, T_olders, T_sizes, T_withins, nw, im, path, nI l, E_goals, E_marks, E_looked, E_underway, E_met, E_takenHere, rfl, e2.congr (fun u hu => (hx u hu).symm), Nat.le_refl _, fun _ _ => rfl⟩
    rw [if_neg c1000]
    cases etk : tkS tt0 cc pc pp s (tt g) with
    | none =>
      obtain ⟨im', e1⟩ := st_no (od := odA) (kk := kk) (n0 := n0) (f := FU - (x + 1)) (tk := 0) (fi := -1) (im := im) (path := path) (E_marks := E_marks) (E_met := E_met) (E_takenHere := E_takenHere) w ct S' (show x < 1000000 by omega) (show l < 100 by omega) hu hlk him hoa hos (rfl : nI t = nI t) (by omega) hg hgn (by omega) (fun ho σ => by
        have := tkS_none etk ((opn_congr S hx hos).mp ho) σ
        rw [hx _ hcc]; exact this)
      rw [fuS (by omega), e1]
      have hnext := ih (by omega) tt n N sz T_count T_heads T_places T_olders T_sizes T_withins T_newest im' path E_goals E_marks (upd E_looked l (nI (i + 1))) E_underway E_met E_takenHere (t + 1) (x + 1) g mk w ct hx hmk hmn hn2 hg hgn hma (by rw [up_s, show m - d = i + 1 by omega]) hu (by omega) (by omega)
      show CRes tt0 S_count S_premises S_premiseCounts S_conclusions odA kk n0 tt mk N sz l t x E_goals E_marks E_looked E_underway E_met E_takenHere _ (SCs tt0 cc pc pp od m F (tt g) d (t + 1))
      cases e2 : SCs tt0 cc pc pp od m F (tt g) d (t + 1) with
      | none => rw [e2] at hnext; exact hnext
      | some q =>
        obtain ⟨t', r⟩ := q
        rw [e2] at hnext
        obtain ⟨x', N', sz', c1, c2, c3, c4, c5, c6, c7, c8, tk', fi', d1, d2, d3, d4, d5, d6, g1, g2, g3, g4, g5, g6, g7, g8⟩ := hnext
        refine ⟨x', N', sz', c1, c2, c3, c4, c5, c6, c7, c8, tk', fi', d1, d2, d3, d4, d5, d6, g1, g2, g3, by omega, fun j hj => ?_, fun j hj => ?_, g7, g8⟩
        · obtain ⟨o1, o2, o3, o4, o5, o6⟩ := g5 j hj
          rw [up_n (by omega)] at o3
          exact ⟨o1, o2, o3, o4, o5, o6⟩
        · obtain ⟨o1, o2, o3, o4, o5⟩ := g6 j hj
          rw [up_n (by omega)] at o5
          exact ⟨o1, o2, o3, o4, o5⟩
    | some σ =>
      obtain ⟨ho0, hσ0⟩ := tkS_some etk
      have hσ : Mt false σ (tt (cc s)) (tt g) := by rw [hx _ hcc]; exact hσ0
      obtain ⟨im', e1⟩ := st_yes (od := odA) (kk := kk) (n0 := n0) (f := FU - (x + 1)) (tk := 0) (fi := -1) (im := im) (path := path) (E_marks := E_marks) (E_met := E_met) (E_takenHere := E_takenHere) w ct S' (show x < 1000000 by omega) (show l < 100 by omega) hu hlk him hoa hos (rfl : nI t = nI t) (by omega) hg hgn (by omega) ((opn_congr S hx hos).mpr ho0) hσ
      rw [fuS (by omega), e1]
      have hpr := c_PR S hn0 hkk hb hF0 hSIM hl hos (σ := σ) (pc s) (Nat.le_refl _) tt n N sz T_count T_heads T_places T_olders T_sizes T_withins T_newest im' path E_goals E_marks (upd E_looked l (nI (i + 1))) (upd E_underway l (nI s)) (upd E_met l 0) (upd E_takenHere l 1) (t + 1) (x + 1) g 1 w ct hx (by omega) hn2 hg hgn hσ (up_s _ _ _) (by rw [up_s, Nat.sub_self]; rfl) (by rw [up_s]; rfl) (by omega) (by omega)
      have h4 := (S.2.2.2 s hos).2.1.2.2
      show CRes tt0 S_count S_premises S_premiseCounts S_conclusions odA kk n0 tt mk N sz l t x E_goals E_marks E_looked E_underway E_met E_takenHere _ (match PRs tt0 pp F σ s (pc s) (pc s) (t + 1) 1 with
        | none => none
        | some (t', none) => SCs tt0 cc pc pp od m F (tt g) d t'
        | some (t', some a) => some (t', some (a, s)))
      cases e2 : PRs tt0 pp F σ s (pc s) (pc s) (t + 1) 1 with
      | none => rw [e2] at hpr; exact hpr
      | some q =>
        obtain ⟨t', r⟩ := q
        obtain ⟨b1, b2, b3⟩ := bd_PR hb σ s (pc s) (pc s) (t + 1) 1 (by omega) t' r e2
        rw [e2] at hpr
        obtain ⟨x', N', sz', c1, c2, c3, c4, c5, c6, c7, c8, d1, d2, d3, d4, d5, d6, g1, g2, g3, g4, g5, g6, g7, g8, g9, g10⟩ := hpr
        have hfr : ∀ j, j < l → eqE E_goals E_marks E_looked E_underway E_met E_takenHere d1 d2 d3 d4 d5 d6 j := by
          intro j hj
          obtain ⟨o1, o2, o3, o4, o5, o6⟩ := g5 j hj
          rw [up_n (by omega)] at o3 o4 o5 o6
          exact ⟨o1, o2, o3, o4, o5, o6⟩
        rw [up_s] at g8
        rw [g1]
        cases r with
        | none =>
          have hnext := ih (by omega) tt n N' sz' (nI n) c1 c2 c3 c4 c5 c6 c7 c8 d1 d2 d3 d4 d5 d6 t' x' g mk w g2 hx hmk hmn hn2 (g6.trans hg) hgn (g7.trans hma) (by rw [g8, show m - d = i + 1 by omega]) (g9 rfl) b2 (by omega)
          show CRes tt0 S_count S_premises S_premiseCounts S_conclusions odA kk n0 tt mk N sz l t x E_goals E_marks E_looked E_underway E_met E_takenHere _ (SCs tt0 cc pc pp od m F (tt g) d t')
          cases e3 : SCs tt0 cc pc pp od m F (tt g) d t' with
          | none =>
            rw [e3] at hnext
            obtain ⟨N2, sz2, f1, f2, f3, f4, f5, f6, f7, f8, f9, j1, j2, j3, j4, j5, j6, m1, m2, m3⟩ := hnext
            exact ⟨N2, sz2, f1, f2, f3, f4, f5, f6, f7, f8, f9, j1, j2, j3, j4, j5, j6, m1, m2, by omega, fun v hv => (m3.2 v hv).trans (g3.2 v (by omega))⟩
          | some q =>
            obtain ⟨t2, r2⟩ := q
            rw [e3] at hnext
            obtain ⟨x2, N2, sz2, f1, f2, f3, f4, f5, f6, f7, f8, tk', fi', j1, j2, j3, j4, j5, j6, m1, m2, m3, m4, m5, m6, m7, m8⟩ := hnext
            refine ⟨x2, N2, sz2, f1, f2, f3, f4, f5, f6, f7, f8, tk', fi', j1, j2, j3, j4, j5, j6, m1, m2, ⟨by omega, fun v hv => (m3.2 v hv).trans (g3.2 v (by omega))⟩, by omega, fun j hj => (hfr j (by omega)).trans (m5 j hj), fun j hj => ?_, fun h => ⟨(m7 h).1, fun j hj => ?_⟩, fun a s2 h => ⟨(m8 a s2 h).1, fun j hj => ?_⟩⟩
            · obtain ⟨o1, o2, o3, o4, o5⟩ := m6 j hj
              obtain ⟨v1, v2, v3, -⟩ := hfr j (by omega)
              exact ⟨o1, o2, o3.trans v1, o4.trans v2, o5.trans v3⟩
            · obtain ⟨o1, o2, o3⟩ := (m7 h).2 j hj
              obtain ⟨-, -, -, -, v5, v6⟩ := hfr j (by omega)
              exact ⟨o1, o2.trans v5, o3.trans v6⟩
            · obtain ⟨o1, o2, o3⟩ := (m8 a s2 h).2 j hj
              obtain ⟨-, -, -, v4, v5, v6⟩ := hfr j (by omega)
              exact ⟨o1.trans v4, by rw [o2, v5], by rw [o3, v6]⟩
        | some a =>
          obtain ⟨p1, p2, p3⟩ := g10 a rfl
          obtain ⟨nw, tk', fi', me, th, f1, f2, f3, f4, f5⟩ := st_succ (od := odA) (kk := kk) (n0 := n0) (f := FU - (x' + 1)) (tr := nI t') (tk := 0) (fi := -1) (im := c7) (path := c8) (E_goals := d1) (E_looked := d3) (E_takenHere := d6) g2 S' (show x' < 1000000 by omega) (show l < 100 by omega) hos p1 p2 (g7.trans hma) hmn
          rw [fuS (by omega), f1]
          refine ⟨x' + 1, N', sz', c1, c2, c3, c4, c5, nw, c7, c8, tk', fi', d1, d2, d3, d4, me, th, rfl, f2, ⟨g3.1, fun v hv => g3.2 v (by omega)⟩, by omega, fun j hj => ?_, fun j hj => ?_, (fun h => by cases h), fun b s2 h => ?_⟩
          · obtain ⟨v1, v2, v3, v4, v5, v6⟩ := hfr j (by omega)
            obtain ⟨o1, o2⟩ := f5 j hj
            exact ⟨v1, v2, v3, v4, o1.trans v5, o2.trans v6⟩
          · obtain ⟨o1, o2, -, -⟩ := f4 j hj
            obtain ⟨v1, v2, v3, -⟩ := hfr j (by omega)
            exact ⟨o1, o2, v1, v2, v3⟩
          · cases h
            refine ⟨fun h0 => ?_, fun j hj => ?_⟩
            · obtain ⟨o1, o2⟩ := f3 h0
              rw [h0] at p3
              exact ⟨o1.trans p3, o2⟩
            · obtain ⟨-, -, o3, o4⟩ := f4 j hj
              obtain ⟨-, -, -, v4, v5, v6⟩ := hfr j (by omega)
              exact ⟨v4, by rw [o3, v5], by rw [o4, v6, p3]⟩
theorem c_SIM (S : RS tt0 n0 m cc pc pp S_count S_premises S_premiseCounts S_conclusions Q_statements Q_premises Q_counts Q_conclusions) (hn0 : n0 ≤ 100) (hkk : kk ≤ 100) (hod : ∀ i, i < m → od i < m ∧ odA i = nI (od i)) : ∀ k, SIM tt0 n0 ar S_count S_premises S_premiseCounts S_conclusions odA kk (k + 1) (LKs tt0 cc pc pp od m (k + 1)) := by
  intro k
  induction k with
  | zero =>
    intro l hl tt n N sz T_count T_heads T_places T_olders T_sizes T_withins T_newest im path E_goals E_marks E_looked E_underway E_met E_takenHere t x g mk w ct hx hmk hmn hn2 hg hgn hma hlk hu ht hxx
    exact c_SC (k := 0) S hn0 hkk hod (bd_LK od 0) (fun _ G t => rfl) (fun h => by omega) hl m (Nat.le_refl _) tt n N sz T_count T_heads T_places T_olders T_sizes T_withins T_newest im path E_goals E_marks E_looked E_underway E_met E_takenHere t x g mk w ct hx hmk hmn hn2 hg hgn hma (by rw [Nat.sub_self]; exact hlk) hu ht hxx
  | succ k ih =>
    intro l hl tt n N sz T_count T_heads T_places T_olders T_sizes T_withins T_newest im path E_goals E_marks E_looked E_underway E_met E_takenHere t x g mk w ct hx hmk hmn hn2 hg hgn hma hlk hu ht hxx
    exact c_SC (k := k + 1) S hn0 hkk hod (bd_LK od (k + 1)) (fun h => by omega) (fun _ => ih) hl m (Nat.le_refl _) tt n N sz T_count T_heads T_places T_olders T_sizes T_withins T_newest im path E_goals E_marks E_looked E_underway E_met E_takenHere t x g mk w ct hx hmk hmn hn2 hg hgn hma (by rw [Nat.sub_self]; exact hlk) hu ht hxx
end
