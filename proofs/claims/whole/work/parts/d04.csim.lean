section
variable {tt : Nat → Tm} {n N m : Nat} {ar : Nat → Int32} {sz : Nat → Nat} {cc pc : Nat → Nat} {pp : Nat → Nat → Nat} {T_count : Int32} {T_heads T_places T_olders T_sizes : Nat → Int32} {T_withins : Nat → Int64} {T_newest : Nat → Int32} {Q_all Q_thrown : Int32} {Q_kinds Q_which Q_firsts Q_seconds Q_thirds Q_nexts Q_heads Q_names Q_variables Q_holes Q_sizes : Nat → Int32}
variable {S_count : Int32} {S_premises S_premiseCounts S_conclusions : Nat → Int32} {Q_statements : Int32} {Q_premises Q_counts Q_conclusions : Nat → Int32} {H_kind H_subject H_count : Int32} {H_statementRow H_firstRow H_secondRow : Nat → Int32} {Q_hitKind Q_hits : Int32} {Q_hitOf Q_hitOne Q_hitTwo Q_hitTerms : Nat → Int32} {O_out : Nat → Int64}
variable {Q_places : Nat → Int32}
def eqE (E_goals E_marks E_looked E_underway E_met E_takenHere E_goals' E_marks' E_looked' E_underway' E_met' E_takenHere' : Nat → Int32) (j : Nat) : Prop :=
  E_goals' j = E_goals j ∧ E_marks' j = E_marks j ∧ E_looked' j = E_looked j ∧ E_underway' j = E_underway j ∧ E_met' j = E_met j ∧ E_takenHere' j = E_takenHere j
def CFin (tt0 : Nat → Tm) (n0 kk N : Nat) (sz : Nat → Nat) (od : Nat → Int32) (lhs : Option (Int32 × Int32 × Nat × (Nat → Int32) × Nat × (Nat → Int32) × Nat × (Nat → Int32) × Nat × (Nat → Int32) × Nat × (Nat → Int64) × (Nat → Int32) × (Nat → Int32) × (Nat → Int32) × (Nat → Int32) × Int32 × Int32 × Int32 × Int32 × Int32 × (Nat → Int32) × (Nat → Int32) × (Nat → Int32) × (Nat → Int32) × (Nat → Int32) × (Nat → Int32))) : Prop :=
  ∃ (N' : Nat) (sz' : Nat → Nat) (T_heads' T_places' T_olders' T_sizes' : Nat → Int32) (T_withins' : Nat → Int64) (T_newest' im path : Nat → Int32) (lv : Int32) (E_goals E_marks E_looked E_underway E_met E_takenHere : Nat → Int32),
    lhs = some (0, nI n0, N', T_heads', 3*N', T_places', N', T_olders', N', T_sizes', N', T_withins', T_newest', od, im, path, lv, nI kk, 1000, 0, -1, E_goals, E_marks, E_looked, E_underway, E_met, E_takenHere) ∧ CT tt0 n0 N' sz' (nI n0) T_heads' T_places' T_olders' T_sizes' T_withins' T_newest' ∧ N ≤ N' ∧ ∀ v, v < n0 → sz' v = sz v
/-- what a level's search comes to -/
def CRes (tt0 : Nat → Tm) (S_count : Int32) (S_premises S_premiseCounts S_conclusions od : Nat → Int32) (kk n0 : Nat) (tt : Nat → Tm) (mk N : Nat) (sz : Nat → Nat) (l t x : Nat) (E_goals E_marks E_looked E_underway E_met E_takenHere : Nat → Int32) (lhs : Option (Int32 × Int32 × Nat × (Nat → Int32) × Nat × (Nat → Int32) × Nat × (Nat → Int32) × Nat × (Nat → Int32) × Nat × (Nat → Int64) × (Nat → Int32) × (Nat → Int32) × (Nat → Int32) × (Nat → Int32) × Int32 × Int32 × Int32 × Int32 × Int32 × (Nat → Int32) × (Nat → Int32) × (Nat → Int32) × (Nat → Int32) × (Nat → Int32) × (Nat → Int32))) : Option (Nat × Option (Nat × Nat)) → Prop
  | none => CFin tt0 n0 kk N sz od lhs
  | some (t', r) => ∃ (x' N' : Nat) (sz' : Nat → Nat) (T_heads' T_places' T_olders' T_sizes' : Nat → Int32) (T_withins' : Nat → Int64) (T_newest' im' path' : Nat → Int32) (tk' fi' : Int32) (E_goals' E_marks' E_looked' E_underway' E_met' E_takenHere' : Nat → Int32),
      lhs = LE S_count S_premises S_premiseCounts S_conclusions od kk n0 (FU - x') (nI mk) T_heads' T_places' T_olders' T_sizes' T_withins' T_newest' N' im' path' (nI l - 1) (nI t') tk' fi' E_goals' E_marks' E_looked' E_underway' E_met' E_takenHere' (nI x') ∧ CT tt mk N' sz' (nI mk) T_heads' T_places' T_olders' T_sizes' T_withins' T_newest' ∧ (N ≤ N' ∧ ∀ v, v < mk → sz' v = sz v) ∧ x' + 9 * t ≤ x + 9 * t' + 1 ∧
      (∀ j, j + 1 < l → eqE E_goals E_marks E_looked E_underway E_met E_takenHere E_goals' E_marks' E_looked' E_underway' E_met' E_takenHere' j) ∧ (∀ j, l = j + 1 → tk' = 0 ∧ fi' = -1 ∧ E_goals' j = E_goals j ∧ E_marks' j = E_marks j ∧ E_looked' j = E_looked j) ∧
      (r = none → (l = 0 → tk' = 0 ∧ fi' = -1) ∧ ∀ j, l = j + 1 → E_underway' j = -1 ∧ E_met' j = E_met j ∧ E_takenHere' j = E_takenHere j) ∧
      (∀ a s, r = some (a, s) → (l = 0 → tk' = nI a ∧ fi' = nI s) ∧ ∀ j, l = j + 1 → E_underway' j = E_underway j ∧ E_met' j = E_met j + 1 ∧ E_takenHere' j = E_takenHere j + nI a)
/-- what the premises of a statement under way come to -/
def CPre (tt0 : Nat → Tm) (S_count : Int32) (S_premises S_premiseCounts S_conclusions od : Nat → Int32) (kk n0 : Nat) (tt : Nat → Tm) (n N : Nat) (sz : Nat → Nat) (l t x d s c : Nat) (E_goals E_marks E_looked E_underway E_met E_takenHere : Nat → Int32) (lhs : Option (Int32 × Int32 × Nat × (Nat → Int32) × Nat × (Nat → Int32) × Nat × (Nat → Int32) × Nat × (Nat → Int32) × Nat × (Nat → Int64) × (Nat → Int32) × (Nat → Int32) × (Nat → Int32) × (Nat → Int32) × Int32 × Int32 × Int32 × Int32 × Int32 × (Nat → Int32) × (Nat → Int32) × (Nat → Int32) × (Nat → Int32) × (Nat → Int32) × (Nat → Int32))) : Option (Nat × Option Nat) → Prop
  | none => CFin tt0 n0 kk N sz od lhs
  | some (t', r) => ∃ (x' N' : Nat) (sz' : Nat → Nat) (T_heads' T_places' T_olders' T_sizes' : Nat → Int32) (T_withins' : Nat → Int64) (T_newest' im' path' : Nat → Int32) (E_goals' E_marks' E_looked' E_underway' E_met' E_takenHere' : Nat → Int32),
      lhs = LE S_count S_premises S_premiseCounts S_conclusions od kk n0 (FU - x') (nI n) T_heads' T_places' T_olders' T_sizes' T_withins' T_newest' N' im' path' (nI l) (nI t') 0 (-1) E_goals' E_marks' E_looked' E_underway' E_met' E_takenHere' (nI x') ∧ CT tt n N' sz' (nI n) T_heads' T_places' T_olders' T_sizes' T_withins' T_newest' ∧ (N ≤ N' ∧ ∀ v, v < n → sz' v = sz v) ∧ x' + 9 * t ≤ x + 9 * t' + 2 * d ∧
      (∀ j, j < l → eqE E_goals E_marks E_looked E_underway E_met E_takenHere E_goals' E_marks' E_looked' E_underway' E_met' E_takenHere' j) ∧ E_goals' l = E_goals l ∧ E_marks' l = E_marks l ∧ E_looked' l = E_looked l ∧ (r = none → E_underway' l = -1) ∧ (∀ a, r = some a → E_underway' l = nI s ∧ E_met' l = nI c ∧ E_takenHere' l = nI a)
theorem eqE.trans {E_goals E_marks E_looked E_underway E_met E_takenHere E_goals' E_marks' E_looked' E_underway' E_met' E_takenHere' E_goals2 E_marks2 E_looked2 E_underway2 E_met2 E_takenHere2 : Nat → Int32} {j : Nat} (h1 : eqE E_goals E_marks E_looked E_underway E_met E_takenHere E_goals' E_marks' E_looked' E_underway' E_met' E_takenHere' j) (h2 : eqE E_goals' E_marks' E_looked' E_underway' E_met' E_takenHere' E_goals2 E_marks2 E_looked2 E_underway2 E_met2 E_takenHere2 j) : eqE E_goals E_marks E_looked E_underway E_met E_takenHere E_goals2 E_marks2 E_looked2 E_underway2 E_met2 E_takenHere2 j :=
  ⟨h2.1.trans h1.1, h2.2.1.trans h1.2.1, h2.2.2.1.trans h1.2.2.1, h2.2.2.2.1.trans h1.2.2.2.1, h2.2.2.2.2.1.trans h1.2.2.2.2.1, h2.2.2.2.2.2.trans h1.2.2.2.2.2⟩
/-- the class's search keeps to the spec at levels with k steps -/
def SIM (tt0 : Nat → Tm) (n0 : Nat) (ar : Nat → Int32) (S_count : Int32) (S_premises S_premiseCounts S_conclusions odA : Nat → Int32) (kk k : Nat) (F : Tm → Nat → Option (Nat × Option (Nat × Nat))) : Prop :=
  ∀ (l : Nat), l + k = kk → ∀ (tt : Nat → Tm) (n N : Nat) (sz : Nat → Nat) (T_count : Int32) (T_heads T_places T_olders T_sizes : Nat → Int32) (T_withins : Nat → Int64) (T_newest im path E_goals E_marks E_looked E_underway E_met E_takenHere : Nat → Int32) (t x g mk : Nat),
    WF tt n ar → CT tt n N sz T_count T_heads T_places T_olders T_sizes T_withins T_newest → (∀ u, u < n0 → tt u = tt0 u) → n0 ≤ mk → mk ≤ n → n ≤ n0 + 100 * l → E_goals l = nI g → g < n → E_marks l = nI mk → E_looked l = nI 0 → E_underway l = -1 → t ≤ 1000 → x ≤ 9 * t →
    CRes tt0 S_count S_premises S_premiseCounts S_conclusions odA kk n0 tt mk N sz l t x E_goals E_marks E_looked E_underway E_met E_takenHere (LE S_count S_premises S_premiseCounts S_conclusions odA kk n0 (FU - x) T_count T_heads T_places T_olders T_sizes T_withins T_newest N im path (nI l) (nI t) 0 (-1) E_goals E_marks E_looked E_underway E_met E_takenHere (nI x)) (F (tt g) t)
theorem fuS {x : Nat} (h : x < 1000000) : FU - x = (FU - (x + 1)) + 1 := by unfold FU; omega
variable {tt0 : Nat → Tm} {n0 kk k : Nat} {odA : Nat → Int32}
theorem c_PR (S : RS tt0 n0 m cc pc pp S_count S_premises S_premiseCounts S_conclusions Q_statements Q_premises Q_counts Q_conclusions) (hn0 : n0 ≤ 100) (hkk : kk ≤ 100) {F : Tm → Nat → Option (Nat × Option (Nat × Nat))} (hb : bdF F) (hF0 : k = 0 → ∀ G t, F G t = some (t, none)) (hSIM : 1 ≤ k → SIM tt0 n0 ar S_count S_premises S_premiseCounts S_conclusions odA kk k F) {l : Nat} (hl : l + (k + 1) = kk) {s : Nat} (hs : s < m) {σ : Nat → Option Tm} :
    ∀ d, d ≤ pc s → ∀ (tt : Nat → Tm) (n N : Nat) (sz : Nat → Nat) (T_count : Int32) (T_heads T_places T_olders T_sizes : Nat → Int32) (T_withins : Nat → Int64) (T_newest im path E_goals E_marks E_looked E_underway E_met E_takenHere : Nat → Int32) (t x g a : Nat),
    WF tt n ar → CT tt n N sz T_count T_heads T_places T_olders T_sizes T_withins T_newest → (∀ u, u < n0 → tt u = tt0 u) → n0 ≤ n → n ≤ n0 + 100 * l → E_goals l = nI g → g < n → Mt false σ (tt (cc s)) (tt g) → E_underway l = nI s → E_met l = nI (pc s - d) → E_takenHere l = nI a → t ≤ 1000 → x + 8 ≤ 9 * t + 2 * (pc s - d) →
    CPre tt0 S_count S_premises S_premiseCounts S_conclusions odA kk n0 tt n N sz l t x d s (pc s) E_goals E_marks E_looked E_underway E_met E_takenHere (LE S_count S_premises S_premiseCounts S_conclusions odA kk n0 (FU - x) T_count T_heads T_places T_olders T_sizes T_withins T_newest N im path (nI l) (nI t) 0 (-1) E_goals E_marks E_looked E_underway E_met E_takenHere (nI x)) (PRs tt0 pp F σ s (pc s) d t a) := by
  have hm := S.2.2.1
  have h4 := (S.2.2.2 s hs).2.1.2.2
  have hcc0 := (S.2.2.2 s hs).1.2.2.1
  intro d
  induction d with
  | zero =>
    intro _ tt n N sz T_count T_heads T_places T_olders T_sizes T_withins T_newest im path E_goals E_marks E_looked E_underway E_met E_takenHere t x g a w ct hx hn hn2 hg hgn hσ hu hmt hth ht hxx
    have hcnt := ct.1
    subst hcnt
    exact ⟨x, N, sz, T_heads, T_places, T_olders, T_sizes, T_withins, T_newest, im, path, E_goals, E_marks, E_looked, E_underway, E_met, E_takenHere, rfl, ct, ⟨Nat.le_refl _, fun _ _ => rfl⟩, by omega, fun j _ => ⟨rfl, rfl, rfl, rfl, rfl, rfl⟩, rfl, rfl, rfl, (fun e => by cases e), (fun b e => by cases e; exact ⟨hu, hmt, hth⟩)⟩
  | succ d ih =>
    intro hd tt n N sz T_count T_heads T_places T_olders T_sizes T_withins T_newest im path E_goals E_marks E_looked E_underway E_met E_takenHere t x g a w ct hx hn hn2 hg hgn hσ hu hmt hth ht hxx
    obtain ⟨j, hj⟩ : ∃ j, j = pc s - (d + 1) := ⟨_, rfl⟩
    have hjc : j < pc s := by omega
    have hpn0 := ((S.2.2.2 s hs).2.2 j hjc).2.2.1
    rw [← hj] at hmt hxx
    have S' : RS tt n m cc pc pp S_count S_premises S_premiseCounts S_conclusions Q_statements Q_premises Q_counts Q_conclusions := S.grow hx hn
    have hcnt := ct.1
    show CPre tt0 S_count S_premises S_premiseCounts S_conclusions odA kk n0 tt n N sz l t x (d + 1) s (pc s) E_goals E_marks E_looked E_underway E_met E_takenHere _ (match F (sub σ (tt0 (pp s (pc s - (d + 1))))) t with
      | none => none
      | some (t', none) => some (t', none)
      | some (t', some (b, _)) => PRs tt0 pp F σ s (pc s) d t' (a + b))
    rw [← hj]
    by_cases k0 : k = 0
    · rw [hF0 k0 _ t, fuS (by omega), st_out ct S' (by omega) (by omega) (by omega) hs hu hmt hjc]
      subst hcnt
      exact ⟨x + 1, N, sz, T_heads, T_places, T_olders, T_sizes, T_withins, T_newest, im, path, E_goals, E_marks, E_looked, upd E_underway l (-1), E_met, E_takenHere, rfl, ct, ⟨Nat.le_refl _, fun _ _ => rfl⟩, by omega, fun i hi => ⟨rfl, rfl, rfl, up_n (by omega), rfl, rfl⟩, rfl, rfl, rfl, (fun _ => up_s _ _ _), (fun b e => by cases e)⟩
    · obtain ⟨tt1, n1, N1, sz1, t1, t2, t3, t4, t5, t6, t7, im1, path1, u, e1, w1, ct1, q1, q2, q3, q4, q5, q6, q7⟩ := st_in (od := odA) (n0 := n0) (f := FU - (x + 1)) (tr := nI t) (tk := 0) (fi := -1) (im := im) (path := path) (E_looked := E_looked) (E_marks := E_marks) (E_takenHere := E_takenHere) w ct S' (show x < 1000000 by omega) (show l + 1 < kk by omega) hkk (by omega) hs hu hmt hjc hg hgn (by omega) (by omega) hσ
      rw [fuS (by omega), e1]
      have hsub := hSIM (by omega) (l + 1) (by omega) tt1 n1 N1 sz1 t1 t2 t3 t4 t5 t6 t7 im1 path1 (upd E_goals (l + 1) (nI u)) (upd E_marks (l + 1) (nI n)) (upd E_looked (l + 1) 0) (upd E_underway (l + 1) (-1)) E_met E_takenHere t (x + 1) u n w1 ct1 (fun v hv => by rw [q3 v (by omega)]; exact hx v hv) hn q1 (by omega) (up_s _ _ _) q4 (up_s _ _ _) (up_s _ _ _) (up_s _ _ _) ht (by omega)
      rw [q5, hx _ hpn0] at hsub
      cases e : F (sub σ (tt0 (pp s j))) t with
      | none =>
        rw [e] at hsub
        obtain ⟨N', sz', c1, c2, c3, c4, c5, c6, c7, c8, c9, d1, d2, d3, d4, d5, d6, g1, g2, g3⟩ := hsub
        exact ⟨N', sz', c1, c2, c3, c4, c5, c6, c7, c8, c9, d1, d2, d3, d4, d5, d6, g1, g2, by omega, fun v hv => (g3.2 v hv).trans (q7 v (by omega))⟩
      | some q =>
        obtain ⟨t', r⟩ := q
        obtain ⟨b1, b2, b3⟩ := hb _ t ht t' r e
        rw [e] at hsub
        obtain ⟨x', N', sz', c1, c2, c3, c4, c5, c6, c7, c8, tk', fi', d1, d2, d3, d4, d5, d6, g1, g2, g3, g4, g5, g6, g7, g8⟩ := hsub
        obtain ⟨k1, k2, k3, k4, k5⟩ := g6 l rfl
        have ctn : CT tt n N' sz' (nI n) c1 c2 c3 c4 c5 c6 := g2.congr (fun v hv => (q3 v hv).symm)
        have hlev : (nI (l + 1) - 1 : Int32) = nI l := nI_pred l
        rw [g1, hlev, k1, k2]
        have hne : ∀ i, i < l → i ≠ l + 1 := fun i hi => by omega
        have hfr : ∀ i, i < l → eqE E_goals E_marks E_looked E_underway E_met E_takenHere d1 d2 d3 d4 d5 d6 i := by
          intro i hi
          obtain ⟨o1, o2, o3, o4, o5, o6⟩ := g5 i (by omega)
          rw [up_n (hne i hi)] at o1 o2 o3 o4
          exact ⟨o1, o2, o3, o4, o5, o6⟩
        rw [up_n (by omega)] at k3 k4 k5
        cases r with
        | none =>
          obtain ⟨-, g7'⟩ := g7 rfl
          exact ⟨x', N', sz', c1, c2, c3, c4, c5, c6, c7, c8, d1, d2, d3, d4, d5, d6, rfl, ctn, ⟨by omega, fun v hv => (g3.2 v hv).trans (q7 v hv)⟩, by omega, hfr, k3, k4, k5, (fun _ => (g7' l rfl).1), (fun b e => by cases e)⟩
        | some q =>
          obtain ⟨b, s2⟩ := q
          obtain ⟨o1, o2⟩ := b3 b s2 rfl
          obtain ⟨-, g8'⟩ := g8 b s2 rfl
          obtain ⟨p1, p2, p3⟩ := g8' l rfl
          rw [up_n (by omega)] at p1
          have hnext := ih (by omega) tt n N' sz' (nI n) c1 c2 c3 c4 c5 c6 c7 c8 d1 d2 d3 d4 d5 d6 t' x' g (a + b) w ctn hx hn hn2 (k3.trans hg) hgn hσ (p1.trans hu) (by rw [p2, hmt, nI_1, show pc s - d = j + 1 by omega]) (by rw [p3, hth, nI_add]) b2 (by omega)
          show CPre tt0 S_count S_premises S_premiseCounts S_conclusions odA kk n0 tt n N sz l t x (d + 1) s (pc s) E_goals E_marks E_looked E_underway E_met E_takenHere _ (PRs tt0 pp F σ s (pc s) d t' (a + b))
          cases e2 : PRs tt0 pp F σ s (pc s) d t' (a + b) with
          | none =>
            rw [e2] at hnext
            obtain ⟨N2, sz2, f1, f2, f3, f4, f5, f6, f7, f8, f9, j1, j2, j3, j4, j5, j6, m1, m2, m3⟩ := hnext
            exact ⟨N2, sz2, f1, f2, f3, f4, f5, f6, f7, f8, f9, j1, j2, j3, j4, j5, j6, m1, m2, by omega, fun v hv => ((m3.2 v hv).trans (g3.2 v (by omega))).trans (q7 v (by omega))⟩
          | some q =>
            obtain ⟨t2', r2⟩ := q
            rw [e2] at hnext
            obtain ⟨x2, N2, sz2, f1, f2, f3, f4, f5, f6, f7, f8, j1, j2, j3, j4, j5, j6, m1, m2, m3, m4, m5, m6, m7, m8, m9, m10⟩ := hnext
            exact ⟨x2, N2, sz2, f1, f2, f3, f4, f5, f6, f7, f8, j1, j2, j3, j4, j5, j6, m1, m2, ⟨by omega, fun v hv => ((m3.2 v hv).trans (g3.2 v hv)).trans (q7 v hv)⟩, by omega, fun i hi => (hfr i hi).trans (m5 i hi), m6.trans k3, m7.trans k4, m8.trans k5, m9, m10⟩
end
