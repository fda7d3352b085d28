section
variable {tt : Nat → Tm} {n N m : Nat} {ar : Nat → Int32} {sz : Nat → Nat} {cc pc : Nat → Nat} {pp : Nat → Nat → Nat} {T_count : Int32} {T_heads T_places T_olders T_sizes : Nat → Int32} {T_withins : Nat → Int64} {T_newest : Nat → Int32} {Q_all Q_thrown : Int32} {Q_kinds Q_which Q_firsts Q_seconds Q_thirds Q_nexts Q_heads Q_names Q_variables Q_holes Q_sizes : Nat → Int32}
variable {S_count : Int32} {S_premises S_premiseCounts S_conclusions : Nat → Int32} {Q_statements : Int32} {Q_premises Q_counts Q_conclusions : Nat → Int32} {H_kind H_subject H_count : Int32} {H_statementRow H_firstRow H_secondRow : Nat → Int32} {Q_hitKind Q_hits : Int32} {Q_hitOf Q_hitOne Q_hitTwo Q_hitTerms : Nat → Int32} {O_out : Nat → Int64}
variable {Q_places : Nat → Int32}
def eqV (Q_goals Q_steps Q_looked Q_under Q_taken Q_goals' Q_steps' Q_looked' Q_under' Q_taken' : Nat → Int32) (j : Nat) : Prop :=
  Q_goals' j = Q_goals j ∧ Q_steps' j = Q_steps j ∧ Q_looked' j = Q_looked j ∧ Q_under' j = Q_under j ∧ Q_taken' j = Q_taken j
theorem eqV.trans {Q_goals Q_steps Q_looked Q_under Q_taken Q_goals' Q_steps' Q_looked' Q_under' Q_taken' Q_goals2 Q_steps2 Q_looked2 Q_under2 Q_taken2 : Nat → Int32} {j : Nat} (h1 : eqV Q_goals Q_steps Q_looked Q_under Q_taken Q_goals' Q_steps' Q_looked' Q_under' Q_taken' j) (h2 : eqV Q_goals' Q_steps' Q_looked' Q_under' Q_taken' Q_goals2 Q_steps2 Q_looked2 Q_under2 Q_taken2 j) : eqV Q_goals Q_steps Q_looked Q_under Q_taken Q_goals2 Q_steps2 Q_looked2 Q_under2 Q_taken2 j :=
  ⟨h2.1.trans h1.1, h2.2.1.trans h1.2.1, h2.2.2.1.trans h1.2.2.1, h2.2.2.2.1.trans h1.2.2.2.1, h2.2.2.2.2.trans h1.2.2.2.2⟩
def QFin (tt0 : Nat → Tm) (n0 : Nat) (Q_names Q_variables Q_holes Q_sizes Q_order : Nat → Int32) (lhs : Option (Int32 × Int32 × Int32 × Int32 × Int32 × Int32 × (Nat → Int32) × (Nat → Int32) × (Nat → Int32) × (Nat → Int32) × (Nat → Int32) × (Nat → Int32) × (Nat → Int32) × (Nat → Int32) × (Nat → Int32) × (Nat → Int32) × (Nat → Int32) × (Nat → Int32) × (Nat → Int32) × (Nat → Int32) × (Nat → Int32) × (Nat → Int32) × (Nat → Int32) × (Nat → Int32) × (Nat → Int32) × (Nat → Int32) × (Nat → Int32) × (Nat → Int32))) : Prop :=
  ∃ (Q_kinds' Q_which' Q_firsts' Q_seconds' Q_thirds' Q_nexts' Q_heads' Q_image' Q_bound' Q_waits' Q_waitsFor' Q_goals' Q_steps' Q_looked' Q_under' Q_taken' Q_news' : Nat → Int32),
    lhs = some (0, 3, nI n0, 1000, 0, -1, Q_kinds', Q_which', Q_firsts', Q_seconds', Q_thirds', Q_nexts', Q_heads', Q_names, Q_variables, Q_holes, Q_sizes, Q_image', Q_bound', Q_waits', Q_waitsFor', Q_goals', Q_steps', Q_looked', Q_under', Q_taken', Q_news', Q_order) ∧ QTb tt0 n0 (nI n0) Q_kinds' Q_which' Q_firsts' Q_seconds' Q_thirds' Q_nexts' Q_heads'
def QRes (tt0 : Nat → Tm) (n0 : Nat) (ar : Nat → Int32) (m : Nat) (od : Nat → Nat) (Q_statements : Int32) (Q_places Q_conclusions Q_premises Q_counts Q_names Q_variables Q_holes Q_sizes Q_order : Nat → Int32) (thr : Int32) (tt : Nat → Tm) (n l t y : Nat) (Q_goals Q_steps Q_looked Q_under Q_taken Q_news : Nat → Int32) (lhs : Option (Int32 × Int32 × Int32 × Int32 × Int32 × Int32 × (Nat → Int32) × (Nat → Int32) × (Nat → Int32) × (Nat → Int32) × (Nat → Int32) × (Nat → Int32) × (Nat → Int32) × (Nat → Int32) × (Nat → Int32) × (Nat → Int32) × (Nat → Int32) × (Nat → Int32) × (Nat → Int32) × (Nat → Int32) × (Nat → Int32) × (Nat → Int32) × (Nat → Int32) × (Nat → Int32) × (Nat → Int32) × (Nat → Int32) × (Nat → Int32) × (Nat → Int32))) : Option (Nat × Option (Nat × Nat)) → Prop
  | none => QFin tt0 n0 Q_names Q_variables Q_holes Q_sizes Q_order lhs
  | some (t', r) => ∃ (y' : Nat) (tt' : Nat → Tm) (n' : Nat) (Q_all' : Int32) (Q_kinds' Q_which' Q_firsts' Q_seconds' Q_thirds' Q_nexts' Q_heads' Q_image' Q_bound' Q_waits' Q_waitsFor' Q_goals' Q_steps' Q_looked' Q_under' Q_taken' Q_news' : Nat → Int32) (tld : Int32),
      lhs = QH Q_statements Q_places Q_conclusions Q_premises Q_counts n0 (FU - y') thr Q_all' (nI t') Q_kinds' Q_which' Q_firsts' Q_seconds' Q_thirds' Q_nexts' Q_heads' Q_names Q_variables Q_holes Q_sizes Q_image' Q_bound' Q_waits' Q_waitsFor' Q_goals' Q_steps' Q_looked' Q_under' Q_taken' Q_news' Q_order (nI l) tld ∧ WF tt' n' ar ∧ QTb tt' n' Q_all' Q_kinds' Q_which' Q_firsts' Q_seconds' Q_thirds' Q_nexts' Q_heads' ∧ n ≤ n' ∧ n' ≤ n0 + 100 * t' ∧ (∀ u, u < n → tt' u = tt u) ∧ y' + 9 * t ≤ y + 9 * t' ∧
      (∀ j, j < l → eqV Q_goals Q_steps Q_looked Q_under Q_taken Q_goals' Q_steps' Q_looked' Q_under' Q_taken' j) ∧ (∀ i, i < 4 * l → Q_news' i = Q_news i) ∧ (r = none → tld = 2) ∧ (∀ a s, r = some (a, s) → tld = 1 ∧ Q_taken' l = nI a ∧ ∃ i, i < m ∧ Q_looked' l = nI i ∧ od i = s)
def QPre (tt0 : Nat → Tm) (n0 : Nat) (ar : Nat → Int32) (Q_statements : Int32) (Q_places Q_conclusions Q_premises Q_counts Q_names Q_variables Q_holes Q_sizes Q_order : Nat → Int32) (thr : Int32) (tt : Nat → Tm) (n l t y d c : Nat) (Q_goals Q_steps Q_looked Q_under Q_taken Q_news : Nat → Int32) (lhs : Option (Int32 × Int32 × Int32 × Int32 × Int32 × Int32 × (Nat → Int32) × (Nat → Int32) × (Nat → Int32) × (Nat → Int32) × (Nat → Int32) × (Nat → Int32) × (Nat → Int32) × (Nat → Int32) × (Nat → Int32) × (Nat → Int32) × (Nat → Int32) × (Nat → Int32) × (Nat → Int32) × (Nat → Int32) × (Nat → Int32) × (Nat → Int32) × (Nat → Int32) × (Nat → Int32) × (Nat → Int32) × (Nat → Int32) × (Nat → Int32) × (Nat → Int32))) : Option (Nat × Option Nat) → Prop
  | none => QFin tt0 n0 Q_names Q_variables Q_holes Q_sizes Q_order lhs
  | some (t', r) => ∃ (y' f2' : Nat) (tt' : Nat → Tm) (n' : Nat) (Q_all' : Int32) (Q_kinds' Q_which' Q_firsts' Q_seconds' Q_thirds' Q_nexts' Q_heads' Q_image' Q_bound' Q_waits' Q_waitsFor' Q_goals' Q_steps' Q_looked' Q_under' Q_taken' Q_news' : Nat → Int32),
      lhs = QF Q_statements Q_places Q_conclusions Q_premises Q_counts n0 (FU - y') (f2' + 1) thr Q_all' (nI t') Q_kinds' Q_which' Q_firsts' Q_seconds' Q_thirds' Q_nexts' Q_heads' Q_names Q_variables Q_holes Q_sizes Q_image' Q_bound' Q_waits' Q_waitsFor' Q_goals' Q_steps' Q_looked' Q_under' Q_taken' Q_news' Q_order l ∧ WF tt' n' ar ∧ QTb tt' n' Q_all' Q_kinds' Q_which' Q_firsts' Q_seconds' Q_thirds' Q_nexts' Q_heads' ∧ n ≤ n' ∧ n' ≤ n0 + 100 * t' ∧ (∀ u, u < n → tt' u = tt u) ∧ y' + 9 * t ≤ y + 9 * t' + 2 * d ∧
      (∀ j, j < l → eqV Q_goals Q_steps Q_looked Q_under Q_taken Q_goals' Q_steps' Q_looked' Q_under' Q_taken' j) ∧ (∀ i, i < 4 * l → Q_news' i = Q_news i) ∧ Q_goals' l = Q_goals l ∧ Q_steps' l = Q_steps l ∧ (r = none → 100 ≤ f2' ∧ Q_looked' l = Q_looked l + 1 ∧ Q_under' l = -1 ∧ Q_taken' l = nI 1) ∧ (∀ a, r = some a → Q_looked' l = Q_looked l ∧ Q_under' l = nI c ∧ Q_taken' l = nI a)
def SIMQ (tt0 : Nat → Tm) (n0 : Nat) (ar : Nat → Int32) (m : Nat) (od : Nat → Nat) (Q_statements : Int32) (Q_places Q_conclusions Q_premises Q_counts Q_names Q_variables Q_holes Q_sizes Q_order : Nat → Int32) (thr : Int32) (kk k : Nat) (F : Tm → Nat → Option (Nat × Option (Nat × Nat))) : Prop :=
  ∀ (l : Nat), l + k = kk → ∀ (f2 : Nat) (tt : Nat → Tm) (n : Nat) (Q_all : Int32) (Q_kinds Q_which Q_firsts Q_seconds Q_thirds Q_nexts Q_heads Q_image Q_bound Q_waits Q_waitsFor Q_goals Q_steps Q_looked Q_under Q_taken Q_news : Nat → Int32) (t y g : Nat),
    100 ≤ f2 → WF tt n ar → QTb tt n Q_all Q_kinds Q_which Q_firsts Q_seconds Q_thirds Q_nexts Q_heads → (∀ u, u < n0 → tt u = tt0 u) → n0 ≤ n → n ≤ n0 + 100 * t → Q_goals l = nI g → g < n → Q_steps l = nI k → Q_looked l = nI 0 → Q_under l = -1 → Q_taken l = nI 1 → t ≤ 1000 → y ≤ 9 * t + 1 →
    QRes tt0 n0 ar m od Q_statements Q_places Q_conclusions Q_premises Q_counts Q_names Q_variables Q_holes Q_sizes Q_order thr tt n l t y Q_goals Q_steps Q_looked Q_under Q_taken Q_news (QF Q_statements Q_places Q_conclusions Q_premises Q_counts n0 (FU - y) f2 thr Q_all (nI t) Q_kinds Q_which Q_firsts Q_seconds Q_thirds Q_nexts Q_heads Q_names Q_variables Q_holes Q_sizes Q_image Q_bound Q_waits Q_waitsFor Q_goals Q_steps Q_looked Q_under Q_taken Q_news Q_order l) (F (tt g) t)
variable {tt0 : Nat → Tm} {n0 kk k : Nat} {od : Nat → Nat} {sz0 : Nat → Nat} {Q_places Q_order : Nat → Int32} {thr : Int32}
theorem fuQ {y : Nat} (h : y < 1000000) : FU - y = (FU - (y + 1)) + 1 := by unfold FU; omega
theorem q_PR (w0 : WF tt0 n0 ar) (S : RS tt0 n0 m cc pc pp S_count S_premises S_premiseCounts S_conclusions Q_statements Q_premises Q_counts Q_conclusions) (hn0 : n0 ≤ 100) (hkk : kk ≤ 100) {F : Tm → Nat → Option (Nat × Option (Nat × Nat))} (hb : bdF F) (hSIM : SIMQ tt0 n0 ar m od Q_statements Q_places Q_conclusions Q_premises Q_counts Q_names Q_variables Q_holes Q_sizes Q_order thr kk k F) {l : Nat} (hl : l + (k + 1) = kk) {s i : Nat} (hs : s < m) (hi : i < m) (hor : Q_order i = nI s) {σ : Nat → Option Tm} :
    ∀ d, d ≤ pc s → ∀ (f2 : Nat) (tt : Nat → Tm) (n : Nat) (Q_all : Int32) (Q_kinds Q_which Q_firsts Q_seconds Q_thirds Q_nexts Q_heads Q_image Q_bound Q_waits Q_waitsFor Q_goals Q_steps Q_looked Q_under Q_taken Q_news : Nat → Int32) (t y a : Nat),
    WF tt n ar → QTb tt n Q_all Q_kinds Q_which Q_firsts Q_seconds Q_thirds Q_nexts Q_heads → (∀ u, u < n0 → tt u = tt0 u) → n0 ≤ n → n ≤ n0 + 100 * t → Q_steps l = nI (k + 1) → Q_looked l = nI i → Q_under l = nI (pc s - d) → Q_taken l = nI a → (∀ j, j < pc s → ∃ u, u < n ∧ Q_news (4 * l + j) = nI u ∧ tt u = sub σ (tt0 (pp s j))) → t ≤ 1000 → y + 8 ≤ 9 * t + 2 * (pc s - d) →
    QPre tt0 n0 ar Q_statements Q_places Q_conclusions Q_premises Q_counts Q_names Q_variables Q_holes Q_sizes Q_order thr tt n l t y d (pc s) Q_goals Q_steps Q_looked Q_under Q_taken Q_news (QF Q_statements Q_places Q_conclusions Q_premises Q_counts n0 (FU - y) (f2 + 1) thr Q_all (nI t) Q_kinds Q_which Q_firsts Q_seconds Q_thirds Q_nexts Q_heads Q_names Q_variables Q_holes Q_sizes Q_image Q_bound Q_waits Q_waitsFor Q_goals Q_steps Q_looked Q_under Q_taken Q_news Q_order l) (PRs tt0 pp F σ s (pc s) d t a) := by
  have hm := S.2.2.1
  have h4 := (S.2.2.2 s hs).2.1.2.2
  have hcq := (S.2.2.2 s hs).2.1.2.1
  intro d
  induction d with
  | zero =>
    intro _ f2 tt n Q_all Q_kinds Q_which Q_firsts Q_seconds Q_thirds Q_nexts Q_heads Q_image Q_bound Q_waits Q_waitsFor Q_goals Q_steps Q_looked Q_under Q_taken Q_news t y a w qt hx hn hn2 hst hlk hu hta hnews ht hy
    exact ⟨y, f2, tt, n, Q_all, Q_kinds, Q_which, Q_firsts, Q_seconds, Q_thirds, Q_nexts, Q_heads, Q_image, Q_bound, Q_waits, Q_waitsFor, Q_goals, Q_steps, Q_looked, Q_under, Q_taken, Q_news, rfl, w, qt, Nat.le_refl _, hn2, fun _ _ => rfl, by omega, fun j _ => ⟨rfl, rfl, rfl, rfl, rfl⟩, fun _ _ => rfl, rfl, rfl, (fun e => by cases e), (fun b e => by cases e; exact ⟨rfl, hu, hta⟩)⟩
  | succ d ih =>
    intro hd f2 tt n Q_all Q_kinds Q_which Q_firsts Q_seconds Q_thirds Q_nexts Q_heads Q_image Q_bound Q_waits Q_waitsFor Q_goals Q_steps Q_looked Q_under Q_taken Q_news t y a w qt hx hn hn2 hst hlk hu hta hnews ht hy
    obtain ⟨j, hj⟩ : ∃ j, j = pc s - (d + 1) := ⟨_, rfl⟩
    have hjc : j < pc s := by omega
    have hpn0 := ((S.2.2.2 s hs).2.2 j hjc).2.2.1
    rw [← hj] at hu hy
    obtain ⟨u, hun, hue, hut⟩ := hnews j hjc
    show QPre tt0 n0 ar Q_statements Q_places Q_conclusions Q_premises Q_counts Q_names Q_variables Q_holes Q_sizes Q_order thr tt n l t y (d + 1) (pc s) Q_goals Q_steps Q_looked Q_under Q_taken Q_news _ (match F (sub σ (tt0 (pp s (pc s - (d + 1))))) t with
      | none => none
      | some (t', none) => some (t', none)
      | some (t', some (b, _)) => PRs tt0 pp F σ s (pc s) d t' (a + b))
    rw [← hj, q_push (show l ≤ 1000 by omega) h4 hjc hu hlk (by omega) hor (by omega) hcq hst, fuQ (by omega), show l + 2 = (l + 1) + 1 by omega, QH_0 (show l + 1 ≤ 1000 by omega)]
    have hsub := hSIM (l + 1) (by omega) FU tt n Q_all Q_kinds Q_which Q_firsts Q_seconds Q_thirds Q_nexts Q_heads Q_image Q_bound Q_waits Q_waitsFor (upd Q_goals (l + 1) (Q_news (4 * l + j))) (upd Q_steps (l + 1) (nI k)) (upd Q_looked (l + 1) 0) (upd Q_under (l + 1) (-1)) (upd Q_taken (l + 1) 1) Q_news t (y + 1) u (by unfold FU; omega) w qt hx hn hn2 (by rw [up_s]; exact hue) hun (up_s _ _ _) (up_s _ _ _) (up_s _ _ _) (up_s _ _ _) ht (by omega)
    rw [hut] at hsub
    cases e : F (sub σ (tt0 (pp s j))) t with
    | none => rw [e] at hsub; exact hsub
    | some q =>
      obtain ⟨t', r⟩ := q
      obtain ⟨b1, b2, b3⟩ := hb _ t ht t' r e
      rw [e] at hsub
      obtain ⟨y', tt1, n1, c0, c1, c2, c3, c4, c5, c6, c7, v1, v2, v3, v4, d1, d2, d3, d4, d5, d6, tld, g1, g2, g3, g4, g5, g6, g7, g8, g9, g10, g11⟩ := hsub
      have hfr : ∀ i, i < l → eqV Q_goals Q_steps Q_looked Q_under Q_taken d1 d2 d3 d4 d5 i := by
        intro i hi
        obtain ⟨o1, o2, o3, o4, o5⟩ := g8 i (by omega)
        rw [up_n (by omega)] at o1 o2 o3 o4 o5
        exact ⟨o1, o2, o3, o4, o5⟩
      obtain ⟨l1, l2, l3, l4, l5⟩ := g8 l (by omega)
      rw [up_n (by omega)] at l1 l2 l3 l4 l5
      rw [g1, fuQ (show y' < 1000000 by omega)]
      cases r with
      | none =>
        rw [g10 rfl, QH_2 (show l ≤ 1000 by omega)]
        refine ⟨y' + 1, FU - 1, tt1, n1, c0, c1, c2, c3, c4, c5, c6, c7, v1, v2, v3, v4, d1, d2, upd d3 l (d3 l + 1), upd d4 l (-1), upd d5 l 1, d6, by rw [show FU - 1 + 1 = FU by unfold FU; rfl], g2, g3, g4, g5, g6, by omega, fun i hi => ?_, fun i hi => g9 i (by omega), l1, l2, fun _ => ⟨by unfold FU; omega, by rw [up_s, l3], up_s _ _ _, up_s _ _ _⟩, (fun b e => by cases e)⟩
        obtain ⟨o1, o2, o3, o4, o5⟩ := hfr i hi
        rw [← up_n (f := d3) (x := d3 l + 1) (show i ≠ l by omega)] at o3
        rw [← up_n (f := d4) (x := -1) (show i ≠ l by omega)] at o4
        rw [← up_n (f := d5) (x := 1) (show i ≠ l by omega)] at o5
        exact ⟨o1, o2, o3, o4, o5⟩
      | some q =>
        obtain ⟨b, s2⟩ := q
        obtain ⟨o1, o2⟩ := b3 b s2 rfl
        obtain ⟨p1, p2, p3⟩ := g11 b s2 rfl
        rw [p1, QH_1 (show l ≤ 1000 by omega)]
        have hnext := ih (by omega) (FU - 1) tt1 n1 c0 c1 c2 c3 c4 c5 c6 c7 v1 v2 v3 v4 d1 d2 d3 (upd d4 l (d4 l + 1)) (upd d5 l (d5 l + d5 (l + 1))) d6 t' (y' + 1) (a + b) g2 g3 (fun v hv => by rw [g6 v (by omega)]; exact hx v hv) (by omega) g5 (l2.trans hst) (l3.trans hlk) (by rw [up_s, l4, hu, nI_1, show pc s - d = j + 1 by omega]) (by rw [up_s, l5, hta, p2, nI_add]) (fun j' hj' => by
          obtain ⟨v, h1, h2, h3⟩ := hnews j' hj'
          exact ⟨v, by omega, by rw [g9 _ (by omega)]; exact h2, by rw [g6 v h1]; exact h3⟩) b2 (by omega)
        rw [show FU - 1 + 1 = FU by unfold FU; rfl] at hnext
        show QPre tt0 n0 ar Q_statements Q_places Q_conclusions Q_premises Q_counts Q_names Q_variables Q_holes Q_sizes Q_order thr tt n l t y (d + 1) (pc s) Q_goals Q_steps Q_looked Q_under Q_taken Q_news _ (PRs tt0 pp F σ s (pc s) d t' (a + b))
        cases e2 : PRs tt0 pp F σ s (pc s) d t' (a + b) with
        | none => rw [e2] at hnext; exact hnext
        | some q =>
          obtain ⟨t2, r2⟩ := q
          rw [e2] at hnext
          obtain ⟨y2, f2', tt2, n2, x0, x1, x2, x3, x4, x5, x6, x7, z1, z2, z3, z4, j1, j2, j3, j4, j5, j6, m1, m2, m3, m4, m5, m6, m7, m8, m9, m10, m11, m12, m13⟩ := hnext
          refine ⟨y2, f2', tt2, n2, x0, x1, x2, x3, x4, x5, x6, x7, z1, z2, z3, z4, j1, j2, j3, j4, j5, j6, m1, m2, m3, by omega, m5, fun v hv => by rw [m6 v (by omega)]; exact g6 v hv, by omega, fun i hi => ?_, fun i hi => by rw [m9 i hi]; exact g9 i (by omega), m10.trans l1, m11.trans l2, fun h => ?_, fun a h => ?_⟩
          · obtain ⟨w1, w2, w3, w4, w5⟩ := m8 i hi
            rw [up_n (by omega)] at w4 w5
            exact (hfr i hi).trans ⟨w1, w2, w3, w4, w5⟩
          · obtain ⟨w0, w1, w2, w3⟩ := m12 h
            exact ⟨w0, by rw [w1, l3], w2, w3⟩
          · obtain ⟨w1, w2, w3⟩ := m13 a h
            exact ⟨w1.trans l3, w2, w3⟩
end
