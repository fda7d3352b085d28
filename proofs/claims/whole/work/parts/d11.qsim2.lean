section
variable {tt : Nat → Tm} {n N m : Nat} {ar : Nat → Int32} {sz : Nat → Nat} {cc pc : Nat → Nat} {pp : Nat → Nat → Nat} {T_count : Int32} {T_heads T_places T_olders T_sizes : Nat → Int32} {T_withins : Nat → Int64} {T_newest : Nat → Int32} {Q_all Q_thrown : Int32} {Q_kinds Q_which Q_firsts Q_seconds Q_thirds Q_nexts Q_heads Q_names Q_variables Q_holes Q_sizes : Nat → Int32}
variable {S_count : Int32} {S_premises S_premiseCounts S_conclusions : Nat → Int32} {Q_statements : Int32} {Q_premises Q_counts Q_conclusions : Nat → Int32} {H_kind H_subject H_count : Int32} {H_statementRow H_firstRow H_secondRow : Nat → Int32} {Q_hitKind Q_hits : Int32} {Q_hitOf Q_hitOne Q_hitTwo Q_hitTerms : Nat → Int32} {O_out : Nat → Int64}
variable {Q_places : Nat → Int32}
variable {tt0 : Nat → Tm} {n0 kk k : Nat} {od : Nat → Nat} {sz0 : Nat → Nat} {Q_places Q_order : Nat → Int32} {thr : Int32}
theorem q_SC (w0 : WF tt0 n0 ar) (S : RS tt0 n0 m cc pc pp S_count S_premises S_premiseCounts S_conclusions Q_statements Q_premises Q_counts Q_conclusions) (hn0 : n0 ≤ 100) (hq : QK tt0 n0 sz0 Q_names Q_variables Q_holes Q_sizes) (har : ∀ h, h < 30 → Q_places h = ar h) (hkk : kk ≤ 100) (hod : ∀ i, i < m → od i < m ∧ Q_order i = nI (od i)) {F : Tm → Nat → Option (Nat × Option (Nat × Nat))} (hb : bdF F) (hSIM : SIMQ tt0 n0 ar m od Q_statements Q_places Q_conclusions Q_premises Q_counts Q_names Q_variables Q_holes Q_sizes Q_order thr kk k F) {l : Nat} (hl : l + (k + 1) = kk) :
    ∀ d, d ≤ m → ∀ (f2 : Nat), d + 1 < f2 → ∀ (tt : Nat → Tm) (n : Nat) (Q_all : Int32) (Q_kinds Q_which Q_firsts Q_seconds Q_thirds Q_nexts Q_heads Q_image Q_bound Q_waits Q_waitsFor Q_goals Q_steps Q_looked Q_under Q_taken Q_news : Nat → Int32) (t y g : Nat),
    WF tt n ar → QTb tt n Q_all Q_kinds Q_which Q_firsts Q_seconds Q_thirds Q_nexts Q_heads → (∀ u, u < n0 → tt u = tt0 u) → n0 ≤ n → n ≤ n0 + 100 * t → Q_goals l = nI g → g < n → Q_steps l = nI (k + 1) → Q_looked l = nI (m - d) → Q_under l = -1 → Q_taken l = nI 1 → t ≤ 1000 → y ≤ 9 * t + 1 →
    QRes tt0 n0 ar m od Q_statements Q_places Q_conclusions Q_premises Q_counts Q_names Q_variables Q_holes Q_sizes Q_order thr tt n l t y Q_goals Q_steps Q_looked Q_under Q_taken Q_news (QF Q_statements Q_places Q_conclusions Q_premises Q_counts n0 (FU - y) f2 thr Q_all (nI t) Q_kinds Q_which Q_firsts Q_seconds Q_thirds Q_nexts Q_heads Q_names Q_variables Q_holes Q_sizes Q_image Q_bound Q_waits Q_waitsFor Q_goals Q_steps Q_looked Q_under Q_taken Q_news Q_order l) (SCs tt0 cc pc pp od m F (tt g) d t) := by
  have hm := S.2.2.1
  intro d
  induction d with
  | zero =>
    intro _ f2 hf2 tt n Q_all Q_kinds Q_which Q_firsts Q_seconds Q_thirds Q_nexts Q_heads Q_image Q_bound Q_waits Q_waitsFor Q_goals Q_steps Q_looked Q_under Q_taken Q_news t y g w qt hx hn hn2 hg hgn hst hlk hu hta ht hy
    obtain ⟨f2, rfl⟩ : ∃ f, f2 = f + 1 := ⟨f2 - 1, by omega⟩
    rw [q_give (m := m) (show l ≤ 1000 by omega) hm S.2.1 hu (show k + 1 ≤ 100 by omega) hst hlk (by omega) (Or.inr (by omega))]
    exact ⟨y, tt, n, Q_all, Q_kinds, Q_which, Q_firsts, Q_seconds, Q_thirds, Q_nexts, Q_heads, Q_image, Q_bound, Q_waits, Q_waitsFor, Q_goals, Q_steps, Q_looked, Q_under, Q_taken, Q_news, 2, rfl, w, qt, Nat.le_refl _, hn2, fun _ _ => rfl, by omega, fun j _ => ⟨rfl, rfl, rfl, rfl, rfl⟩, fun _ _ => rfl, fun _ => rfl, fun a s e => by cases e⟩
  | succ d ih =>
    intro hd f2 hf2 tt n Q_all Q_kinds Q_which Q_firsts Q_seconds Q_thirds Q_nexts Q_heads Q_image Q_bound Q_waits Q_waitsFor Q_goals Q_steps Q_looked Q_under Q_taken Q_news t y g w qt hx hn hn2 hg hgn hst hlk hu hta ht hy
    obtain ⟨f2, rfl⟩ : ∃ f, f2 = f + 1 := ⟨f2 - 1, by omega⟩
    obtain ⟨i, hi⟩ : ∃ i, i = m - (d + 1) := ⟨_, rfl⟩
    have him : i < m := by omega
    obtain ⟨hos, hoa⟩ := hod i him
    obtain ⟨s, hse⟩ : ∃ s, s = od i := ⟨_, rfl⟩
    rw [← hse] at hos hoa
    rw [← hi] at hlk
    show QRes tt0 n0 ar m od Q_statements Q_places Q_conclusions Q_premises Q_counts Q_names Q_variables Q_holes Q_sizes Q_order thr tt n l t y Q_goals Q_steps Q_looked Q_under Q_taken Q_news _ (if 1000 ≤ t then none else match tkS tt0 cc pc pp (od (m - (d + 1))) (tt g) with
      | none => SCs tt0 cc pc pp od m F (tt g) d (t + 1)
      | some σ => match PRs tt0 pp F σ (od (m - (d + 1))) (pc (od (m - (d + 1)))) (pc (od (m - (d + 1)))) (t + 1) 1 with
        | none => none
        | some (t', none) => SCs tt0 cc pc pp od m F (tt g) d t'
        | some (t', some a) => some (t', some (a, od (m - (d + 1)))))
    rw [← hi, ← hse]
    by_cases c1000 : 1000 ≤ t
    · rw [if_pos c1000]
      obtain ⟨hd', e1, e2⟩ := q_end (n0 := n0) (m := m) (f := FU - y) (f2 := f2) (thr := thr) (tr := nI t) (l := l) (Q_places := Q_places) (Q_conclusions := Q_conclusions) (Q_premises := Q_premises) (Q_counts := Q_counts) (Q_names := Q_names) (Q_variables := Q_variables) (Q_holes := Q_holes) (Q_sizes := Q_sizes) (Q_image := Q_image) (Q_bound := Q_bound) (Q_waits := Q_waits) (Q_waitsFor := Q_waitsFor) (Q_goals := Q_goals) (Q_taken := Q_taken) (Q_news := Q_news) (Q_order := Q_order) qt hn (by omega) hm S.2.1 hu (show k + 1 ≤ 100 by omega) (by omega) hst hlk him (by rw [show t = 1000 by omega]; rfl)
      rw [e1]
      exact ⟨Q_kinds, Q_which, Q_firsts, Q_seconds, Q_thirds, Q_nexts, hd', Q_image, Q_bound, Q_waits, Q_waitsFor, Q_goals, Q_steps, Q_looked, Q_under, Q_taken, Q_news, rfl, e2.congr (fun u hu => (hx u hu).symm)⟩
    rw [if_neg c1000]
    cases etk : tkS tt0 cc pc pp s (tt g) with
    | none =>
      obtain ⟨v1, v2, v3, v4, e1⟩ := takes_no (tr := nI t) (Q_image := Q_image) (Q_bound := Q_bound) (Q_waits := Q_waits) (Q_waitsFor := Q_waitsFor) (Q_news := Q_news) w qt hn0 hx hn hq har S (show l ≤ 1000 by omega) hlk (by omega) hoa hos hg hgn etk
      rw [q_try (m := m) (t := t) (show l ≤ 1000 by omega) hm S.2.1 hu (show k + 1 ≤ 100 by omega) (by omega) hst hlk him rfl (by omega) e1, if_pos rfl]
      have hnext := ih (by omega) f2 (by omega) tt n Q_all Q_kinds Q_which Q_firsts Q_seconds Q_thirds Q_nexts Q_heads v1 v2 v3 v4 Q_goals Q_steps (upd Q_looked l (nI (i + 1))) Q_under Q_taken Q_news (t + 1) y g w qt hx hn (by omega) hg hgn hst (by rw [up_s, show m - d = i + 1 by omega]) hu hta (by omega) (by omega)
      show QRes tt0 n0 ar m od Q_statements Q_places Q_conclusions Q_premises Q_counts Q_names Q_variables Q_holes Q_sizes Q_order thr tt n l t y Q_goals Q_steps Q_looked Q_under Q_taken Q_news _ (SCs tt0 cc pc pp od m F (tt g) d (t + 1))
      cases e2 : SCs tt0 cc pc pp od m F (tt g) d (t + 1) with
      | none => rw [e2] at hnext; exact hnext
      | some q =>
        obtain ⟨t', r⟩ := q
        rw [e2] at hnext
        obtain ⟨y', tt1, n1, c0, c1, c2, c3, c4, c5, c6, c7, v1, v2, v3, v4, d1, d2, d3, d4, d5, d6, tld, g1, g2, g3, g4, g5, g6, g7, g8, g9, g10, g11⟩ := hnext
        refine ⟨y', tt1, n1, c0, c1, c2, c3, c4, c5, c6, c7, v1, v2, v3, v4, d1, d2, d3, d4, d5, d6, tld, g1, g2, g3, g4, g5, g6, by omega, fun j hj => ?_, g9, g10, g11⟩
        obtain ⟨o1, o2, o3, o4, o5⟩ := g8 j hj
        rw [up_n (by omega)] at o3
        exact ⟨o1, o2, o3, o4, o5⟩
    | some σ =>
      have h4 := (S.2.2.2 s hos).2.1.2.2
      have hcq := (S.2.2.2 s hos).2.1.2.1
      obtain ⟨tt1, n1, c0, c1, c2, c3, c4, c5, c6, c7, v1, v2, v3, v4, nw, e1, e2, e3, e4, e5, e6, e7, e8⟩ := takes_yes (tr := nI t) (Q_image := Q_image) (Q_bound := Q_bound) (Q_waits := Q_waits) (Q_waitsFor := Q_waitsFor) (Q_news := Q_news) w0 w qt hn0 hx hn hq har S (show l ≤ 1000 by omega) hlk (by omega) hoa hos hg hgn (by omega) etk
      rw [q_try (m := m) (t := t) (show l ≤ 1000 by omega) hm S.2.1 hu (show k + 1 ≤ 100 by omega) (by omega) hst hlk him rfl (by omega) e1, if_neg (show ¬ (1 : Int32) = 0 by decide)]
      obtain ⟨f3, rfl⟩ : ∃ f, f2 = f + 1 := ⟨f2 - 1, by omega⟩
      have hpr := q_PR w0 S hn0 hkk hb hSIM hl hos him hoa (σ := σ) (pc s) (Nat.le_refl _) f3 tt1 n1 c0 c1 c2 c3 c4 c5 c6 c7 v1 v2 v3 v4 Q_goals Q_steps Q_looked (upd Q_under l 0) Q_taken nw (t + 1) y 1 e2 e3 (fun v hv => by rw [e6 v (by omega)]; exact hx v hv) (by omega) (by omega) hst hlk (by rw [up_s, Nat.sub_self]; rfl) hta e7 (by omega) (by omega)
      show QRes tt0 n0 ar m od Q_statements Q_places Q_conclusions Q_premises Q_counts Q_names Q_variables Q_holes Q_sizes Q_order thr tt n l t y Q_goals Q_steps Q_looked Q_under Q_taken Q_news _ (match PRs tt0 pp F σ s (pc s) (pc s) (t + 1) 1 with
        | none => none
        | some (t', none) => SCs tt0 cc pc pp od m F (tt g) d t'
        | some (t', some a) => some (t', some (a, s)))
      cases e9 : PRs tt0 pp F σ s (pc s) (pc s) (t + 1) 1 with
      | none => rw [e9] at hpr; exact hpr
      | some q =>
        obtain ⟨t', r⟩ := q
        obtain ⟨b1, b2, b3⟩ := bd_PR hb σ s (pc s) (pc s) (t + 1) 1 (by omega) t' r e9
        rw [e9] at hpr
        obtain ⟨y2, f2', tt2, n2, x0, x1, x2, x3, x4, x5, x6, x7, z1, z2, z3, z4, j1, j2, j3, j4, j5, j6, m1, m2, m3, m4, m5, m6, m7, m8, m9, m10, m11, m12, m13⟩ := hpr
        have hfr : ∀ j, j < l → eqV Q_goals Q_steps Q_looked Q_under Q_taken j1 j2 j3 j4 j5 j := by
          intro j hj
          obtain ⟨o1, o2, o3, o4, o5⟩ := m8 j hj
          rw [up_n (by omega)] at o4
          exact ⟨o1, o2, o3, o4, o5⟩
        have hnw : ∀ i, i < 4 * l → j6 i = Q_news i := fun i hi => (m9 i hi).trans (e8 i hi)
        have hxt : ∀ v, v < n → tt2 v = tt v := fun v hv => (m6 v (by omega)).trans (e6 v hv)
        rw [m1]
        cases r with
        | none =>
          obtain ⟨w0', w1, w2, w3⟩ := m12 rfl
          have hnext := ih (by omega) (f2' + 1) (by omega) tt2 n2 x0 x1 x2 x3 x4 x5 x6 x7 z1 z2 z3 z4 j1 j2 j3 j4 j5 j6 t' y2 g m2 m3 (fun v hv => by rw [hxt v (by omega)]; exact hx v hv) (by omega) m5 (m10.trans hg) (by omega) (m11.trans hst) (by rw [w1, hlk, nI_1, show m - d = i + 1 by omega]) w2 w3 b2 (by omega)
          rw [hxt g hgn] at hnext
          show QRes tt0 n0 ar m od Q_statements Q_places Q_conclusions Q_premises Q_counts Q_names Q_variables Q_holes Q_sizes Q_order thr tt n l t y Q_goals Q_steps Q_looked Q_under Q_taken Q_news _ (SCs tt0 cc pc pp od m F (tt g) d t')
          cases e3 : SCs tt0 cc pc pp od m F (tt g) d t' with
          | none => rw [e3] at hnext; exact hnext
          | some q =>
            obtain ⟨t2, r2⟩ := q
            rw [e3] at hnext
            obtain ⟨y', tt3, n3, c0, c1, c2, c3, c4, c5, c6, c7, v1, v2, v3, v4, d1, d2, d3, d4, d5, d6, tld, g1, g2, g3, g4, g5, g6, g7, g8, g9, g10, g11⟩ := hnext
            exact ⟨y', tt3, n3, c0, c1, c2, c3, c4, c5, c6, c7, v1, v2, v3, v4, d1, d2, d3, d4, d5, d6, tld, g1, g2, g3, by omega, g5, fun v hv => (g6 v (by omega)).trans (hxt v hv), by omega, fun j hj => (hfr j hj).trans (g8 j hj), fun i hi => (g9 i hi).trans (hnw i hi), g10, g11⟩
        | some a =>
          obtain ⟨w1, w2, w3⟩ := m13 a rfl
          rw [q_succ (show l ≤ 1000 by omega) h4 w2 (w1.trans hlk) (by omega) hoa (by omega) hcq]
          exact ⟨y2, tt2, n2, x0, x1, x2, x3, x4, x5, x6, x7, z1, z2, z3, z4, j1, j2, j3, j4, j5, j6, 1, rfl, m2, m3, by omega, m5, hxt, by omega, hfr, hnw, (fun e => by cases e), fun b s2 e => by cases e; exact ⟨rfl, w3, i, him, w1.trans hlk, hse.symm⟩⟩
theorem q_SIM (w0 : WF tt0 n0 ar) (S : RS tt0 n0 m cc pc pp S_count S_premises S_premiseCounts S_conclusions Q_statements Q_premises Q_counts Q_conclusions) (hn0 : n0 ≤ 100) (hq : QK tt0 n0 sz0 Q_names Q_variables Q_holes Q_sizes) (har : ∀ h, h < 30 → Q_places h = ar h) (hkk : kk ≤ 100) (hod : ∀ i, i < m → od i < m ∧ Q_order i = nI (od i)) : ∀ k, SIMQ tt0 n0 ar m od Q_statements Q_places Q_conclusions Q_premises Q_counts Q_names Q_variables Q_holes Q_sizes Q_order thr kk k (LKs tt0 cc pc pp od m k) := by
  have hm := S.2.2.1
  intro k
  induction k with
  | zero =>
    intro l hl f2 tt n Q_all Q_kinds Q_which Q_firsts Q_seconds Q_thirds Q_nexts Q_heads Q_image Q_bound Q_waits Q_waitsFor Q_goals Q_steps Q_looked Q_under Q_taken Q_news t y g hf2 w qt hx hn hn2 hg hgn hst hlk hu hta ht hy
    obtain ⟨f2, rfl⟩ : ∃ f, f2 = f + 1 := ⟨f2 - 1, by omega⟩
    rw [q_give (m := m) (show l ≤ 1000 by omega) hm S.2.1 hu (Nat.zero_le 100) hst hlk (by omega) (Or.inl rfl)]
    exact ⟨y, tt, n, Q_all, Q_kinds, Q_which, Q_firsts, Q_seconds, Q_thirds, Q_nexts, Q_heads, Q_image, Q_bound, Q_waits, Q_waitsFor, Q_goals, Q_steps, Q_looked, Q_under, Q_taken, Q_news, 2, rfl, w, qt, Nat.le_refl _, hn2, fun _ _ => rfl, by omega, fun j _ => ⟨rfl, rfl, rfl, rfl, rfl⟩, fun _ _ => rfl, fun _ => rfl, fun a s e => by cases e⟩
  | succ k ih =>
    intro l hl f2 tt n Q_all Q_kinds Q_which Q_firsts Q_seconds Q_thirds Q_nexts Q_heads Q_image Q_bound Q_waits Q_waitsFor Q_goals Q_steps Q_looked Q_under Q_taken Q_news t y g hf2 w qt hx hn hn2 hg hgn hst hlk hu hta ht hy
    exact q_SC w0 S hn0 hq har hkk hod (bd_LK od k) ih hl m (Nat.le_refl _) f2 (by omega) tt n Q_all Q_kinds Q_which Q_firsts Q_seconds Q_thirds Q_nexts Q_heads Q_image Q_bound Q_waits Q_waitsFor Q_goals Q_steps Q_looked Q_under Q_taken Q_news t y g w qt hx hn hn2 hg hgn hst (by rw [Nat.sub_self]; exact hlk) hu hta ht hy
end
