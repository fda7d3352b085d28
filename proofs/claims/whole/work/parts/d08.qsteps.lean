section
variable {tt : Nat → Tm} {n N m : Nat} {ar : Nat → Int32} {sz : Nat → Nat} {cc pc : Nat → Nat} {pp : Nat → Nat → Nat} {T_count : Int32} {T_heads T_places T_olders T_sizes : Nat → Int32} {T_withins : Nat → Int64} {T_newest : Nat → Int32} {Q_all Q_thrown : Int32} {Q_kinds Q_which Q_firsts Q_seconds Q_thirds Q_nexts Q_heads Q_names Q_variables Q_holes Q_sizes : Nat → Int32}
variable {S_count : Int32} {S_premises S_premiseCounts S_conclusions : Nat → Int32} {Q_statements : Int32} {Q_premises Q_counts Q_conclusions : Nat → Int32} {H_kind H_subject H_count : Int32} {H_statementRow H_firstRow H_secondRow : Nat → Int32} {Q_hitKind Q_hits : Int32} {Q_hitOf Q_hitOne Q_hitTwo Q_hitTerms : Nat → Int32} {O_out : Nat → Int64}
variable {Q_places : Nat → Int32}
variable {tt0 : Nat → Tm} {n0 kk : Nat} {od : Nat → Nat} {sz0 : Nat → Nat} {σ : Nat → Option Tm} {Q_places Q_image Q_bound Q_waits Q_waitsFor Q_goals Q_steps Q_looked Q_under Q_taken Q_news Q_order : Nat → Int32} {tr thr : Int32}
theorem takes_no (w : WF tt n ar) (qt : QTb tt n Q_all Q_kinds Q_which Q_firsts Q_seconds Q_thirds Q_nexts Q_heads) (hn0 : n0 ≤ 100) (hx : ∀ u, u < n0 → tt u = tt0 u) (hn : n0 ≤ n) (hq : QK tt0 n0 sz0 Q_names Q_variables Q_holes Q_sizes) (har : ∀ h, h < 30 → Q_places h = ar h) (S : RS tt0 n0 m cc pc pp S_count S_premises S_premiseCounts S_conclusions Q_statements Q_premises Q_counts Q_conclusions) {l i s g : Nat} (hl : l ≤ 1000) (hlk : Q_looked l = nI i) (hi : i < 30) (hor : Q_order i = nI s) (hs : s < m) (hg : Q_goals l = nI g) (hgn : g < n)
    (htk : tkS tt0 cc pc pp s (tt g) = none) : ∃ Q_image' Q_bound' Q_waits' Q_waitsFor', f_Q_takes Q_all tr Q_kinds Q_which Q_firsts Q_seconds Q_thirds Q_nexts Q_heads Q_names Q_variables Q_holes Q_sizes Q_places Q_conclusions Q_premises Q_counts Q_image Q_bound Q_waits Q_waitsFor Q_goals Q_looked Q_news Q_order (nI l) = some (0, Q_all, tr + 1, Q_kinds, Q_which, Q_firsts, Q_seconds, Q_thirds, Q_nexts, Q_heads, Q_names, Q_variables, Q_holes, Q_sizes, Q_image', Q_bound', Q_waits', Q_waitsFor', Q_news) := by
  have hm := S.2.2.1
  have hcc := (S.2.2.2 s hs).1.2.2.1
  have hce := (S.2.2.2 s hs).1.2.1
  obtain ⟨x, b1, b2⟩ := qopn_eq hn0 hq S hs
  unfold f_Q_takes
  rw [gd_t (ixb_t (by omega) (by omega)), nI_clamp (by omega), hlk, gd_t (ixb_t hi (by omega)), nmE, nmE, nI_clamp (by omega), hor, b1, bd_s]
  by_cases c : x = 0
  · have ho := b2.mp c
    rw [if_pos c, gd_t (ixb_t (by omega) (by omega)), gd_t (ixb_t (by omega) (by omega)), nI_clamp (by omega), hce, hg]
    have hno := tkS_none htk ho
    rcases qmatches_eq w hn hn0 qt (hq.congr hx) har false hcc hgn Q_image Q_bound Q_waits Q_waitsFor with ⟨a1, a2, a3, a4, τ, d1, d2, d3⟩ | ⟨a1, a2, a3, a4, d1, d2⟩
    · rw [hx _ hcc] at d2
      exact absurd d2 (hno τ)
    · rw [show zI false = (0 : Int32) from rfl] at d1
      rw [d1, bd_s, if_pos rfl]
      exact ⟨a1, a2, a3, a4, rfl⟩
  · rw [if_neg c]
    exact ⟨_, _, _, _, rfl⟩
theorem takes_yes (w0 : WF tt0 n0 ar) (w : WF tt n ar) (qt : QTb tt n Q_all Q_kinds Q_which Q_firsts Q_seconds Q_thirds Q_nexts Q_heads) (hn0 : n0 ≤ 100) (hx : ∀ u, u < n0 → tt u = tt0 u) (hn : n0 ≤ n) (hq : QK tt0 n0 sz0 Q_names Q_variables Q_holes Q_sizes) (har : ∀ h, h < 30 → Q_places h = ar h) (S : RS tt0 n0 m cc pc pp S_count S_premises S_premiseCounts S_conclusions Q_statements Q_premises Q_counts Q_conclusions) {l i s g : Nat} (hl : l ≤ 1000) (hlk : Q_looked l = nI i) (hi : i < 30) (hor : Q_order i = nI s) (hs : s < m) (hg : Q_goals l = nI g) (hgn : g < n) (hnb : n ≤ 100900)
    (htk : tkS tt0 cc pc pp s (tt g) = some σ) : ∃ (tt' : Nat → Tm) (n' : Nat) (Q_all' : Int32) (Q_kinds' Q_which' Q_firsts' Q_seconds' Q_thirds' Q_nexts' Q_heads' Q_image' Q_bound' Q_waits' Q_waitsFor' Q_news' : Nat → Int32),
      f_Q_takes Q_all tr Q_kinds Q_which Q_firsts Q_seconds Q_thirds Q_nexts Q_heads Q_names Q_variables Q_holes Q_sizes Q_places Q_conclusions Q_premises Q_counts Q_image Q_bound Q_waits Q_waitsFor Q_goals Q_looked Q_news Q_order (nI l) = some (1, Q_all', tr + 1, Q_kinds', Q_which', Q_firsts', Q_seconds', Q_thirds', Q_nexts', Q_heads', Q_names, Q_variables, Q_holes, Q_sizes, Q_image', Q_bound', Q_waits', Q_waitsFor', Q_news') ∧
      WF tt' n' ar ∧ QTb tt' n' Q_all' Q_kinds' Q_which' Q_firsts' Q_seconds' Q_thirds' Q_nexts' Q_heads' ∧ n ≤ n' ∧ n' ≤ n + n0 ∧ (∀ u, u < n → tt' u = tt u) ∧ (∀ i, i < pc s → ∃ u, u < n' ∧ Q_news' (4 * l + i) = nI u ∧ tt' u = sub σ (tt0 (pp s i))) ∧ (∀ i, i < 4 * l → Q_news' i = Q_news i) := by
  have hm := S.2.2.1
  have h4 := (S.2.2.2 s hs).2.1.2.2
  have hcc := (S.2.2.2 s hs).1.2.2.1
  have hce := (S.2.2.2 s hs).1.2.1
  obtain ⟨ho, hσ0⟩ := tkS_some htk
  have hσ : Mt false σ (tt (cc s)) (tt g) := by rw [hx _ hcc]; exact hσ0
  obtain ⟨x, b1, b2⟩ := qopn_eq hn0 hq S hs
  unfold f_Q_takes
  rw [gd_t (ixb_t (by omega) (by omega)), nI_clamp (by omega), hlk, gd_t (ixb_t hi (by omega)), nmE, nmE, nI_clamp (by omega), hor, b1, bd_s, if_pos (b2.mpr ho), gd_t (ixb_t (by omega) (by omega)), gd_t (ixb_t (by omega) (by omega)), nI_clamp (by omega), hce, hg]
  rcases qmatches_eq w hn hn0 qt (hq.congr hx) har false hcc hgn Q_image Q_bound Q_waits Q_waitsFor with ⟨a1, a2, a3, a4, τ, d1, d2, d3⟩ | ⟨a1, a2, a3, a4, d1, d2⟩
  · rw [show zI false = (0 : Int32) from rfl] at d1
    have hτ : τ = σ := Mt_uni w (by omega) d2 hσ
    subst hτ
    obtain ⟨i1, i2⟩ := mt_in2 w (show cc s < n by omega) hgn d2
    obtain ⟨tt', n', c1, c2, c3, c4, c5, c6, c7, c8, im3, ws3, nw3, g1, g2, g3, g4, g5, g6, g7, g8⟩ := takes_loop (σ := τ) w0 hn0 S hl hs hnb Q_places Q_goals Q_looked Q_order a4 a2 (tr + 1) (kn := Q_names) (kv := Q_variables) (kh := Q_holes) (ks := Q_sizes) (pc s) (Nat.le_refl _) FU (by unfold FU; omega) tt n Q_all Q_kinds Q_which Q_firsts Q_seconds Q_thirds Q_nexts Q_heads a1 a3 Q_news w qt hx hn (Nat.le_refl _) (fun v h1 h2 => by
      have h2' : v < n := h2
      omega) i1 i2 d3 (fun i hi => by omega)
    rw [Nat.sub_self, nI_0] at g1
    rw [d1, bd_s, if_neg (show ¬ (1 : Int32) = 0 by decide)]
    exact ⟨tt', n', c1, c2, c3, c4, c5, c6, c7, c8, im3, a2, ws3, a4, nw3, g1, g2, g3, g4, g5, g6, g7, g8⟩
  · exact absurd hσ (d2 σ)
/-- the reference's search at the head of its outer loop -/
def QH (Q_statements : Int32) (Q_places Q_conclusions Q_premises Q_counts : Nat → Int32) (n0 fuel : Nat) (thr Q_all tr : Int32) (Q_kinds Q_which Q_firsts Q_seconds Q_thirds Q_nexts Q_heads Q_names Q_variables Q_holes Q_sizes Q_image Q_bound Q_waits Q_waitsFor Q_goals Q_steps Q_looked Q_under Q_taken Q_news Q_order : Nat → Int32) (x4 x5 : Int32) :=
  f_Q_follows_L62 Q_statements Q_places Q_conclusions Q_premises Q_counts fuel thr Q_all tr 0 (-1) Q_kinds Q_which Q_firsts Q_seconds Q_thirds Q_nexts Q_heads Q_names Q_variables Q_holes Q_sizes Q_image Q_bound Q_waits Q_waitsFor Q_goals Q_steps Q_looked Q_under Q_taken Q_news Q_order (nI n0) x4 x5
/-- and at the head of its inner loop, at a level -/
def QF (Q_statements : Int32) (Q_places Q_conclusions Q_premises Q_counts : Nat → Int32) (n0 fuel f2 : Nat) (thr Q_all tr : Int32) (Q_kinds Q_which Q_firsts Q_seconds Q_thirds Q_nexts Q_heads Q_names Q_variables Q_holes Q_sizes Q_image Q_bound Q_waits Q_waitsFor Q_goals Q_steps Q_looked Q_under Q_taken Q_news Q_order : Nat → Int32) (l : Nat) :=
  f_Q_follows_L145 Q_statements Q_places Q_conclusions Q_premises Q_counts (f_Q_follows_L62 Q_statements Q_places Q_conclusions Q_premises Q_counts fuel) f2 thr Q_all tr 0 (-1) Q_kinds Q_which Q_firsts Q_seconds Q_thirds Q_nexts Q_heads Q_names Q_variables Q_holes Q_sizes Q_image Q_bound Q_waits Q_waitsFor Q_goals Q_steps Q_looked Q_under Q_taken Q_news Q_order (nI n0) (nI (l + 1)) 0 (nI l)
variable {f f2 l : Nat}
theorem B236_none (hl : l ≤ 1000) (hu : Q_under l = -1) (K : Int32 → Int32 → Int32 → Int32 → Int32 → (Nat → Int32) → (Nat → Int32) → (Nat → Int32) → (Nat → Int32) → (Nat → Int32) → (Nat → Int32) → (Nat → Int32) → (Nat → Int32) → (Nat → Int32) → (Nat → Int32) → (Nat → Int32) → (Nat → Int32) → (Nat → Int32) → (Nat → Int32) → (Nat → Int32) → (Nat → Int32) → (Nat → Int32) → (Nat → Int32) → (Nat → Int32) → (Nat → Int32) → (Nat → Int32) → (Nat → Int32) → Int32 → Int32 → Int32 → Option (Int32 × Int32 × Int32 × Int32 × Int32 × Int32 × (Nat → Int32) × (Nat → Int32) × (Nat → Int32) × (Nat → Int32) × (Nat → Int32) × (Nat → Int32) × (Nat → Int32) × (Nat → Int32) × (Nat → Int32) × (Nat → Int32) × (Nat → Int32) × (Nat → Int32) × (Nat → Int32) × (Nat → Int32) × (Nat → Int32) × (Nat → Int32) × (Nat → Int32) × (Nat → Int32) × (Nat → Int32) × (Nat → Int32) × (Nat → Int32) × (Nat → Int32))) :
    f_Q_follows_B236 Q_statements Q_places Q_conclusions Q_premises Q_counts K thr Q_all tr 0 (-1) Q_kinds Q_which Q_firsts Q_seconds Q_thirds Q_nexts Q_heads Q_names Q_variables Q_holes Q_sizes Q_image Q_bound Q_waits Q_waitsFor Q_goals Q_steps Q_looked Q_under Q_taken Q_news Q_order (nI n0) (nI (l + 1)) 0 (nI l) = K thr Q_all tr 0 (-1) Q_kinds Q_which Q_firsts Q_seconds Q_thirds Q_nexts Q_heads Q_names Q_variables Q_holes Q_sizes Q_image Q_bound Q_waits Q_waitsFor Q_goals Q_steps Q_looked Q_under Q_taken Q_news Q_order (nI n0) (nI l) 2 := by
  unfold f_Q_follows_B236
  rw [gd_t (ixb_t (by omega) (by omega)), nI_clamp (by omega), if_pos hu, nmE, nI_m1]
/-- no step, or no statement left -/
theorem q_give (hl : l ≤ 1000) (hm : m ≤ 30) (hS : Q_statements = nI m) (hu : Q_under l = -1) {k i : Nat} (hk : k ≤ 100) (hst : Q_steps l = nI k) (hlk : Q_looked l = nI i) (hi : i ≤ 30) (h : k = 0 ∨ m ≤ i) :
    QF Q_statements Q_places Q_conclusions Q_premises Q_counts n0 f (f2 + 1) thr Q_all tr Q_kinds Q_which Q_firsts Q_seconds Q_thirds Q_nexts Q_heads Q_names Q_variables Q_holes Q_sizes Q_image Q_bound Q_waits Q_waitsFor Q_goals Q_steps Q_looked Q_under Q_taken Q_news Q_order l = QH Q_statements Q_places Q_conclusions Q_premises Q_counts n0 f thr Q_all tr Q_kinds Q_which Q_firsts Q_seconds Q_thirds Q_nexts Q_heads Q_names Q_variables Q_holes Q_sizes Q_image Q_bound Q_waits Q_waitsFor Q_goals Q_steps Q_looked Q_under Q_taken Q_news Q_order (nI l) 2 := by
  unfold QF QH
  rw [f_Q_follows_L145, gd_t (ixb_t (by omega) (by omega)), nI_clamp (by omega), if_pos hu, gd_t (ixb_t (by omega) (by omega)), hst]
  by_cases c : k = 0
  · rw [if_pos (show nI k ≤ (0 : Int32) by rw [c]; decide), B236_none hl hu]
  · rw [if_neg (show ¬ nI k ≤ (0 : Int32) from (nI_ge (by omega) (by omega) : ¬ nI k ≤ nI 0)), gd_t (ixb_t (by omega) (by omega)), hlk, hS, if_pos ((nI_leI (by omega) (by omega)).mpr (by omega)), B236_none hl hu]
/-- the tries are used up -/
theorem q_end (qt : QTb tt n Q_all Q_kinds Q_which Q_firsts Q_seconds Q_thirds Q_nexts Q_heads) (hn : n0 ≤ n) (hl : l ≤ 1000) (hm : m ≤ 30) (hS : Q_statements = nI m) (hu : Q_under l = -1) {k i : Nat} (hk : k ≤ 100) (hk1 : 1 ≤ k) (hst : Q_steps l = nI k) (hlk : Q_looked l = nI i) (hi : i < m) (htr : tr = 1000) :
    ∃ Q_heads', QF Q_statements Q_places Q_conclusions Q_premises Q_counts n0 f (f2 + 1) thr Q_all tr Q_kinds Q_which Q_firsts Q_seconds Q_thirds Q_nexts Q_heads Q_names Q_variables Q_holes Q_sizes Q_image Q_bound Q_waits Q_waitsFor Q_goals Q_steps Q_looked Q_under Q_taken Q_news Q_order l = some (0, 3, nI n0, 1000, 0, -1, Q_kinds, Q_which, Q_firsts, Q_seconds, Q_thirds, Q_nexts, Q_heads', Q_names, Q_variables, Q_holes, Q_sizes, Q_image, Q_bound, Q_waits, Q_waitsFor, Q_goals, Q_steps, Q_looked, Q_under, Q_taken, Q_news, Q_order) ∧ QTb tt n0 (nI n0) Q_kinds Q_which Q_firsts Q_seconds Q_thirds Q_nexts Q_heads' := by
  obtain ⟨hd', s1, s2⟩ := shrink_eq qt hn
  refine ⟨hd', ?_, s2⟩
  unfold QF
  rw [f_Q_follows_L145, gd_t (ixb_t (by omega) (by omega)), nI_clamp (by omega), if_pos hu, gd_t (ixb_t (by omega) (by omega)), hst, if_neg (show ¬ nI k ≤ (0 : Int32) from (nI_ge (by omega) (by omega) : ¬ nI k ≤ nI 0)), gd_t (ixb_t (by omega) (by omega)), hlk, hS, if_neg (nI_ge hi (by omega)), if_pos htr, s1, bd_s, htr]
/-- one try -/
theorem q_try (hl : l ≤ 1000) (hm : m ≤ 30) (hS : Q_statements = nI m) (hu : Q_under l = -1) {k i : Nat} (hk : k ≤ 100) (hk1 : 1 ≤ k) (hst : Q_steps l = nI k) (hlk : Q_looked l = nI i) (hi : i < m) {t : Nat} (htr : tr = nI t) (ht : t < 1000) {b : Int32} {Q_all' : Int32} {Q_kinds' Q_which' Q_firsts' Q_seconds' Q_thirds' Q_nexts' Q_heads' Q_image' Q_bound' Q_waits' Q_waitsFor' Q_news' : Nat → Int32}
    (htk : f_Q_takes Q_all tr Q_kinds Q_which Q_firsts Q_seconds Q_thirds Q_nexts Q_heads Q_names Q_variables Q_holes Q_sizes Q_places Q_conclusions Q_premises Q_counts Q_image Q_bound Q_waits Q_waitsFor Q_goals Q_looked Q_news Q_order (nI l) = some (b, Q_all', tr + 1, Q_kinds', Q_which', Q_firsts', Q_seconds', Q_thirds', Q_nexts', Q_heads', Q_names, Q_variables, Q_holes, Q_sizes, Q_image', Q_bound', Q_waits', Q_waitsFor', Q_news')) :
    QF Q_statements Q_places Q_conclusions Q_premises Q_counts n0 f (f2 + 1) thr Q_all tr Q_kinds Q_which Q_firsts Q_seconds Q_thirds Q_nexts Q_heads Q_names Q_variables Q_holes Q_sizes Q_image Q_bound Q_waits Q_waitsFor Q_goals Q_steps Q_looked Q_under Q_taken Q_news Q_order l = if b = 0 then QF Q_statements Q_places Q_conclusions Q_premises Q_counts n0 f f2 thr Q_all' (nI (t + 1)) Q_kinds' Q_which' Q_firsts' Q_seconds' Q_thirds' Q_nexts' Q_heads' Q_names Q_variables Q_holes Q_sizes Q_image' Q_bound' Q_waits' Q_waitsFor' Q_goals Q_steps (upd Q_looked l (nI (i + 1))) Q_under Q_taken Q_news' Q_order l
      else QF Q_statements Q_places Q_conclusions Q_premises Q_counts n0 f f2 thr Q_all' (nI (t + 1)) Q_kinds' Q_which' Q_firsts' Q_seconds' Q_thirds' Q_nexts' Q_heads' Q_names Q_variables Q_holes Q_sizes Q_image' Q_bound' Q_waits' Q_waitsFor' Q_goals Q_steps Q_looked (upd Q_under l 0) Q_taken Q_news' Q_order l := by
  have htn : ¬ tr = 1000 := by
    rw [htr]
    intro e
    have : t = 1000 := nI_inj (a := t) (b := 1000) (by omega) (by omega) e
    omega
  unfold QF
  rw [f_Q_follows_L145, gd_t (ixb_t (by omega) (by omega)), nI_clamp (by omega), if_pos hu, gd_t (ixb_t (by omega) (by omega)), hst, if_neg (show ¬ nI k ≤ (0 : Int32) from (nI_ge (by omega) (by omega) : ¬ nI k ≤ nI 0)), gd_t (ixb_t (by omega) (by omega)), hlk, hS, if_neg (nI_ge hi (by omega)), if_neg htn, htk, bd_s, htr, nI_1]
  by_cases c : b = 0
  · rw [if_pos c, if_pos c, gd_t (ixb_t (by omega) (by omega)), gd_t (ixb_t (by omega) (by omega)), nmE, nI_1]
  · rw [if_neg c, if_neg c, gd_t (ixb_t (by omega) (by omega)), nmE]
end
