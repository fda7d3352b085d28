section
variable {tt : Nat → Tm} {n N m : Nat} {ar : Nat → Int32} {sz : Nat → Nat} {cc pc : Nat → Nat} {pp : Nat → Nat → Nat} {T_count : Int32} {T_heads T_places T_olders T_sizes : Nat → Int32} {T_withins : Nat → Int64} {T_newest : Nat → Int32} {Q_all Q_thrown : Int32} {Q_kinds Q_which Q_firsts Q_seconds Q_thirds Q_nexts Q_heads Q_names Q_variables Q_holes Q_sizes : Nat → Int32}
variable {S_count : Int32} {S_premises S_premiseCounts S_conclusions : Nat → Int32} {Q_statements : Int32} {Q_premises Q_counts Q_conclusions : Nat → Int32} {H_kind H_subject H_count : Int32} {H_statementRow H_firstRow H_secondRow : Nat → Int32} {Q_hitKind Q_hits : Int32} {Q_hitOf Q_hitOne Q_hitTwo Q_hitTerms : Nat → Int32} {O_out : Nat → Int64}
variable {Q_places : Nat → Int32}
/-- the class's search at the head of its loop -/
def LE (S_count : Int32) (S_premises S_premiseCounts S_conclusions od : Nat → Int32) (kk n0 fuel : Nat) (T_count : Int32) (T_heads T_places T_olders T_sizes : Nat → Int32) (T_withins : Nat → Int64) (T_newest : Nat → Int32) (N : Nat) (im path : Nat → Int32) (lv tr tk fi : Int32) (E_goals E_marks E_looked E_underway E_met E_takenHere : Nat → Int32) (x : Int32) :=
  f_E_ends_L58 S_count S_premises S_premiseCounts S_conclusions fuel T_count N T_heads (3*N) T_places N T_olders N T_sizes N T_withins T_newest od im path lv (nI kk) tr tk fi E_goals E_marks E_looked E_underway E_met E_takenHere (nI n0) 1 x
variable {od im path E_goals E_marks E_looked E_underway E_met E_takenHere : Nat → Int32} {kk n0 f l x : Nat} {tr tk fi : Int32}
theorem LE_u (hx : x < 1000000) (hl : l < 100) : LE S_count S_premises S_premiseCounts S_conclusions od kk n0 (f + 1) T_count T_heads T_places T_olders T_sizes T_withins T_newest N im path (nI l) tr tk fi E_goals E_marks E_looked E_underway E_met E_takenHere (nI x) =
    if E_underway l = -1 then
      (f_E_looks T_count N T_heads (3*N) T_places N T_olders N T_withins T_newest S_count S_premises S_premiseCounts S_conclusions od im (nI l) tr E_goals E_marks E_looked E_underway E_met E_takenHere).bind fun r19 =>
      f_E_ends_L58 S_count S_premises S_premiseCounts S_conclusions f r19.2.1 N T_heads (3*N) T_places N T_olders N T_sizes N T_withins r19.2.2.1 od r19.2.2.2.1 path r19.2.2.2.2.1 (nI kk) r19.2.2.2.2.2.1 tk fi E_goals E_marks r19.2.2.2.2.2.2.1 r19.2.2.2.2.2.2.2.1 r19.2.2.2.2.2.2.2.2.1 r19.2.2.2.2.2.2.2.2.2 (nI n0) r19.1 (nI (x + 1))
    else (f_S_premises S_count S_premiseCounts (E_underway l)).bind fun r12 =>
      if E_met l < r12 then
        (f_E_enterNewGoal T_count N T_heads (3*N) T_places N T_olders N T_sizes N T_withins T_newest S_count S_premises S_premiseCounts S_conclusions im path (nI l) (nI kk) E_goals E_marks E_looked E_underway E_met (E_underway l)).bind fun r14 =>
        f_E_ends_L58 S_count S_premises S_premiseCounts S_conclusions f r14.1 r14.2.1 r14.2.2.1 r14.2.2.2.1 r14.2.2.2.2.1 r14.2.2.2.2.2.1 r14.2.2.2.2.2.2.1 r14.2.2.2.2.2.2.2.1 r14.2.2.2.2.2.2.2.2.1 r14.2.2.2.2.2.2.2.2.2.1 r14.2.2.2.2.2.2.2.2.2.2.1 r14.2.2.2.2.2.2.2.2.2.2.2.1 od r14.2.2.2.2.2.2.2.2.2.2.2.2.1 r14.2.2.2.2.2.2.2.2.2.2.2.2.2.1 r14.2.2.2.2.2.2.2.2.2.2.2.2.2.2.1 (nI kk) tr tk fi r14.2.2.2.2.2.2.2.2.2.2.2.2.2.2.2.1 r14.2.2.2.2.2.2.2.2.2.2.2.2.2.2.2.2.1 r14.2.2.2.2.2.2.2.2.2.2.2.2.2.2.2.2.2.1 r14.2.2.2.2.2.2.2.2.2.2.2.2.2.2.2.2.2.2 E_met E_takenHere (nI n0) 1 (nI (x + 1))
      else
        (f_E_succeed T_count N T_heads (3*N) T_places N T_olders T_newest (nI l) tk fi E_marks E_met E_takenHere (E_underway l)).bind fun r17 =>
        f_E_ends_L58 S_count S_premises S_premiseCounts S_conclusions f r17.1 N T_heads (3*N) T_places N T_olders N T_sizes N T_withins r17.2.1 od im path r17.2.2.1 (nI kk) tr r17.2.2.2.1 r17.2.2.2.2.1 E_goals E_marks E_looked E_underway r17.2.2.2.2.2.1 r17.2.2.2.2.2.2 (nI n0) 1 (nI (x + 1)) := by
  unfold LE
  rw [f_E_ends_L58, if_neg (show ¬ (1000000 : Int32) ≤ nI x from (nI_ge hx (by omega) : ¬ nI 1000000 ≤ nI x)), if_neg (by decide), if_neg (nI_pos (by omega)), gd_t (ixb_t hl (by omega)), nI_clamp (by omega), nmE]
  simp only [nmE, nI_1]
  rw [gd_t (ixb_t hl (by omega))]
theorem st_give (ct : CT tt n N sz T_count T_heads T_places T_olders T_sizes T_withins T_newest) (hS : S_count = nI m) (hm : m ≤ 30) (hx : x < 1000000) (hl : l < 100) (hu : E_underway l = -1) {i mk : Nat} (hlk : E_looked l = nI i) (hi : m ≤ i) (hi2 : i < 2 ^ 31) (hmk : E_marks l = nI mk) (hmn : mk ≤ n) :
    ∃ T_newest' E_underway', LE S_count S_premises S_premiseCounts S_conclusions od kk n0 (f + 1) T_count T_heads T_places T_olders T_sizes T_withins T_newest N im path (nI l) tr tk fi E_goals E_marks E_looked E_underway E_met E_takenHere (nI x) = LE S_count S_premises S_premiseCounts S_conclusions od kk n0 f (nI mk) T_heads T_places T_olders T_sizes T_withins T_newest' N im path (nI l - 1) tr tk fi E_goals E_marks E_looked E_underway' E_met E_takenHere (nI (x + 1)) ∧
      CT tt mk N sz (nI mk) T_heads T_places T_olders T_sizes T_withins T_newest' ∧ (∀ j, j + 1 < l → E_underway' j = E_underway j) ∧ (∀ j, l = j + 1 → E_underway' j = -1) := by
  obtain ⟨nw, k1, k2⟩ := keep_eq ct hmn
  rw [LE_u hx hl, if_pos hu]
  have ho : f_S_ordered S_count od (E_looked l) = some (-1) := by
    unfold f_S_ordered
    rw [hlk, hS, if_neg (nI_pos (by omega)), if_pos ((nI_leI (by omega) (by omega)).mpr hi)]
  unfold f_E_looks f_E_giveUp
  rw [gd_t (ixb_t hl (by omega)), nI_clamp (by omega), ho, bd_s, if_pos rfl, gd_t (ixb_t hl (by omega)), hmk, k1, bd_s, nmE]
  cases l with
  | zero =>
    rw [if_pos (show nI 0 - 1 < (0 : Int32) by decide), bd_s, bd_s]
    exact ⟨nw, E_underway, rfl, k2, fun j hj => by omega, fun j hj => by omega⟩
  | succ l =>
    rw [nI_pred, if_neg (nI_pos (by omega)), gd_t (ixb_t (by omega) (by omega)), nmE, nI_clamp (by omega), bd_s, bd_s]
    refine ⟨nw, upd E_underway l (-1), rfl, k2, fun j hj => up_n (by omega), fun j hj => ?_⟩
    rw [show j = l by omega, up_s]
theorem st_end (ct : CT tt n N sz T_count T_heads T_places T_olders T_sizes T_withins T_newest) (hS : S_count = nI m) (hm : m ≤ 30) (hx : x + 1 < 1000000) (hl : l < 100) (hu : E_underway l = -1) {i : Nat} (hlk : E_looked l = nI i) (hi : i < m) {s : Nat} (hod : od i = nI s) (hs : s < 30) (htr : tr = 1000) (hn0 : n0 ≤ n) :
    ∃ T_newest', LE S_count S_premises S_premiseCounts S_conclusions od kk n0 (f + 2) T_count T_heads T_places T_olders T_sizes T_withins T_newest N im path (nI l) tr tk fi E_goals E_marks E_looked E_underway E_met E_takenHere (nI x) = some (0, nI n0, N, T_heads, 3*N, T_places, N, T_olders, N, T_sizes, N, T_withins, T_newest', od, im, path, nI l, nI kk, 1000, tk, fi, E_goals, E_marks, E_looked, E_underway, E_met, E_takenHere) ∧
      CT tt n0 N sz (nI n0) T_heads T_places T_olders T_sizes T_withins T_newest' := by
  obtain ⟨nw, k1, k2⟩ := keep_eq ct hn0
  rw [LE_u (by omega) hl, if_pos hu]
  have ho : f_S_ordered S_count od (E_looked l) = some (nI s) := by
    unfold f_S_ordered
    rw [hlk, hS, if_neg (nI_pos (by omega)), if_neg (nI_ge hi (by omega)), gd_t (ixb_t (by omega) (by omega)), nI_clamp (by omega), hod]
  have hlook : f_E_looks T_count N T_heads (3*N) T_places N T_olders N T_withins T_newest S_count S_premises S_premiseCounts S_conclusions od im (nI l) tr E_goals E_marks E_looked E_underway E_met E_takenHere = some (0, T_count, T_newest, im, nI l, tr, E_looked, E_underway, E_met, E_takenHere) := by
    unfold f_E_looks
    rw [gd_t (ixb_t hl (by omega)), nI_clamp (by omega), ho, bd_s, if_neg (nI_nm1 (by omega)), if_neg (by rw [htr]; decide)]
  rw [hlook, bd_s]
  refine ⟨nw, ?_, k2⟩
  rw [f_E_ends_L58, if_neg (show ¬ (1000000 : Int32) ≤ nI (x + 1) from (nI_ge hx (by omega) : ¬ nI 1000000 ≤ nI (x + 1))), if_pos (show (0, T_count, T_newest, im, nI l, tr, E_looked, E_underway, E_met, E_takenHere).1 = (0 : Int32) from rfl)]
  unfold f_E_ends_B145
  rw [k1, bd_s, htr]
  rfl
theorem st_no (w : WF tt n ar) (ct : CT tt n N sz T_count T_heads T_places T_olders T_sizes T_withins T_newest) (S : RS tt n m cc pc pp S_count S_premises S_premiseCounts S_conclusions Q_statements Q_premises Q_counts Q_conclusions) (hx : x < 1000000) (hl : l < 100) (hu : E_underway l = -1) {i : Nat} (hlk : E_looked l = nI i) (hi : i < m) {s t : Nat} (hod : od i = nI s) (hs : s < m) (htr : tr = nI t) (ht : t < 1000) {g : Nat} (hg : E_goals l = nI g) (hgn : g < n) (h100 : cc s < 100)
    (hno : opn tt cc pc pp s → ∀ σ, ¬ Mt false σ (tt (cc s)) (tt g)) :
    ∃ im', LE S_count S_premises S_premiseCounts S_conclusions od kk n0 (f + 1) T_count T_heads T_places T_olders T_sizes T_withins T_newest N im path (nI l) tr tk fi E_goals E_marks E_looked E_underway E_met E_takenHere (nI x) = LE S_count S_premises S_premiseCounts S_conclusions od kk n0 f T_count T_heads T_places T_olders T_sizes T_withins T_newest N im' path (nI l) (nI (t + 1)) tk fi E_goals E_marks (upd E_looked l (nI (i + 1))) E_underway E_met E_takenHere (nI (x + 1)) := by
  have hm := S.2.2.1
  rw [LE_u hx hl, if_pos hu]
  have ho : f_S_ordered S_count od (E_looked l) = some (nI s) := by
    unfold f_S_ordered
    rw [hlk, S.1, if_neg (nI_pos (by omega)), if_neg (nI_ge hi (by omega)), gd_t (ixb_t (by omega) (by omega)), nI_clamp (by omega), hod]
  have htl : tr < (1000 : Int32) := by rw [htr]; exact (nI_lt ht (by omega) : _ < nI 1000)
  obtain ⟨c, o1, o2, o3⟩ := copen_eq ct S hs
  have hL : ∀ r im', (f_S_openVariables T_count N T_withins S_count S_premises S_premiseCounts S_conclusions (nI s)) = some (nI c) → ((c = 0 ∧ f_M_matches T_count N T_heads (3*N) T_places N T_withins im (nI (cc s)) (nI g) 273804165120 = some (0, im') ∧ r = im') ∨ (c ≠ 0 ∧ r = im)) → f_E_looks T_count N T_heads (3*N) T_places N T_olders N T_withins T_newest S_count S_premises S_premiseCounts S_conclusions od im (nI l) tr E_goals E_marks E_looked E_underway E_met E_takenHere = some (1, T_count, T_newest, r, nI l, nI (t + 1), upd E_looked l (nI (i + 1)), E_underway, E_met, E_takenHere) := by
    intro r im' h1 h2
    unfold f_E_looks
    rw [gd_t (ixb_t hl (by omega)), nI_clamp (by omega), ho, bd_s, if_neg (nI_nm1 (by omega)), if_pos htl, nmE, gd_t (ixb_t hl (by omega)), gd_t (ixb_t hl (by omega)), nmE, h1, bd_s, hlk, htr, nI_1, nI_1]
    rcases h2 with ⟨e1, e2, e3⟩ | ⟨e1, e2⟩
    · rw [if_pos (by rw [e1]; rfl), sconcl_eq S hs, bd_s, gd_t (ixb_t hl (by omega)), hg, e2, bd_s, if_pos rfl, e3]
    · rw [if_neg (show ¬ nI c = (0 : Int32) from fun e => e1 (nI_inj (by omega) (by omega) (e : nI c = nI 0))), e2]
  by_cases c0 : c = 0
  · rcases matches_eq w ct false (S.2.2.2 s hs).1.2.2.1 h100 hgn im with ⟨im', σ, a1, a2, -⟩ | ⟨im', a1, -⟩
    · exact absurd a2 (hno (o3.mp c0) σ)
    · rw [show bitsOf false = (273804165120 : Int64) from rfl] at a1
      rw [hL im' im' o1 (Or.inl ⟨c0, a1, rfl⟩), bd_s]
      exact ⟨im', rfl⟩
  · rw [hL im im o1 (Or.inr ⟨c0, rfl⟩), bd_s]
    exact ⟨im, rfl⟩
theorem st_yes (w : WF tt n ar) (ct : CT tt n N sz T_count T_heads T_places T_olders T_sizes T_withins T_newest) (S : RS tt n m cc pc pp S_count S_premises S_premiseCounts S_conclusions Q_statements Q_premises Q_counts Q_conclusions) (hx : x < 1000000) (hl : l < 100) (hu : E_underway l = -1) {i : Nat} (hlk : E_looked l = nI i) (hi : i < m) {s t : Nat} (hod : od i = nI s) (hs : s < m) (htr : tr = nI t) (ht : t < 1000) {g : Nat} (hg : E_goals l = nI g) (hgn : g < n) (h100 : cc s < 100)
    (ho : opn tt cc pc pp s) {σ : Nat → Option Tm} (hσ : Mt false σ (tt (cc s)) (tt g)) :
    ∃ im', LE S_count S_premises S_premiseCounts S_conclusions od kk n0 (f + 1) T_count T_heads T_places T_olders T_sizes T_withins T_newest N im path (nI l) tr tk fi E_goals E_marks E_looked E_underway E_met E_takenHere (nI x) = LE S_count S_premises S_premiseCounts S_conclusions od kk n0 f T_count T_heads T_places T_olders T_sizes T_withins T_newest N im' path (nI l) (nI (t + 1)) tk fi E_goals E_marks (upd E_looked l (nI (i + 1))) (upd E_underway l (nI s)) (upd E_met l 0) (upd E_takenHere l 1) (nI (x + 1)) := by
  have hm := S.2.2.1
  rw [LE_u hx hl, if_pos hu]
  have hor : f_S_ordered S_count od (E_looked l) = some (nI s) := by
    unfold f_S_ordered
    rw [hlk, S.1, if_neg (nI_pos (by omega)), if_neg (nI_ge hi (by omega)), gd_t (ixb_t (by omega) (by omega)), nI_clamp (by omega), hod]
  have htl : tr < (1000 : Int32) := by rw [htr]; exact (nI_lt ht (by omega) : _ < nI 1000)
  obtain ⟨c, o1, o2, o3⟩ := copen_eq ct S hs
  have c0 : c = 0 := o3.mpr ho
  rcases matches_eq w ct false (S.2.2.2 s hs).1.2.2.1 h100 hgn im with ⟨im', τ, a1, a2, -⟩ | ⟨im', a1, a2⟩
  · rw [show bitsOf false = (273804165120 : Int64) from rfl] at a1
    have hL : f_E_looks T_count N T_heads (3*N) T_places N T_olders N T_withins T_newest S_count S_premises S_premiseCounts S_conclusions od im (nI l) tr E_goals E_marks E_looked E_underway E_met E_takenHere = some (1, T_count, T_newest, im', nI l, nI (t + 1), upd E_looked l (nI (i + 1)), upd E_underway l (nI s), upd E_met l 0, upd E_takenHere l 1) := by
      unfold f_E_looks
      rw [gd_t (ixb_t hl (by omega)), nI_clamp (by omega), hor, bd_s, if_neg (nI_nm1 (by omega)), if_pos htl, nmE, gd_t (ixb_t hl (by omega)), gd_t (ixb_t hl (by omega)), nmE, o1, bd_s, hlk, htr, nI_1, nI_1]
      rw [if_pos (by rw [c0]; rfl), sconcl_eq S hs, bd_s, gd_t (ixb_t hl (by omega)), hg, a1, bd_s, if_neg (show ¬ (1 : Int32) = 0 by decide), gd_t (ixb_t hl (by omega)), nmE, gd_t (ixb_t hl (by omega)), nmE, gd_t (ixb_t hl (by omega)), nmE]
    rw [hL, bd_s]
    exact ⟨im', rfl⟩
  · exact absurd hσ (a2 σ)
theorem matches_at (ct : CT tt n N sz T_count T_heads T_places T_olders T_sizes T_withins T_newest) (w : WF tt n ar) (fh : Bool) {p t : Nat} (hp : p < n) (hp100 : p < 100) (ht : t < n) {M_images im : Nat → Int32} (h : f_M_matches T_count N T_heads (3*N) T_places N T_withins M_images (nI p) (nI t) (bitsOf fh) = some (1, im)) : im p = nI t := by
  have hN := ct.2.2.2.1
  have hnN := ct.2.1
  obtain ⟨g, hg, eg, -, -⟩ := w.2.1 p hp
  obtain ⟨g', hg', eg', -, -⟩ := w.2.1 t ht
  have main : f_M_matches_B32 T_count N T_heads (3*N) T_places N T_withins M_images (nI p) (nI t) (bitsOf fh) = some (1, im) → im p = nI t := by
    intro h
    obtain ⟨A, hf, hA⟩ := fill_eq M_images
    have hA1 : ivA n (upd A p (nI t)) := by
      intro x hx
      by_cases e : x = p
      · rw [e, up_s]; exact Or.inr ⟨hp, t, ht, rfl⟩
      · rw [up_n e]; exact Or.inl (hA x hx)
    obtain ⟨im', h2⟩ := settle_loop (fh := fh) w ct 100 (by omega) FU (by unfold FU; omega) _ hA1
    rw [show (nI 100 - 1 : Int32) = 99 by decide] at h2
    unfold f_M_matches_B32 f_M_settle at h
    rw [hf, bd_s, pair_new hp100 (by omega) (hA p hp100), bd_s] at h
    simp only [show ¬ ((1 : Int32) = 0) by decide, if_false] at h
    rcases h2 with ⟨a1, a2, a3, -⟩ | ⟨a1, -⟩
    · rw [a1, bd_s] at h
      simp only [show ¬ ((1 : Int32) = 0) by decide, if_false] at h
      have e : im' = im := (Prod.mk.inj (Option.some.inj h)).2
      rw [← e, a3 p (by rw [up_s]; exact nI_nm1 (by omega)), up_s]
    · rw [a1, bd_s] at h
      simp only [if_true] at h
      exact absurd (Prod.mk.inj (Option.some.inj h)).1 (by decide)
  unfold f_M_matches at h
  rw [head_t ct hp eg, bd_s] at h
  by_cases c : 30 ≤ g
  · rw [if_pos (show (30 : Int32) ≤ nI g from ((nI_leI (by omega) (by omega)).mpr c : nI 30 ≤ _))] at h
    exact main h
  · rw [if_neg (show ¬ (30 : Int32) ≤ nI g from (nI_ge (by omega) (by omega) : ¬ nI 30 ≤ _)), head_t ct ht eg', bd_s] at h
    by_cases e : g = g'
    · rw [if_pos (by rw [e])] at h
      exact main h
    · rw [if_neg (fun e2 => e (nI_inj (by omega) (by omega) e2))] at h
      exact absurd (Prod.mk.inj (Option.some.inj h)).1 (by decide)
theorem cnt_lt {P : Nat → Bool} {y : Nat} : ∀ k, y < k → P y = false → cnt P k + 1 ≤ k := by
  intro k
  induction k with
  | zero => intro h; omega
  | succ k ih =>
    intro h h2
    rw [cnt_succ]
    by_cases e : y = k
    · rw [← e, h2, if_neg (by decide)]
      have := cnt_le P y
      omega
    · have := ih (by omega) h2
      split <;> omega
theorem cn_lt {im : Nat → Int32} {y : Nat} (hy : y < 100) (h : im y ≠ -1) : cn im ≤ 99 := by
  have := cnt_lt (P := fun x => decide (im x = -1)) 100 hy (decide_eq_false h)
  unfold cn
  omega
theorem st_succ (ct : CT tt n N sz T_count T_heads T_places T_olders T_sizes T_withins T_newest) (S : RS tt n m cc pc pp S_count S_premises S_premiseCounts S_conclusions Q_statements Q_premises Q_counts Q_conclusions) (hx : x < 1000000) (hl : l < 100) {s : Nat} (hs : s < m) (hu : E_underway l = nI s) (hmt : E_met l = nI (pc s)) {mk : Nat} (hmk : E_marks l = nI mk) (hmn : mk ≤ n) :
    ∃ T_newest' tk' fi' E_met' E_takenHere', LE S_count S_premises S_premiseCounts S_conclusions od kk n0 (f + 1) T_count T_heads T_places T_olders T_sizes T_withins T_newest N im path (nI l) tr tk fi E_goals E_marks E_looked E_underway E_met E_takenHere (nI x) = LE S_count S_premises S_premiseCounts S_conclusions od kk n0 f (nI mk) T_heads T_places T_olders T_sizes T_withins T_newest' N im path (nI l - 1) tr tk' fi' E_goals E_marks E_looked E_underway E_met' E_takenHere' (nI (x + 1)) ∧
      CT tt mk N sz (nI mk) T_heads T_places T_olders T_sizes T_withins T_newest' ∧ (l = 0 → tk' = E_takenHere 0 ∧ fi' = nI s) ∧ (∀ j, l = j + 1 → tk' = tk ∧ fi' = fi ∧ E_met' j = E_met j + 1 ∧ E_takenHere' j = E_takenHere j + E_takenHere l) ∧ (∀ j, j + 1 < l → E_met' j = E_met j ∧ E_takenHere' j = E_takenHere j) := by
  have hm := S.2.2.1
  have h4 := (S.2.2.2 s hs).2.1.2.2
  obtain ⟨nw, k1, k2⟩ := keep_eq ct hmn
  rw [LE_u hx hl, if_neg (by rw [hu]; exact nI_nm1 (by omega)), hu, spremises_eq S hs, bd_s, hmt, if_neg (show ¬ nI (pc s) < nI (pc s) from nI_nlt (by omega) (by omega))]
  unfold f_E_succeed
  rw [gd_t (ixb_t hl (by omega)), nI_clamp (by omega), nmE, gd_t (ixb_t hl (by omega)), hmk, k1, bd_s, nmE]
  cases l with
  | zero =>
    rw [if_pos (show nI 0 - 1 < (0 : Int32) by decide), bd_s]
    exact ⟨nw, E_takenHere 0, nI s, E_met, E_takenHere, rfl, k2, fun _ => ⟨rfl, rfl⟩, fun j hj => by omega, fun j hj => by omega⟩
  | succ l =>
    rw [nI_pred, if_neg (nI_pos (by omega)), gd_t (ixb_t (by omega) (by omega)), gd_t (ixb_t (by omega) (by omega)), nmE, gd_t (ixb_t (by omega) (by omega)), gd_t (ixb_t (by omega) (by omega)), nmE, nI_clamp (by omega), bd_s]
    refine ⟨nw, tk, fi, upd E_met l (E_met l + 1), upd E_takenHere l (E_takenHere l + E_takenHere (l + 1)), rfl, k2, fun h => by omega, fun j hj => ?_, fun j hj => ?_⟩
    · have e : l = j := by omega
      subst e
      exact ⟨rfl, rfl, up_s _ _ _, up_s _ _ _⟩
    · exact ⟨up_n (by omega), up_n (by omega)⟩
theorem st_out (ct : CT tt n N sz T_count T_heads T_places T_olders T_sizes T_withins T_newest) (S : RS tt n m cc pc pp S_count S_premises S_premiseCounts S_conclusions Q_statements Q_premises Q_counts Q_conclusions) (hx : x < 1000000) (hl : l < 100) (hk : kk ≤ l + 1) {s j : Nat} (hs : s < m) (hu : E_underway l = nI s) (hmt : E_met l = nI j) (hj : j < pc s) :
    LE S_count S_premises S_premiseCounts S_conclusions od kk n0 (f + 1) T_count T_heads T_places T_olders T_sizes T_withins T_newest N im path (nI l) tr tk fi E_goals E_marks E_looked E_underway E_met E_takenHere (nI x) = LE S_count S_premises S_premiseCounts S_conclusions od kk n0 f T_count T_heads T_places T_olders T_sizes T_withins T_newest N im path (nI l) tr tk fi E_goals E_marks E_looked (upd E_underway l (-1)) E_met E_takenHere (nI (x + 1)) := by
  have hm := S.2.2.1
  have h4 := (S.2.2.2 s hs).2.1.2.2
  rw [LE_u hx hl, if_neg (by rw [hu]; exact nI_nm1 (by omega)), hu, spremises_eq S hs, bd_s, hmt, if_pos (nI_lt hj (by omega))]
  unfold f_E_enterNewGoal f_T_count f_E_enterNewGoal_B116
  rw [bd_s, nI_1, if_pos ((nI_leI (by omega) (by omega)).mpr hk), if_pos rfl, gd_t (ixb_t hl (by omega)), nmE, nI_clamp (by omega), bd_s]
  rfl
theorem st_in (w : WF tt n ar) (ct : CT tt n N sz T_count T_heads T_places T_olders T_sizes T_withins T_newest) (S : RS tt n m cc pc pp S_count S_premises S_premiseCounts S_conclusions Q_statements Q_premises Q_counts Q_conclusions) (hx : x < 1000000) (hk : l + 1 < kk) (hk100 : kk ≤ 100) (hn : n ≤ 9900) {s j g : Nat} (hs : s < m) (hu : E_underway l = nI s) (hmt : E_met l = nI j) (hj : j < pc s) (hg : E_goals l = nI g) (hgn : g < n) (hc100 : cc s < 100) (hp100 : pp s j < 100) {σ : Nat → Option Tm} (hσ : Mt false σ (tt (cc s)) (tt g)) :
    ∃ (tt' : Nat → Tm) (n' N' : Nat) (sz' : Nat → Nat) (T_count' : Int32) (T_heads' T_places' T_olders' T_sizes' : Nat → Int32) (T_withins' : Nat → Int64) (T_newest' im' path' : Nat → Int32) (u : Nat), LE S_count S_premises S_premiseCounts S_conclusions od kk n0 (f + 1) T_count T_heads T_places T_olders T_sizes T_withins T_newest N im path (nI l) tr tk fi E_goals E_marks E_looked E_underway E_met E_takenHere (nI x) = LE S_count S_premises S_premiseCounts S_conclusions od kk n0 f T_count' T_heads' T_places' T_olders' T_sizes' T_withins' T_newest' N' im' path' (nI (l + 1)) tr tk fi (upd E_goals (l + 1) (nI u)) (upd E_marks (l + 1) (nI n)) (upd E_looked (l + 1) 0) (upd E_underway (l + 1) (-1)) E_met E_takenHere (nI (x + 1)) ∧
      WF tt' n' ar ∧ CT tt' n' N' sz' T_count' T_heads' T_places' T_olders' T_sizes' T_withins' T_newest' ∧ n ≤ n' ∧ n' ≤ n + 100 ∧ (∀ v, v < n → tt' v = tt v) ∧ u < n' ∧ tt' u = sub σ (tt (pp s j)) ∧ N ≤ N' ∧ (∀ v, v < n → sz' v = sz v) := by
  have hm := S.2.2.1
  have h4 := (S.2.2.2 s hs).2.1.2.2
  have hcc := (S.2.2.2 s hs).1.2.2.1
  have hpn := ((S.2.2.2 s hs).2.2 j hj).2.2.1
  obtain ⟨N', a1, a2, a3, a4, a5, r1, ct', r2, r3⟩ := room_eq ct hn
  rcases matches_eq w ct' false hcc hc100 hgn im with ⟨im1, τ, d1, d2, d3⟩ | ⟨im1, d1, d2⟩
  case inr => exact absurd hσ (d2 σ)
  have hat := matches_at ct' w false hcc hc100 hgn d1
  have hτ : τ = σ := Mt_uni w hcc d2 hσ
  subst hτ
  obtain ⟨i1, i2⟩ := img_imS (sz := sz) d2 d3
  obtain ⟨i3, i4⟩ := mt_in w hcc hc100 d2 d3
  obtain ⟨F, hF⟩ : ∃ F, insT 10000 τ (pp s j + 1) (tt (pp s j)) (tt, n, sz, true) = F := ⟨_, rfl⟩
  obtain ⟨r, t1, t2, t3, t4, t5, t6, t7, im2, path2, x1, x2, x3, x4, x5, x6⟩ := cinst w ct' i3 i4 hpn hp100 (most := 10000) (by omega) (Or.inr r2) i1 i2 path hF
  have hcn : cn im1 ≤ 99 := cn_lt hc100 (by rw [hat]; exact nI_nm1 (by have := ct'.2.1; have := ct'.2.2.2.1; omega))
  have hok : F.2.2.2 = true := by
    cases e : F.2.2.2 with
    | true => rfl
    | false =>
      have := fail_ins (most := 10000) (σ := τ) (pp s j + 1) (tt (pp s j)) (tt, n, sz, true) rfl (by rw [hF]; exact e)
      rw [hF] at this
      omega
  rcases x6 with ⟨-, e⟩ | ⟨-, u, hu2, e1, e2⟩
  · rw [hok] at e; exact absurd e (by decide)
  have hu31 : u < 2 ^ 31 := by omega
  refine ⟨F.1, F.2.1, N', F.2.2.1, t1, t2, t3, t4, t5, t6, t7, im2, path2, u, ?_, x2, x3, x4.1, by omega, x4.2.1, hu2, e2, r3, fun v hv => by rw [← hF]; exact sz_ins _ _ _ v hv⟩
  rw [LE_u hx (by omega), if_neg (by rw [hu]; exact nI_nm1 (by omega)), hu, spremises_eq S hs, bd_s, hmt, if_pos (nI_lt hj (by omega))]
  have hNE : f_E_enterNewGoal T_count N T_heads (3*N) T_places N T_olders N T_sizes N T_withins T_newest S_count S_premises S_premiseCounts S_conclusions im path (nI l) (nI kk) E_goals E_marks E_looked E_underway E_met (nI s) = some (t1, N', t2, 3*N', t3, N', t4, N', t5, N', t6, t7, im2, path2, nI (l + 1), upd E_goals (l + 1) (nI u), upd E_marks (l + 1) (nI n), upd E_looked (l + 1) 0, upd E_underway (l + 1) (-1)) := by
    unfold f_E_enterNewGoal f_T_count
    rw [bd_s, nI_1, if_neg (nI_ge hk (by omega)), r1, bd_s, sconcl_eq S hs, bd_s, gd_t (ixb_t (by omega) (by omega)), nI_clamp (by omega), hg, show (273804165120 : Int64) = bitsOf false from rfl]
    simp only []
    rw [d1, bd_s, gd_t (ixb_t (by omega) (by omega)), hmt, spremise_eq S hs hj, bd_s]
    rw [show nI 10000 = (10000 : Int32) from rfl] at x1
    rw [x1, bd_s, e1, if_neg (nI_nm1 hu31)]
    unfold f_E_enter
    rw [nI_1, if_neg (nI_ge hk (by omega)), if_pos (show nI (l + 1) < (100 : Int32) from (nI_lt (by omega) (by omega) : _ < nI 100)), nmE, gd_t (ixb_t (by omega) (by omega)), nmE, gd_t (ixb_t (by omega) (by omega)), nmE, gd_t (ixb_t (by omega) (by omega)), nmE, gd_t (ixb_t (by omega) (by omega)), nmE, bd_s, nI_clamp (by omega), if_neg (show ¬ (1 : Int32) = 0 by decide), ct.1]
    unfold f_E_enterNewGoal_B116
    rw [if_neg (show ¬ (1 : Int32) = 0 by decide)]
  rw [hNE, bd_s]
  rfl
end
