/-- class and reference hold how many places each name has -/
def RA (ar X_arities Q_places : Nat → Int32) (X_namesUsed : Int32) : Prop :=
  (∀ h, h < 30 → X_arities h = ar h ∧ Q_places h = ar h ∧ (ar h = -1 ∨ ∃ m, m ≤ 3 ∧ ar h = nI m)) ∧ X_namesUsed = nI (cnt (fun h => decide (ar h ≠ -1)) 30)
def qf (p1 p2 p3 p4 : Int32) (i : Nat) : Int32 := if i = 0 then p1 else if i = 1 then p2 else if i = 2 then p3 else p4
theorem lt_lit {a b : Nat} (ha : a < 2 ^ 31) (hb : b < 2 ^ 31) : (nI a < nI b) = (a < b) := propext (nI_ltI ha hb)
theorem le_lit {a b : Nat} (ha : a < 2 ^ 31) (hb : b < 2 ^ 31) : (nI a ≤ nI b) = (a ≤ b) := propext (nI_leI ha hb)
section
variable {tt : Nat → Tm} {n N : Nat} {ar : Nat → Int32} {sz : Nat → Nat} {T_count : Int32} {T_heads T_places T_olders T_sizes : Nat → Int32} {T_withins : Nat → Int64} {T_newest : Nat → Int32} {Q_all Q_thrown : Int32} {Q_kinds Q_which Q_firsts Q_seconds Q_thirds Q_nexts Q_heads Q_names Q_variables Q_holes Q_sizes Q_places X_arities : Nat → Int32} {X_namesUsed : Int32} {O_out : Nat → Int64}
theorem has_em (hn : n < 2 ^ 31) (x : Int32) : (∃ t, t < n ∧ x = nI t ∧ f_T_has (nI n) x = some 1) ∨ ((∀ t, t < n → x ≠ nI t) ∧ f_T_has (nI n) x = some 0) := by
  by_cases c : ∃ t, t < n ∧ x = nI t
  · obtain ⟨t, ht, e⟩ := c
    exact Or.inl ⟨t, ht, e, by rw [e]; exact has_t ht hn⟩
  · have : ∀ t, t < n → x ≠ nI t := fun t ht e => c ⟨t, ht, e⟩
    exact Or.inr ⟨this, has_f hn this⟩
theorem isTerm_has (a x : Int32) : f_Q_isTerm a x = f_T_has a x := rfl
/-- the first m of four are terms, or not -/
theorem areT_eq (hn : n < 2 ^ 31) (p1 p2 p3 p4 : Int32) {m : Nat} (hm : m ≤ 4) :
    (f_X_areTerms (nI n) (nI m) p1 p2 p3 p4 = some 1 ∧ ∀ i, i < m → ∃ t, t < n ∧ qf p1 p2 p3 p4 i = nI t) ∨ (f_X_areTerms (nI n) (nI m) p1 p2 p3 p4 = some 0 ∧ ∃ i, i < m ∧ ∀ t, t < n → qf p1 p2 p3 p4 i ≠ nI t) := by
  have l1 : (nI m < (1 : Int32)) = (m < 1) := lt_lit (b := 1) (by omega) (by omega)
  have l2 : (nI m < (2 : Int32)) = (m < 2) := lt_lit (b := 2) (by omega) (by omega)
  have l3 : (nI m < (3 : Int32)) = (m < 3) := lt_lit (b := 3) (by omega) (by omega)
  have l4 : (nI m < (4 : Int32)) = (m < 4) := lt_lit (b := 4) (by omega) (by omega)
  unfold f_X_areTerms f_X_areTerms_B16 f_X_areTerms_B32 f_X_areTerms_B49
  simp only [l1, l2, l3, l4]
  by_cases c1 : m < 1
  · rw [if_pos c1, if_pos (by omega), if_pos (by omega), if_pos (by omega)]
    exact Or.inl ⟨rfl, fun i hi => by omega⟩
  rw [if_neg c1]
  rcases has_em hn p1 with ⟨t1, h1, e1, g1⟩ | ⟨h1, g1⟩
  case inr => rw [g1, bd_s, if_pos rfl]; exact Or.inr ⟨rfl, 0, by omega, h1⟩
  rw [g1, bd_s, if_neg (by decide)]
  by_cases c2 : m < 2
  · rw [if_pos c2, if_pos (by omega), if_pos (by omega)]
    exact Or.inl ⟨rfl, fun i hi => ⟨t1, h1, by rw [show i = 0 by omega]; exact e1⟩⟩
  rw [if_neg c2]
  rcases has_em hn p2 with ⟨t2, h2, e2, g2⟩ | ⟨h2, g2⟩
  case inr => rw [g2, bd_s, if_pos rfl]; exact Or.inr ⟨rfl, 1, by omega, h2⟩
  rw [g2, bd_s, if_neg (by decide)]
  by_cases c3 : m < 3
  · rw [if_pos c3, if_pos (by omega)]
    refine Or.inl ⟨rfl, fun i hi => ?_⟩
    rcases (show i = 0 ∨ i = 1 by omega) with e | e <;> rw [e]
    · exact ⟨t1, h1, e1⟩
    · exact ⟨t2, h2, e2⟩
  rw [if_neg c3]
  rcases has_em hn p3 with ⟨t3, h3, e3, g3⟩ | ⟨h3, g3⟩
  case inr => rw [g3, bd_s, if_pos rfl]; exact Or.inr ⟨rfl, 2, by omega, h3⟩
  rw [g3, bd_s, if_neg (by decide)]
  by_cases c4 : m < 4
  · rw [if_pos c4]
    refine Or.inl ⟨rfl, fun i hi => ?_⟩
    rcases (show i = 0 ∨ i = 1 ∨ i = 2 by omega) with e | e | e <;> rw [e]
    · exact ⟨t1, h1, e1⟩
    · exact ⟨t2, h2, e2⟩
    · exact ⟨t3, h3, e3⟩
  rw [if_neg c4]
  rcases has_em hn p4 with ⟨t4, h4, e4, g4⟩ | ⟨h4, g4⟩
  case inr => rw [g4, bd_s, if_pos rfl]; exact Or.inr ⟨rfl, 3, by omega, h4⟩
  rw [g4, bd_s, if_neg (by decide)]
  refine Or.inl ⟨rfl, fun i hi => ?_⟩
  rcases (show i = 0 ∨ i = 1 ∨ i = 2 ∨ i = 3 by omega) with e | e | e | e <;> rw [e]
  · exact ⟨t1, h1, e1⟩
  · exact ⟨t2, h2, e2⟩
  · exact ⟨t3, h3, e3⟩
  · exact ⟨t4, h4, e4⟩
theorem lead_eq (p1 p2 p3 p4 : Int32) : ∃ m, m ≤ 4 ∧ f_X_leading p1 p2 p3 p4 = some (nI m) ∧ (∀ i, i < m → qf p1 p2 p3 p4 i ≠ -1) ∧ (m < 4 → qf p1 p2 p3 p4 m = -1) := by
  unfold f_X_leading
  by_cases c1 : p1 = -1
  · exact ⟨0, by omega, by rw [if_pos c1]; rfl, fun i hi => by omega, fun _ => c1⟩
  by_cases c2 : p2 = -1
  · refine ⟨1, by omega, by rw [if_neg c1, if_pos c2]; rfl, fun i hi => ?_, fun _ => c2⟩
    rw [show i = 0 by omega]; exact c1
  by_cases c3 : p3 = -1
  · refine ⟨2, by omega, by rw [if_neg c1, if_neg c2, if_pos c3]; rfl, fun i hi => ?_, fun _ => c3⟩
    rcases (show i = 0 ∨ i = 1 by omega) with e | e <;> rw [e]
    · exact c1
    · exact c2
  by_cases c4 : p4 = -1
  · refine ⟨3, by omega, by rw [if_neg c1, if_neg c2, if_neg c3, if_pos c4]; rfl, fun i hi => ?_, fun _ => c4⟩
    rcases (show i = 0 ∨ i = 1 ∨ i = 2 by omega) with e | e | e <;> rw [e]
    · exact c1
    · exact c2
    · exact c3
  · refine ⟨4, by omega, by rw [if_neg c1, if_neg c2, if_neg c3, if_neg c4]; rfl, fun i hi => ?_, fun h => by omega⟩
    rcases (show i = 0 ∨ i = 1 ∨ i = 2 ∨ i = 3 by omega) with e | e | e | e <;> rw [e]
    · exact c1
    · exact c2
    · exact c3
    · exact c4
theorem WF.arity {ar' : Nat → Int32} (w : WF tt n ar) (h : ∀ t g, t < n → tt t [] = g + 1 → g < 30 → ar' g = ar g) : WF tt n ar' := by
  refine ⟨w.1, fun t ht => ?_, w.2.2⟩
  obtain ⟨g, h1, h2, h3, h4⟩ := w.2.1 t ht
  refine ⟨g, h1, h2, h3, fun hg => ?_⟩
  obtain ⟨m, m1, m2, m3⟩ := h4 hg
  exact ⟨m, m1, by rw [h t g ht h2 hg]; exact m2, m3⟩
/-- the reference comes to the same test of its terms -/
theorem qname_test (hn : n < 2 ^ 31) (hall : Q_all = nI n) (p0 p1 p2 p3 : Int32) {m : Nat} (hm : m ≤ 3) (hl : f_X_leading p1 p2 p3 (-1) = some (nI m)) (h0 : ¬ p0 < 0) (h30 : ¬ (30 : Int32) ≤ p0) {z : Int32} (ha : f_X_areTerms (nI n) (nI m) p1 p2 p3 (-1) = some z) :
    f_Q_name Q_thrown Q_all Q_kinds Q_which Q_firsts Q_seconds Q_thirds Q_nexts Q_heads Q_names Q_variables Q_holes Q_sizes Q_places p0 p1 p2 p3 = f_Q_name_B89 Q_thrown Q_all Q_kinds Q_which Q_firsts Q_seconds Q_thirds Q_nexts Q_heads Q_names Q_variables Q_holes Q_sizes Q_places p0 p1 p2 p3 (nI m) z := by
  have hB : f_Q_name Q_thrown Q_all Q_kinds Q_which Q_firsts Q_seconds Q_thirds Q_nexts Q_heads Q_names Q_variables Q_holes Q_sizes Q_places p0 p1 p2 p3 = f_Q_name_B29 Q_thrown Q_all Q_kinds Q_which Q_firsts Q_seconds Q_thirds Q_nexts Q_heads Q_names Q_variables Q_holes Q_sizes Q_places p0 p1 p2 p3 (nI m) := by
    unfold f_X_leading at hl
    unfold f_Q_name
    by_cases c1 : p1 = -1
    · rw [if_pos c1] at hl ⊢; rw [Option.some.inj hl]
    · rw [if_neg c1] at hl ⊢
      by_cases c2 : p2 = -1
      · rw [if_pos c2] at hl ⊢; rw [Option.some.inj hl]
      · rw [if_neg c2] at hl ⊢
        by_cases c3 : p3 = -1
        · rw [if_pos c3] at hl ⊢; rw [Option.some.inj hl]
        · rw [if_neg c3, if_pos rfl] at hl
          rw [if_neg c3, Option.some.inj hl]
  rw [hB]
  have l1 : (nI m < (1 : Int32)) = (m < 1) := lt_lit (b := 1) (by omega) (by omega)
  have l2 : (nI m < (2 : Int32)) = (m < 2) := lt_lit (b := 2) (by omega) (by omega)
  have l3 : (nI m < (3 : Int32)) = (m < 3) := lt_lit (b := 3) (by omega) (by omega)
  have l4 : (nI m < (4 : Int32)) = (m < 4) := lt_lit (b := 4) (by omega) (by omega)
  unfold f_X_areTerms f_X_areTerms_B16 f_X_areTerms_B32 f_X_areTerms_B49 at ha
  simp only [l1, l2, l3, l4, if_pos (show m < 4 by omega)] at ha
  unfold f_Q_name_B29 f_Q_name_B55 f_Q_name_B69
  rw [if_neg h0, if_neg h30, hall]
  simp only [l1, l2, l3, isTerm_has]
  by_cases c1 : m < 1
  · rw [if_pos c1, if_pos (by omega), if_pos (by omega)] at ha ⊢
    rw [Option.some.inj ha]
  rw [if_neg c1] at ha ⊢
  rcases has_em hn p1 with ⟨t1, h1, e1, g1⟩ | ⟨h1, g1⟩
  case inr => rw [g1, bd_s, if_pos rfl] at ha ⊢; rw [Option.some.inj ha]
  rw [g1, bd_s, if_neg (by decide)] at ha ⊢
  by_cases c2 : m < 2
  · rw [if_pos c2, if_pos (by omega)] at ha ⊢
    rw [Option.some.inj ha]
  rw [if_neg c2] at ha ⊢
  rcases has_em hn p2 with ⟨t2, h2, e2, g2⟩ | ⟨h2, g2⟩
  case inr => rw [g2, bd_s, if_pos rfl] at ha ⊢; rw [Option.some.inj ha]
  rw [g2, bd_s, if_neg (by decide)] at ha ⊢
  by_cases c3 : m < 3
  · rw [if_pos c3] at ha ⊢
    rw [Option.some.inj ha]
  rw [if_neg c3] at ha ⊢
  rcases has_em hn p3 with ⟨t3, h3, e3, g3⟩ | ⟨h3, g3⟩
  case inr => rw [g3, bd_s, if_pos rfl] at ha ⊢; rw [Option.some.inj ha]
  rw [g3, bd_s, if_neg (by decide)] at ha ⊢
  rw [Option.some.inj ha]
theorem both_name (R : RT tt n N sz ar T_count T_heads T_places T_olders T_sizes T_withins T_newest Q_all Q_kinds Q_which Q_firsts Q_seconds Q_thirds Q_nexts Q_heads Q_names Q_variables Q_holes Q_sizes) (A : RA ar X_arities Q_places X_namesUsed) (p0 p1 p2 p3 : Int32) :
    ∃ (k b : Int32) (tt' : Nat → Tm) (n' : Nat) (sz' : Nat → Nat) (ar' : Nat → Int32) (T_count' : Int32) (T_heads' T_places' T_olders' T_sizes' : Nat → Int32) (T_withins' : Nat → Int64) (T_newest' : Nat → Int32) (Q_all' : Int32) (Q_kinds' Q_which' Q_firsts' Q_seconds' Q_thirds' Q_nexts' Q_heads' Q_names' Q_variables' Q_holes' Q_sizes' : Nat → Int32) (X_namesUsed' : Int32) (X_arities' Q_places' : Nat → Int32) (O_out' : Nat → Int64),
      f_L_name X_namesUsed X_arities T_count N T_heads (3*N) T_places N T_olders N T_sizes N T_withins T_newest O_out p0 p1 p2 p3 = some (k, X_namesUsed', X_arities', T_count', T_heads', T_places', T_olders', T_sizes', T_withins', T_newest', O_out') ∧ f_Q_name Q_thrown Q_all Q_kinds Q_which Q_firsts Q_seconds Q_thirds Q_nexts Q_heads Q_names Q_variables Q_holes Q_sizes Q_places p0 p1 p2 p3 = some (b, k, Q_all', Q_kinds', Q_which', Q_firsts', Q_seconds', Q_thirds', Q_nexts', Q_heads', Q_names', Q_variables', Q_holes', Q_sizes', Q_places') ∧ RT tt' n' N sz' ar' T_count' T_heads' T_places' T_olders' T_sizes' T_withins' T_newest' Q_all' Q_kinds' Q_which' Q_firsts' Q_seconds' Q_thirds' Q_nexts' Q_heads' Q_names' Q_variables' Q_holes' Q_sizes' ∧ RA ar' X_arities' Q_places' X_namesUsed' ∧ (∀ u, u < n → tt' u = tt u) ∧ n ≤ n' ∧ (k = 0 → O_out' 0 = b.toInt64) := by
  have hn : n ≤ 100 := R.2.1
  have hcnt : T_count = nI n := R.2.2.1.1
  have hall : Q_all = nI n := R.2.2.2.1.1
  have rz : f_Q_refuses Q_thrown 0 = some (0, 0) := by unfold f_Q_refuses; rw [if_pos (by decide)]
  have r1 : f_Q_refuses Q_thrown 1 = some (1, 1) := by unfold f_Q_refuses; rw [if_neg (by decide)]
  have r2 : f_Q_refuses Q_thrown 2 = some (1, 2) := by unfold f_Q_refuses; rw [if_neg (by decide)]
  have hbad : ∀ k : Int32, k ≠ 0 → f_L_name X_namesUsed X_arities T_count N T_heads (3*N) T_places N T_olders N T_sizes N T_withins T_newest O_out p0 p1 p2 p3 = some (k, X_namesUsed, X_arities, T_count, T_heads, T_places, T_olders, T_sizes, T_withins, T_newest, O_out) → f_Q_name Q_thrown Q_all Q_kinds Q_which Q_firsts Q_seconds Q_thirds Q_nexts Q_heads Q_names Q_variables Q_holes Q_sizes Q_places p0 p1 p2 p3 = some (0, k, Q_all, Q_kinds, Q_which, Q_firsts, Q_seconds, Q_thirds, Q_nexts, Q_heads, Q_names, Q_variables, Q_holes, Q_sizes, Q_places) → ∃ (k b : Int32) (tt' : Nat → Tm) (n' : Nat) (sz' : Nat → Nat) (ar' : Nat → Int32) (T_count' : Int32) (T_heads' T_places' T_olders' T_sizes' : Nat → Int32) (T_withins' : Nat → Int64) (T_newest' : Nat → Int32) (Q_all' : Int32) (Q_kinds' Q_which' Q_firsts' Q_seconds' Q_thirds' Q_nexts' Q_heads' Q_names' Q_variables' Q_holes' Q_sizes' : Nat → Int32) (X_namesUsed' : Int32) (X_arities' Q_places' : Nat → Int32) (O_out' : Nat → Int64),
      f_L_name X_namesUsed X_arities T_count N T_heads (3*N) T_places N T_olders N T_sizes N T_withins T_newest O_out p0 p1 p2 p3 = some (k, X_namesUsed', X_arities', T_count', T_heads', T_places', T_olders', T_sizes', T_withins', T_newest', O_out') ∧ f_Q_name Q_thrown Q_all Q_kinds Q_which Q_firsts Q_seconds Q_thirds Q_nexts Q_heads Q_names Q_variables Q_holes Q_sizes Q_places p0 p1 p2 p3 = some (b, k, Q_all', Q_kinds', Q_which', Q_firsts', Q_seconds', Q_thirds', Q_nexts', Q_heads', Q_names', Q_variables', Q_holes', Q_sizes', Q_places') ∧ RT tt' n' N sz' ar' T_count' T_heads' T_places' T_olders' T_sizes' T_withins' T_newest' Q_all' Q_kinds' Q_which' Q_firsts' Q_seconds' Q_thirds' Q_nexts' Q_heads' Q_names' Q_variables' Q_holes' Q_sizes' ∧ RA ar' X_arities' Q_places' X_namesUsed' ∧ (∀ u, u < n → tt' u = tt u) ∧ n ≤ n' ∧ (k = 0 → O_out' 0 = b.toInt64) :=
    fun k hk h1 h2 => ⟨k, 0, tt, n, sz, ar, _, _, _, _, _, _, _, _, _, _, _, _, _, _, _, _, _, _, _, _, _, _, _, h1, h2, R, A, fun u _ => rfl, Nat.le_refl n, fun e => absurd e hk⟩
  obtain ⟨m, hm, hl, hq1, hq2⟩ := lead_eq p1 p2 p3 (-1)
  have hm3 : m ≤ 3 := Nat.le_of_not_lt (fun h => hq1 3 (by omega) rfl)
  by_cases c0 : p0 < 0
  · refine hbad 1 (by decide) ?_ ?_
    · unfold f_L_name f_X_name
      rw [hl, bd_s, if_pos c0, bd_s]
      rfl
    · have : ∀ s0, f_Q_name_B29 Q_thrown Q_all Q_kinds Q_which Q_firsts Q_seconds Q_thirds Q_nexts Q_heads Q_names Q_variables Q_holes Q_sizes Q_places p0 p1 p2 p3 s0 = some (0, 1, Q_all, Q_kinds, Q_which, Q_firsts, Q_seconds, Q_thirds, Q_nexts, Q_heads, Q_names, Q_variables, Q_holes, Q_sizes, Q_places) := by
        intro s0
        unfold f_Q_name_B29 f_Q_name_B89 f_Q_name_B127
        rw [if_pos c0, if_pos rfl, r1, bd_s, if_neg (by decide)]
      unfold f_Q_name
      simp only [this]
      split <;> (try rfl)
      split <;> (try rfl)
      split <;> rfl
  by_cases c30 : (30 : Int32) ≤ p0
  · refine hbad 1 (by decide) ?_ ?_
    · unfold f_L_name f_X_name
      rw [hl, bd_s, if_neg c0, if_pos c30, bd_s]
      rfl
    · have : ∀ s0, f_Q_name_B29 Q_thrown Q_all Q_kinds Q_which Q_firsts Q_seconds Q_thirds Q_nexts Q_heads Q_names Q_variables Q_holes Q_sizes Q_places p0 p1 p2 p3 s0 = some (0, 1, Q_all, Q_kinds, Q_which, Q_firsts, Q_seconds, Q_thirds, Q_nexts, Q_heads, Q_names, Q_variables, Q_holes, Q_sizes, Q_places) := by
        intro s0
        unfold f_Q_name_B29 f_Q_name_B89 f_Q_name_B127
        rw [if_neg c0, if_pos c30, if_pos rfl, r1, bd_s, if_neg (by decide)]
      unfold f_Q_name
      simp only [this]
      split <;> (try rfl)
      split <;> (try rfl)
      split <;> rfl
  obtain ⟨g, hgb, eg⟩ := nI_of c0
  have hg : g < 30 := Nat.lt_of_not_le (fun h => c30 (by rw [eg]; exact (show nI 30 ≤ nI g from (nI_leI (by omega) hgb).mpr h)))
  obtain ⟨ea1, ea2, ea3⟩ := A.1 g hg
  rcases areT_eq (n := n) (by omega) p1 p2 p3 (-1) hm with ⟨t1, t2⟩ | ⟨t1, t2⟩
  case inr =>
    have hQ := qname_test (Q_thrown := Q_thrown) (Q_kinds := Q_kinds) (Q_which := Q_which) (Q_firsts := Q_firsts) (Q_seconds := Q_seconds) (Q_thirds := Q_thirds) (Q_nexts := Q_nexts) (Q_heads := Q_heads) (Q_names := Q_names) (Q_variables := Q_variables) (Q_holes := Q_holes) (Q_sizes := Q_sizes) (Q_places := Q_places) (by omega) hall p0 p1 p2 p3 hm3 hl c0 c30 t1
    refine hbad 1 (by decide) ?_ ?_
    · unfold f_L_name f_X_name
      rw [hl, bd_s, if_neg c0, if_neg c30, hcnt, t1, bd_s, if_pos rfl, bd_s]
      rfl
    · rw [hQ]
      unfold f_Q_name_B89 f_Q_name_B127
      rw [if_pos rfl, r1, bd_s, if_neg (by decide)]
  have hQ := qname_test (Q_thrown := Q_thrown) (Q_kinds := Q_kinds) (Q_which := Q_which) (Q_firsts := Q_firsts) (Q_seconds := Q_seconds) (Q_thirds := Q_thirds) (Q_nexts := Q_nexts) (Q_heads := Q_heads) (Q_names := Q_names) (Q_variables := Q_variables) (Q_holes := Q_holes) (Q_sizes := Q_sizes) (Q_places := Q_places) (by omega) hall p0 p1 p2 p3 hm3 hl c0 c30 t1
  have hX : f_X_name X_namesUsed X_arities T_count N T_heads (3*N) T_places N T_olders N T_sizes N T_withins T_newest p0 p1 p2 p3 = if ar g = -1 then f_X_name_B75 N (3*N) N N N X_namesUsed X_arities T_count T_heads T_places T_olders T_sizes T_withins T_newest p0 p1 p2 p3 (nI m) else if ar g = nI m then f_X_name_B75 N (3*N) N N N X_namesUsed X_arities T_count T_heads T_places T_olders T_sizes T_withins T_newest p0 p1 p2 p3 (nI m) else some (2, 0, X_namesUsed, X_arities, T_count, T_heads, T_places, T_olders, T_sizes, T_withins, T_newest) := by
    unfold f_X_name
    rw [hl, bd_s, if_neg c0, if_neg c30, hcnt, t1, bd_s, if_neg (by decide), eg, gd_t (ixb_t hg (by omega)), gd_t (ixb_t hg (by omega)), nI_clamp (by omega), ea1]
  have hQ2 : f_Q_name Q_thrown Q_all Q_kinds Q_which Q_firsts Q_seconds Q_thirds Q_nexts Q_heads Q_names Q_variables Q_holes Q_sizes Q_places p0 p1 p2 p3 = if ar g = -1 then f_Q_name_B127 Q_thrown Q_all Q_kinds Q_which Q_firsts Q_seconds Q_thirds Q_nexts Q_heads Q_names Q_variables Q_holes Q_sizes Q_places p0 p1 p2 p3 (nI m) 0 else if ar g = nI m then f_Q_name_B127 Q_thrown Q_all Q_kinds Q_which Q_firsts Q_seconds Q_thirds Q_nexts Q_heads Q_names Q_variables Q_holes Q_sizes Q_places p0 p1 p2 p3 (nI m) 0 else f_Q_name_B127 Q_thrown Q_all Q_kinds Q_which Q_firsts Q_seconds Q_thirds Q_nexts Q_heads Q_names Q_variables Q_holes Q_sizes Q_places p0 p1 p2 p3 (nI m) 2 := by
    rw [hQ]
    unfold f_Q_name_B89
    rw [if_neg (by decide), eg, gd_t (ixb_t hg (by omega)), gd_t (ixb_t hg (by omega)), nI_clamp (by omega), ea2]
  by_cases cgood : ar g = -1 ∨ ar g = nI m
  case neg =>
    have n1 : ¬ ar g = -1 := fun h => cgood (Or.inl h)
    have n2 : ¬ ar g = nI m := fun h => cgood (Or.inr h)
    refine hbad 2 (by decide) ?_ ?_
    · unfold f_L_name
      rw [hX, if_neg n1, if_neg n2, bd_s]
      rfl
    · rw [hQ2, if_neg n1, if_neg n2]
      unfold f_Q_name_B127
      rw [r2, bd_s, if_neg (by decide)]
  have hX3 : f_X_name X_namesUsed X_arities T_count N T_heads (3*N) T_places N T_olders N T_sizes N T_withins T_newest p0 p1 p2 p3 = f_X_name_B75 N (3*N) N N N X_namesUsed X_arities T_count T_heads T_places T_olders T_sizes T_withins T_newest p0 p1 p2 p3 (nI m) := by
    rw [hX]
    rcases cgood with h | h
    · rw [if_pos h]
    · by_cases h2 : ar g = -1
      · rw [if_pos h2]
      · rw [if_neg h2, if_pos h]
  have hQ3 : f_Q_name Q_thrown Q_all Q_kinds Q_which Q_firsts Q_seconds Q_thirds Q_nexts Q_heads Q_names Q_variables Q_holes Q_sizes Q_places p0 p1 p2 p3 = f_Q_name_B127 Q_thrown Q_all Q_kinds Q_which Q_firsts Q_seconds Q_thirds Q_nexts Q_heads Q_names Q_variables Q_holes Q_sizes Q_places p0 p1 p2 p3 (nI m) 0 := by
    rw [hQ2]
    rcases cgood with h | h
    · rw [if_pos h]
    · by_cases h2 : ar g = -1
      · rw [if_pos h2]
      · rw [if_neg h2, if_pos h]
  obtain ⟨aa, haa⟩ : ∃ aa : Nat → Int32, aa = fun i => if i < m then qf p1 p2 p3 (-1) i else -1 := ⟨_, rfl⟩
  have hX4 : f_X_name_B75 N (3*N) N N N X_namesUsed X_arities T_count T_heads T_places T_olders T_sizes T_withins T_newest p0 p1 p2 p3 (nI m) = f_X_name_B100 N (3*N) N N N X_namesUsed X_arities T_count T_heads T_places T_olders T_sizes T_withins T_newest p0 (aa 0) (nI m) (aa 1) (aa 2) := by
    unfold f_X_name_B75 f_X_name_B86
    rcases (show m = 0 ∨ m = 1 ∨ m = 2 ∨ m = 3 by omega) with e | e | e | e
    · rw [e] at haa hq2 ⊢
      have e0 : p1 = -1 := hq2 (by omega)
      rw [if_pos (by decide), if_pos (by decide), haa, e0]
      rfl
    · rw [e] at haa ⊢
      rw [if_pos (by decide), if_pos (by decide), haa]
      rfl
    · rw [e] at haa ⊢
      rw [if_neg (by decide), if_pos (by decide), haa]
      rfl
    · rw [e] at haa ⊢
      rw [if_neg (by decide), if_neg (by decide), haa]
      rfl
  have hQ4 : f_Q_name_B127 Q_thrown Q_all Q_kinds Q_which Q_firsts Q_seconds Q_thirds Q_nexts Q_heads Q_names Q_variables Q_holes Q_sizes Q_places p0 p1 p2 p3 (nI m) 0 = f_Q_name_B172 0 Q_all Q_kinds Q_which Q_firsts Q_seconds Q_thirds Q_nexts Q_heads Q_names Q_variables Q_holes Q_sizes Q_places p0 (nI m) 0 p0 (aa 0) (aa 1) (aa 2) := by
    unfold f_Q_name_B127 f_Q_name_B149 f_Q_name_B160
    rw [rz, bd_s, if_pos rfl]
    rcases (show m = 0 ∨ m = 1 ∨ m = 2 ∨ m = 3 by omega) with e | e | e | e
    · rw [e] at haa ⊢
      rw [if_neg (by decide), if_neg (by decide), if_neg (by decide), haa]
      rfl
    · rw [e] at haa ⊢
      rw [if_pos (by decide), if_neg (by decide), if_neg (by decide), haa]
      rfl
    · rw [e] at haa ⊢
      rw [if_pos (by decide), if_pos (by decide), if_neg (by decide), haa]
      rfl
    · rw [e] at haa ⊢
      rw [if_pos (by decide), if_pos (by decide), if_pos (by decide), haa]
      rfl
  obtain ⟨C, hC⟩ : ∃ C : Fin 3 → Tm, ∀ k : Fin 3, rf tt n (aa k.val) (C k) ∧ (C k = nilT ↔ m ≤ k.val) := by
    refine ⟨fun k => if k.val < m then tt (qf p1 p2 p3 (-1) k.val).toNatClampNeg else nilT, fun k => ?_⟩
    by_cases ck : k.val < m
    · obtain ⟨t, ht, et⟩ := t2 k.val ck
      simp only [haa, if_pos ck, et, nI_clamp (show t < 2 ^ 31 by omega)]
      exact ⟨Or.inr ⟨t, ht, rfl, rfl⟩, ⟨fun e => absurd e (R.1.ne ht), fun e => by omega⟩⟩
    · simp only [haa, if_neg ck]
      exact ⟨Or.inl ⟨rfl, rfl⟩, ⟨fun _ => by omega, fun _ => trivial⟩⟩
  have war : WF tt n (upd ar g (nI m)) := by
    refine R.1.arity (fun t g' ht et hg' => ?_)
    by_cases e : g' = g
    · rw [e, up_s]
      obtain ⟨h1, h2, h3, h4, h5⟩ := R.1.2.1 t ht
      have e1 : h1 = g := by omega
      obtain ⟨m', m1, m2, -⟩ := h5 (by omega)
      rw [e1] at m2
      rcases cgood with h | h
      · rw [h] at m2
        exact absurd m2.symm (nI_nm1 (by omega))
      · exact h.symm
    · exact up_n e
  obtain ⟨r, tt', n', sz', a1, a2, a3, a4, a5, a6, a7, b1, b2, b3, b4, b5, b6, b7, b8, b9, b10, b11, b12, k1, k2, R', hx, hnn, hr⟩ := both_make (ar := upd ar g (nI m)) ⟨war, R.2⟩ (h := g) (C := C) (by omega) (fun h => by omega) (fun _ => ⟨m, hm3, up_s _ _ _, fun k => (hC k).2⟩) (hC 0).1 (hC 1).1 (hC 2).1
  have ekd : nI (kd g) = 0 := by unfold kd; rw [if_pos hg]; rfl
  have ewh : nI (wh g) = p0 := by unfold wh; rw [if_pos hg, eg]
  rw [ekd, ewh] at k2
  rw [← eg] at k1
  unfold f_L_name
  rw [hX3, hX4, hQ3, hQ4]
  unfold f_X_name_B100 f_Q_name_B172
  rw [show aa ((0 : Fin 3).val) = aa 0 from rfl, show aa ((1 : Fin 3).val) = aa 1 from rfl, show aa ((2 : Fin 3).val) = aa 2 from rfl] at k1 k2
  rw [k1, bd_s, k2, bd_s]
  unfold f_Q_made f_Q_made_B11
  rcases hr with ⟨e1, e2, e3⟩ | ⟨u, hu, e1, e2⟩
  · simp only [e1, if_true, bd_s]
    exact ⟨3, 0, tt', n', sz', ar, a1, a2, a3, a4, a5, a6, a7, b1, b2, b3, b4, b5, b6, b7, b8, b9, b10, b11, b12, X_namesUsed, X_arities, Q_places, O_out, rfl, rfl, ⟨by rw [e2]; exact R.1.congr hx, R'.2⟩, A, hx, hnn, fun e => absurd e (by decide)⟩
  · have hne : ¬ r = -1 := by rw [e1]; exact nI_nm1 (by have := R'.2.1; omega)
    have hix : ixb p0 30 = true := by rw [eg]; exact ixb_t hg (by omega)
    have hcl : p0.toNatClampNeg = g := by rw [eg]; exact nI_clamp (by omega)
    have hA' : ∀ h, h < 30 → upd Q_places g (nI m) h = upd ar g (nI m) h ∧ (upd ar g (nI m) h = -1 ∨ ∃ m', m' ≤ 3 ∧ upd ar g (nI m) h = nI m') := by
      intro h hh
      by_cases e : h = g
      · rw [e, up_s, up_s]; exact ⟨rfl, Or.inr ⟨m, hm3, rfl⟩⟩
      · rw [up_n e, up_n e]
        exact ⟨(A.1 h hh).2.1, by
          rcases (A.1 h hh).2.2 with h1 | ⟨m', h1, h2⟩
          · exact Or.inl h1
          · exact Or.inr ⟨m', h1, h2⟩⟩
    simp only [hne, if_false, bd_s, if_true, ixb01, gd_tt, nmE, clamp0, hix, hcl, ea1]
    by_cases cn1 : ar g = -1
    · simp only [cn1, if_true, bd_s]
      refine ⟨0, r, tt', n', sz', upd ar g (nI m), a1, a2, a3, a4, a5, a6, a7, b1, b2, b3, b4, b5, b6, b7, b8, b9, b10, b11, b12, _, _, _, _, rfl, rfl, R', ⟨fun h hh => ?_, ?_⟩, hx, hnn, fun _ => upL_s _ _ _⟩
      · obtain ⟨h1, h2⟩ := hA' h hh
        refine ⟨?_, h1, h2⟩
        by_cases e : h = g
        · rw [e, up_s, up_s]
        · rw [up_n e, up_n e]; exact (A.1 h hh).1
      · rw [A.2, nI_1]
        refine congrArg nI (cnt_drop hg ?_ ?_ (fun x _ hx2 => ?_))
        · simp only [up_s, decide_eq_true_eq]; exact nI_nm1 (by omega)
        · simp only [cn1]; decide
        · simp only [up_n hx2]
    · simp only [cn1, if_false, bd_s]
      have harg : ar g = nI m := by
        rcases cgood with h | h
        · exact absurd h cn1
        · exact h
      have hsame : ∀ h, upd ar g (nI m) h = ar h := by
        intro h
        by_cases e : h = g
        · rw [e, up_s, harg]
        · exact up_n e
      refine ⟨0, r, tt', n', sz', upd ar g (nI m), a1, a2, a3, a4, a5, a6, a7, b1, b2, b3, b4, b5, b6, b7, b8, b9, b10, b11, b12, _, _, _, _, rfl, rfl, R', ⟨fun h hh => ?_, ?_⟩, hx, hnn, fun _ => upL_s _ _ _⟩
      · obtain ⟨h1, h2⟩ := hA' h hh
        refine ⟨?_, h1, h2⟩
        rw [hsame h]
        exact (A.1 h hh).1
      · rw [A.2]
        exact congrArg nI (cnt_congr (fun x _ => by simp only [hsame x]))
end
