section
variable {tt : Nat → Tm} {n N m : Nat} {ar : Nat → Int32} {sz : Nat → Nat} {cc pc : Nat → Nat} {pp : Nat → Nat → Nat} {T_count : Int32} {T_heads T_places T_olders T_sizes : Nat → Int32} {T_withins : Nat → Int64} {T_newest : Nat → Int32} {Q_all Q_thrown : Int32} {Q_kinds Q_which Q_firsts Q_seconds Q_thirds Q_nexts Q_heads Q_names Q_variables Q_holes Q_sizes : Nat → Int32}
variable {S_count : Int32} {S_premises S_premiseCounts S_conclusions : Nat → Int32} {Q_statements : Int32} {Q_premises Q_counts Q_conclusions : Nat → Int32} {H_kind H_subject H_count : Int32} {H_statementRow H_firstRow H_secondRow : Nat → Int32} {Q_hitKind Q_hits : Int32} {Q_hitOf Q_hitOne Q_hitTwo Q_hitTerms : Nat → Int32} {O_out : Nat → Int64}
variable {Q_places : Nat → Int32}
theorem cnt_hit {P : Nat → Bool} {m r : Nat} (h : r < cnt P m) : ∃ j, j < m ∧ P j = true ∧ cnt P j = r := by
  induction m with
  | zero => exact absurd h (by simp [cnt])
  | succ m ih =>
    rw [cnt_succ] at h
    by_cases c : r < cnt P m
    · obtain ⟨j, h1, h2, h3⟩ := ih c
      exact ⟨j, by omega, h2, h3⟩
    · by_cases cp : P m = true
      · rw [if_pos cp] at h
        exact ⟨m, by omega, cp, by omega⟩
      · rw [if_neg cp] at h; omega
theorem idx_hit {i : Nat} : ∀ nn, i < bse pc m nn → ∃ s, s < m ∧ idx pc m (pc s) s = i := by
  intro nn
  induction nn with
  | zero => intro h; exact absurd h (by simp [bse])
  | succ nn ih =>
    intro h
    by_cases c : i < bse pc m nn
    · exact ih c
    · have h' : i < bse pc m nn + cnt (eqP pc nn) m := h
      obtain ⟨j, h1, h2, h3⟩ := cnt_hit (P := eqP pc nn) (m := m) (r := i - bse pc m nn) (by omega)
      have e : pc j = nn := of_decide_eq_true h2
      refine ⟨j, h1, ?_⟩
      rw [e]
      unfold idx
      omega
theorem od_ex (h4 : ∀ s, s < m → pc s ≤ 4) : ∃ od : Nat → Nat, ∀ i, i < m → od i < m ∧ ∀ A : Nat → Int32, ordO pc m A → A i = nI (od i) := by
  have h : ∀ i, ∃ s, i < m → s < m ∧ idx pc m (pc s) s = i := by
    intro i
    by_cases c : i < m
    · obtain ⟨s, h1, h2⟩ := idx_hit (pc := pc) (m := m) (i := i) 5 (by rw [bse_5 pc m h4]; exact c)
      exact ⟨s, fun _ => ⟨h1, h2⟩⟩
    · exact ⟨0, fun h => absurd h c⟩
  refine ⟨fun i => Classical.choose (h i), fun i hi => ?_⟩
  have hc := Classical.choose_spec (h i) hi
  exact ⟨hc.1, fun A hA => by
    have := hA _ hc.1
    rw [hc.2] at this
    exact this⟩
theorem qorder_in (hm : m ≤ 30) (h4 : ∀ s, s < m → pc s ≤ 4) (hS : ∀ s, s < m → Q_counts s = nI (pc s)) {nn : Nat} (hnn : nn ≤ 4) (K : (Nat → Int32) → Int32 → Int32 → Option (Nat → Int32))
    (hK : ∀ A : Nat → Int32, ∃ A', K A (nI (idx pc m (nn + 1) 0)) (nI (nn + 1)) = some A' ∧ (∀ i, i < idx pc m (nn + 1) 0 → A' i = A i) ∧ ∀ s, s < m → nn + 1 ≤ pc s → A' (idx pc m (pc s) s) = nI s) :
    ∀ d, d ≤ m → ∀ fuel, d < fuel → ∀ A : Nat → Int32, ∃ A', f_Q_inOrder_L11 (nI m) Q_counts K fuel A (nI (idx pc m nn (m - d))) (nI nn) (nI (m - d)) = some A' ∧ (∀ i, i < idx pc m nn (m - d) → A' i = A i) ∧ ∀ s, s < m → (nn + 1 ≤ pc s ∨ (pc s = nn ∧ m - d ≤ s)) → A' (idx pc m (pc s) s) = nI s := by
  intro d
  induction d with
  | zero =>
    intro _ fuel hf A
    obtain ⟨f, rfl⟩ : ∃ f, fuel = f + 1 := ⟨fuel - 1, by omega⟩
    obtain ⟨A', a1, a2, a3⟩ := hK A
    refine ⟨A', ?_, fun i hi => a2 i (by rw [Nat.sub_zero, idx_end] at hi; exact hi), fun s hs h => a3 s hs (by omega)⟩
    rw [f_Q_inOrder_L11, if_pos ((nI_leI (by omega) (by omega)).mpr (by omega)), nmE, nI_1, Nat.sub_zero, idx_end]
    exact a1
  | succ d ih =>
    intro hd fuel hf A
    obtain ⟨f, rfl⟩ : ∃ f, fuel = f + 1 := ⟨fuel - 1, by omega⟩
    obtain ⟨j, hj⟩ : ∃ j, j = m - (d + 1) := ⟨_, rfl⟩
    rw [← hj, f_Q_inOrder_L11, if_neg (nI_ge (by omega) (by omega)), gd_t (ixb_t (by omega) (by omega)), nI_clamp (by omega), hS j (by omega)]
    have h4j := h4 j (by omega)
    by_cases c : pc j = nn
    · have hlt := idx_lt h4 hnn (show j < m by omega) c
      obtain ⟨A', a1, a2, a3⟩ := ih (by omega) f (by omega) (upd A (idx pc m nn j) (nI j))
      rw [show m - d = j + 1 by omega] at a1 a2 a3
      rw [idx_y c] at a1 a2
      refine ⟨A', ?_, fun i hi => by rw [a2 i (by omega), up_n (by omega)], fun s hs h => ?_⟩
      · rw [if_pos (by rw [c]), gd_t (ixb_t (by omega) (by omega)), nmE, nmE, nmE, nI_clamp (by omega), nI_1, nI_1]
        exact a1
      · by_cases e : s = j
        · rw [e, c, a2 _ (by omega), up_s]
        · exact a3 s hs (by omega)
    · obtain ⟨A', a1, a2, a3⟩ := ih (by omega) f (by omega) A
      rw [show m - d = j + 1 by omega] at a1 a2 a3
      rw [idx_no c] at a1 a2
      refine ⟨A', ?_, a2, fun s hs h => a3 s hs ?_⟩
      · rw [if_neg (fun e => c (nI_inj (by omega) (by omega) e)), nmE, nI_1]
        exact a1
      · rcases h with h | ⟨h, h'⟩
        · exact Or.inl h
        · exact Or.inr ⟨h, by have : s ≠ j := fun e => c (by rw [← e]; exact h); omega⟩
theorem qorder_out (hm : m ≤ 30) (h4 : ∀ s, s < m → pc s ≤ 4) (hS : ∀ s, s < m → Q_counts s = nI (pc s)) : ∀ e, e ≤ 5 → ∀ fuel, e < fuel → ∀ A : Nat → Int32, ∃ A', f_Q_inOrder_L4 (nI m) Q_counts fuel A (nI (idx pc m (5 - e) 0)) (nI (5 - e)) = some A' ∧ (∀ i, i < idx pc m (5 - e) 0 → A' i = A i) ∧ ∀ s, s < m → 5 - e ≤ pc s → A' (idx pc m (pc s) s) = nI s := by
  intro e
  induction e with
  | zero =>
    intro _ fuel hf A
    obtain ⟨f, rfl⟩ : ∃ f, fuel = f + 1 := ⟨fuel - 1, by omega⟩
    refine ⟨A, ?_, fun i _ => rfl, fun s hs h => by have := h4 s hs; omega⟩
    rw [f_Q_inOrder_L4, if_pos (show (4 : Int32) < nI (5 - 0) by decide)]
  | succ e ih =>
    intro he fuel hf A
    obtain ⟨f, rfl⟩ : ∃ f, fuel = f + 1 := ⟨fuel - 1, by omega⟩
    obtain ⟨nn, hnn⟩ : ∃ nn, nn = 5 - (e + 1) := ⟨_, rfl⟩
    obtain ⟨A', a1, a2, a3⟩ := qorder_in hm h4 hS (nn := nn) (by omega) (f_Q_inOrder_L4 (nI m) Q_counts f) (fun A => by
      have := ih (by omega) f (by omega) A
      rw [show 5 - e = nn + 1 by omega] at this
      exact this) m (Nat.le_refl _) FU (by unfold FU; omega) A
    rw [Nat.sub_self] at a1 a2 a3
    rw [← hnn]
    refine ⟨A', ?_, a2, fun s hs h => a3 s hs (by omega)⟩
    rw [f_Q_inOrder_L4, if_neg (show ¬ (4 : Int32) < nI nn from fun h => by rw [show (4 : Int32) = nI 4 from rfl, lt_lit (by omega) (by omega)] at h; omega)]
    rw [nI_0] at a1
    exact a1
theorem qorder_eq (hm : m ≤ 30) (h4 : ∀ s, s < m → pc s ≤ 4) (hS : ∀ s, s < m → Q_counts s = nI (pc s)) (A : Nat → Int32) : ∃ A', f_Q_inOrder (nI m) Q_counts A = some A' ∧ ordO pc m A' := by
  obtain ⟨A', a1, -, a3⟩ := qorder_out hm h4 hS 5 (Nat.le_refl _) FU (by unfold FU; omega) A
  exact ⟨A', a1, fun s hs => a3 s hs (by omega)⟩
end
/-- a row without repeats into b values has at most b of them -/
theorem pig : ∀ (b a : Nat) (f : Nat → Nat), (∀ i, i < a → f i < b) → (∀ i j, i < a → j < a → f i = f j → i = j) → a ≤ b := by
  intro b
  induction b with
  | zero =>
    intro a f h _
    apply Classical.byContradiction
    intro hc
    exact absurd (h 0 (by omega)) (by omega)
  | succ b ih =>
    intro a f h hi
    cases a with
    | zero => omega
    | succ a =>
      -- the value of the last place goes to the place that has b
      have := ih a (fun i => if f i = b then f a else f i) (fun i hi2 => by
        show (if f i = b then f a else f i) < b
        by_cases c : f i = b
        · rw [if_pos c]
          have h1 := h a (by omega)
          have h2 : f a ≠ b := fun e => by have := hi i a (by omega) (by omega) (c.trans e.symm); omega
          omega
        · rw [if_neg c]
          have := h i (by omega)
          omega) (fun i j h1 h2 e => by
        have e' : (if f i = b then f a else f i) = (if f j = b then f a else f j) := e
        by_cases c1 : f i = b
        · by_cases c2 : f j = b
          · exact hi i j (by omega) (by omega) (c1.trans c2.symm)
          · rw [if_pos c1, if_neg c2] at e'
            have := hi a j (by omega) (by omega) e'
            omega
        · by_cases c2 : f j = b
          · rw [if_neg c1, if_pos c2] at e'
            have := hi i a (by omega) (by omega) e'
            omega
          · rw [if_neg c1, if_neg c2] at e'
            exact hi i j (by omega) (by omega) e')
      omega
section
variable {tt : Nat → Tm} {n : Nat} {ar : Nat → Int32} {σ : Nat → Option Tm} {most : Nat}
/-- what is new is an instance -/
def newI (tt : Nat → Tm) (n : Nat) (σ : Nat → Option Tm) (b : Nat) (s : TS) : Prop := ∀ v, b ≤ v → v < s.2.1 → ∃ x, x < n ∧ s.1 v = sub σ (tt x)
theorem newI_add {b : Nat} {s : TS} (h : newI tt n σ b s) {x : Nat} (hx : x < n) : newI tt n σ b (addT most (sub σ (tt x)) s) := by
  by_cases c0 : s.2.2.2 = false
  · rw [add_false c0]; exact h
  have c0' : s.2.2.2 = true := by cases e : s.2.2.2 <;> simp_all
  by_cases c1 : inT s (sub σ (tt x))
  · rw [add_in c1]; exact h
  by_cases c2 : most ≤ s.2.1
  · rw [add_full c0' c1 c2]; exact h
  · rw [add_new c0' c1 (by omega)]
    intro v h1 h2
    have h2' : v < s.2.1 + 1 := h2
    by_cases c : v = s.2.1
    · exact ⟨x, hx, by show ext s.1 s.2.1 _ v = _; rw [c, ext_s]⟩
    · obtain ⟨y, h3, h4⟩ := h v h1 (by omega)
      exact ⟨y, h3, (ext_n c).trans h4⟩
theorem newI_ins (w : WF tt n ar) {b B : Nat} : ∀ u, u < n → u < B → ∀ f (s : TS), newI tt B σ b s → newI tt B σ b (insT most σ f (tt u) s) := by
  intro u
  induction u using Nat.strongRecOn with
  | _ u ih =>
    intro hu hB f s h
    by_cases c : tt u [] = 0 ∨ 31 ≤ tt u []
    · rw [ins_leaf c]; exact h
    cases f with
    | zero => exact h
    | succ f =>
      have hk : ∀ (k : Fin 3) s, newI tt B σ b s → newI tt B σ b (insT most σ f (chT k (tt u)) s) := by
        intro k s h
        rcases w.2.2 u hu k with e | ⟨v, hv, ev⟩
        · rw [e, ins_nil]; exact h
        · rw [← ev]; exact ih v hv (by omega) (by omega) f s h
      rw [ins_node c]
      exact newI_add (hk 2 _ (hk 1 _ (hk 0 s h))) hB
theorem sz_add {T : Tm} {s : TS} : ∀ v, v < s.2.1 → (addT most T s).2.2.1 v = s.2.2.1 v := by
  intro v hv
  by_cases c0 : s.2.2.2 = false
  · rw [add_false c0]
  have c0' : s.2.2.2 = true := by cases e : s.2.2.2 <;> simp_all
  by_cases c1 : inT s T
  · rw [add_in c1]
  by_cases c2 : most ≤ s.2.1
  · rw [add_full c0' c1 c2]
  · rw [add_new c0' c1 (by omega)]
    show szn s.2.2.1 s.2.1 _ v = _
    unfold szn
    rw [if_neg (by omega)]
theorem sz_ins : ∀ f T (s : TS), ∀ v, v < s.2.1 → (insT most σ f T s).2.2.1 v = s.2.2.1 v := by
  intro f
  induction f with
  | zero => intro T s v _; rfl
  | succ f ih =>
    intro T s v hv
    by_cases c : T [] = 0 ∨ 31 ≤ T []
    · rw [ins_leaf c]
    · rw [ins_node c]
      have k0 := (kp_ins most σ f (chT 0 T) s).1
      have k1 := (kp_ins most σ f (chT 1 T) (insT most σ f (chT 0 T) s)).1
      have k2 := (kp_ins most σ f (chT 2 T) (insT most σ f (chT 1 T) (insT most σ f (chT 0 T) s))).1
      rw [sz_add v (by omega), ih _ _ v (by omega), ih _ _ v (by omega), ih _ _ v hv]
theorem fail_add {T : Tm} {s : TS} (h0 : s.2.2.2 = true) (h : (addT most T s).2.2.2 = false) : most ≤ (addT most T s).2.1 := by
  by_cases c1 : inT s T
  · rw [add_in c1] at h; rw [h0] at h; exact absurd h (by decide)
  by_cases c2 : most ≤ s.2.1
  · rw [add_full h0 c1 c2]; exact c2
  · rw [add_new h0 c1 (by omega)] at h
    exact absurd (show true = false from h) (by decide)
theorem fail_ins : ∀ f T (s : TS), s.2.2.2 = true → (insT most σ f T s).2.2.2 = false → most ≤ (insT most σ f T s).2.1 := by
  intro f
  induction f with
  | zero => intro T s h0 h; rw [show insT most σ 0 T s = s from rfl, h0] at h; exact absurd h (by decide)
  | succ f ih =>
    intro T s h0 h
    by_cases c : T [] = 0 ∨ 31 ≤ T []
    · rw [ins_leaf c, h0] at h; exact absurd h (by decide)
    · rw [ins_node c] at h ⊢
      have key : ∀ (k : Fin 3) s, (s.2.2.2 = true ∨ most ≤ s.2.1) → ((insT most σ f (chT k T) s).2.2.2 = true ∨ most ≤ (insT most σ f (chT k T) s).2.1) := by
        intro k s hs
        by_cases c0 : s.2.2.2 = false
        · rcases hs with h1 | h1
          · rw [c0] at h1; exact absurd h1 (by decide)
          · rw [ins_false _ _ _ c0]; exact Or.inr h1
        · have c0' : s.2.2.2 = true := by cases e : s.2.2.2 <;> simp_all
          cases e : (insT most σ f (chT k T) s).2.2.2 with
          | true => exact Or.inl rfl
          | false => exact Or.inr (ih _ s c0' e)
      have h3 := key 2 _ (key 1 _ (key 0 s (Or.inl h0)))
      generalize insT most σ f (chT 2 T) (insT most σ f (chT 1 T) (insT most σ f (chT 0 T) s)) = s3 at *
      rcases h3 with h3 | h3
      · exact fail_add h3 h
      · exact Nat.le_trans h3 (kp_add most (sub σ T) s3).1
theorem new_le {s : TS} (w : WF s.1 s.2.1 ar) {b : Nat} (h : newI tt n σ b s) : s.2.1 ≤ b + n := by
  have hx : ∀ i, ∃ x, i < s.2.1 - b → x < n ∧ s.1 (b + i) = sub σ (tt x) := by
    intro i
    by_cases c : i < s.2.1 - b
    · obtain ⟨x, h1, h2⟩ := h (b + i) (by omega) (by omega)
      exact ⟨x, fun _ => ⟨h1, h2⟩⟩
    · exact ⟨0, fun h => absurd h c⟩
  have := pig n (s.2.1 - b) (fun i => Classical.choose (hx i)) (fun i hi => (Classical.choose_spec (hx i) hi).1) (fun i j hi hj e => by
    have h1 := (Classical.choose_spec (hx i) hi).2
    have h2 := (Classical.choose_spec (hx j) hj).2
    have e' : Classical.choose (hx i) = Classical.choose (hx j) := e
    rw [e'] at h1
    have := w.1 (b + i) (by omega) (b + j) (by omega) (h1.trans h2.symm)
    omega)
  omega
end
