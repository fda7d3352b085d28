section
variable {tt : Nat → Tm} {n N m : Nat} {ar : Nat → Int32} {sz : Nat → Nat} {cc pc : Nat → Nat} {pp : Nat → Nat → Nat} {T_count : Int32} {T_heads T_places T_olders T_sizes : Nat → Int32} {T_withins : Nat → Int64} {T_newest : Nat → Int32} {Q_all Q_thrown : Int32} {Q_kinds Q_which Q_firsts Q_seconds Q_thirds Q_nexts Q_heads Q_names Q_variables Q_holes Q_sizes : Nat → Int32}
variable {S_count : Int32} {S_premises S_premiseCounts S_conclusions : Nat → Int32} {Q_statements : Int32} {Q_premises Q_counts Q_conclusions : Nat → Int32} {H_kind H_subject H_count : Int32} {H_statementRow H_firstRow H_secondRow : Nat → Int32} {Q_hitKind Q_hits : Int32} {Q_hitOf Q_hitOne Q_hitTwo Q_hitTerms : Nat → Int32} {O_out : Nat → Int64}
variable {Q_places : Nat → Int32}
def eqP (pc : Nat → Nat) (n : Nat) : Nat → Bool := fun s => decide (pc s = n)
def bse (pc : Nat → Nat) (m : Nat) : Nat → Nat
  | 0 => 0
  | n + 1 => bse pc m n + cnt (eqP pc n) m
def idx (pc : Nat → Nat) (m n j : Nat) : Nat := bse pc m n + cnt (eqP pc n) j
theorem idx_0 (pc : Nat → Nat) (m n : Nat) : idx pc m n 0 = bse pc m n := rfl
theorem idx_end (pc : Nat → Nat) (m n : Nat) : idx pc m n m = idx pc m (n + 1) 0 := rfl
theorem idx_y {pc : Nat → Nat} {m n j : Nat} (h : pc j = n) : idx pc m n (j + 1) = idx pc m n j + 1 := by
  unfold idx
  rw [cnt_succ, show eqP pc n j = true from decide_eq_true h, if_pos rfl]
  omega
theorem idx_no {pc : Nat → Nat} {m n j : Nat} (h : ¬ pc j = n) : idx pc m n (j + 1) = idx pc m n j := by
  unfold idx
  rw [cnt_succ, show eqP pc n j = false from decide_eq_false h, if_neg (by decide)]
  omega
theorem cnt_mono (P : Nat → Bool) {a b : Nat} (h : a ≤ b) : cnt P a ≤ cnt P b := by
  obtain ⟨d, rfl⟩ : ∃ d, b = a + d := ⟨b - a, by omega⟩
  rw [cnt_add]
  omega
theorem bse_mono (pc : Nat → Nat) (m : Nat) {a b : Nat} (h : a ≤ b) : bse pc m a ≤ bse pc m b := by
  obtain ⟨d, rfl⟩ : ∃ d, b = a + d := ⟨b - a, by omega⟩
  clear h
  induction d with
  | zero => exact Nat.le_refl _
  | succ d ih => exact Nat.le_trans ih (Nat.le_add_right _ _)
theorem bse_5 (pc : Nat → Nat) : ∀ m, (∀ s, s < m → pc s ≤ 4) → bse pc m 5 = m := by
  intro m
  induction m with
  | zero => intro _; rfl
  | succ m ih =>
    intro h
    have i := ih (fun s hs => h s (by omega))
    have h4 := h m (by omega)
    have e : ∀ k, cnt (eqP pc k) (m + 1) = (if pc m = k then 1 else 0) + cnt (eqP pc k) m := by
      intro k
      rw [cnt_succ]
      unfold eqP
      simp only [decide_eq_true_eq]
    show 0 + cnt (eqP pc 0) (m + 1) + cnt (eqP pc 1) (m + 1) + cnt (eqP pc 2) (m + 1) + cnt (eqP pc 3) (m + 1) + cnt (eqP pc 4) (m + 1) = m + 1
    have i' : 0 + cnt (eqP pc 0) m + cnt (eqP pc 1) m + cnt (eqP pc 2) m + cnt (eqP pc 3) m + cnt (eqP pc 4) m = m := i
    rw [e, e, e, e, e]
    rcases (show pc m = 0 ∨ pc m = 1 ∨ pc m = 2 ∨ pc m = 3 ∨ pc m = 4 by omega) with c | c | c | c | c <;> simp [c] <;> omega
theorem idx_lt {pc : Nat → Nat} {m n j : Nat} (h4 : ∀ s, s < m → pc s ≤ 4) (hn : n ≤ 4) (hj : j < m) (h : pc j = n) : idx pc m n j < m := by
  have h1 := idx_y (m := m) h
  have h2 : idx pc m n (j + 1) ≤ idx pc m n m := by
    unfold idx
    have := cnt_mono (eqP pc n) (a := j + 1) (b := m) (by omega)
    omega
  rw [idx_end, idx_0] at h2
  have h3 := bse_mono pc m (a := n + 1) (b := 5) (by omega)
  rw [bse_5 pc m h4] at h3
  omega
/-- the order: the place of each statement holds it -/
def ordO (pc : Nat → Nat) (m : Nat) (A : Nat → Int32) : Prop := ∀ s, s < m → A (idx pc m (pc s) s) = nI s
theorem order_in (hm : m ≤ 30) (h4 : ∀ s, s < m → pc s ≤ 4) (hS : ∀ s, s < m → S_premiseCounts s = nI (pc s)) {nn : Nat} (hnn : nn ≤ 4) (K : (Nat → Int32) → Int32 → Int32 → Option (Nat → Int32))
    (hK : ∀ A : Nat → Int32, ∃ A', K A (nI (idx pc m (nn + 1) 0)) (nI (nn + 1)) = some A' ∧ (∀ i, i < idx pc m (nn + 1) 0 → A' i = A i) ∧ ∀ s, s < m → nn + 1 ≤ pc s → A' (idx pc m (pc s) s) = nI s) :
    ∀ d, d ≤ m → ∀ fuel, d < fuel → ∀ A : Nat → Int32, ∃ A', f_S_putInOrder_L11 (nI m) S_premiseCounts K fuel A (nI (idx pc m nn (m - d))) (nI nn) (nI (m - d)) = some A' ∧ (∀ i, i < idx pc m nn (m - d) → A' i = A i) ∧ ∀ s, s < m → (nn + 1 ≤ pc s ∨ (pc s = nn ∧ m - d ≤ s)) → A' (idx pc m (pc s) s) = nI s := by
  intro d
  induction d with
  | zero =>
    intro _ fuel hf A
    obtain ⟨f, rfl⟩ : ∃ f, fuel = f + 1 := ⟨fuel - 1, by omega⟩
    obtain ⟨A', a1, a2, a3⟩ := hK A
    refine ⟨A', ?_, fun i hi => a2 i (by rw [Nat.sub_zero, idx_end] at hi; exact hi), fun s hs h => a3 s hs (by omega)⟩
    rw [f_S_putInOrder_L11, if_pos ((nI_leI (by omega) (by omega)).mpr (by omega)), nmE, nI_1, Nat.sub_zero, idx_end]
    exact a1
  | succ d ih =>
    intro hd fuel hf A
    obtain ⟨f, rfl⟩ : ∃ f, fuel = f + 1 := ⟨fuel - 1, by omega⟩
    obtain ⟨j, hj⟩ : ∃ j, j = m - (d + 1) := ⟨_, rfl⟩
    rw [← hj, f_S_putInOrder_L11, if_neg (nI_ge (by omega) (by omega)), gd_t (ixb_t (by omega) (by omega)), nI_clamp (by omega), hS j (by omega)]
    have h4j := h4 j (by omega)
    by_cases c : pc j = nn
    · have hlt := idx_lt h4 hnn (show j < m by omega) c
      obtain ⟨A', a1, a2, a3⟩ := ih (by omega) f (by omega) (upd A (idx pc m nn j) (nI j))
      rw [show m - d = j + 1 by omega] at a1 a2 a3
      rw [idx_y c] at a1 a2
      refine ⟨A', ?_, fun i hi => by rw [a2 i (by omega), up_n (by omega)], fun s hs h => ?_⟩
      · rw [if_pos (by rw [c]), if_neg (show ¬ (30 : Int32) ≤ nI (idx pc m nn j) from (nI_ge (by omega) (by omega) : ¬ nI 30 ≤ _)), gd_t (ixb_t (by omega) (by omega)), nmE, nmE, nmE, nI_clamp (by omega), nI_1, nI_1]
        exact a1
      · by_cases e : s = j
        · rw [e, c, a2 _ (by omega), up_s]
        · exact a3 s hs (by omega)
    · obtain ⟨A', a1, a2, a3⟩ := ih (by omega) f (by omega) A
      rw [show m - d = j + 1 by omega] at a1 a2 a3
      rw [idx_no c] at a1 a2
      refine ⟨A', ?_, a2, fun s hs h => a3 s hs ?_⟩
      · rw [if_neg (fun e => c (nI_inj (by omega) (by omega) e)), nmE, nI_1]
        exact a1
      · rcases h with h | ⟨h, h'⟩
        · exact Or.inl h
        · exact Or.inr ⟨h, by have : s ≠ j := fun e => c (by rw [← e]; exact h); omega⟩
theorem order_out (hm : m ≤ 30) (h4 : ∀ s, s < m → pc s ≤ 4) (hS : ∀ s, s < m → S_premiseCounts s = nI (pc s)) : ∀ e, e ≤ 5 → ∀ fuel, e < fuel → ∀ A : Nat → Int32, ∃ A', f_S_putInOrder_L4 (nI m) S_premiseCounts fuel A (nI (idx pc m (5 - e) 0)) (nI (5 - e)) = some A' ∧ (∀ i, i < idx pc m (5 - e) 0 → A' i = A i) ∧ ∀ s, s < m → 5 - e ≤ pc s → A' (idx pc m (pc s) s) = nI s := by
  intro e
  induction e with
  | zero =>
    intro _ fuel hf A
    obtain ⟨f, rfl⟩ : ∃ f, fuel = f + 1 := ⟨fuel - 1, by omega⟩
    refine ⟨A, ?_, fun i _ => rfl, fun s hs h => by have := h4 s hs; omega⟩
    rw [f_S_putInOrder_L4, if_pos (show (4 : Int32) < nI (5 - 0) by decide)]
  | succ e ih =>
    intro he fuel hf A
    obtain ⟨f, rfl⟩ : ∃ f, fuel = f + 1 := ⟨fuel - 1, by omega⟩
    obtain ⟨nn, hnn⟩ : ∃ nn, nn = 5 - (e + 1) := ⟨_, rfl⟩
    obtain ⟨A', a1, a2, a3⟩ := order_in hm h4 hS (nn := nn) (by omega) (f_S_putInOrder_L4 (nI m) S_premiseCounts f) (fun A => by
      have := ih (by omega) f (by omega) A
      rw [show 5 - e = nn + 1 by omega] at this
      exact this) m (Nat.le_refl _) FU (by unfold FU; omega) A
    rw [Nat.sub_self] at a1 a2 a3
    rw [← hnn]
    refine ⟨A', ?_, a2, fun s hs h => a3 s hs (by omega)⟩
    rw [f_S_putInOrder_L4, if_neg (show ¬ (4 : Int32) < nI nn from fun h => by rw [show (4 : Int32) = nI 4 from rfl, lt_lit (by omega) (by omega)] at h; omega)]
    rw [nI_0] at a1
    exact a1
theorem order_eq (hm : m ≤ 30) (h4 : ∀ s, s < m → pc s ≤ 4) (hS : ∀ s, s < m → S_premiseCounts s = nI (pc s)) (A : Nat → Int32) : ∃ A', f_S_putInOrder (nI m) S_premiseCounts A = some A' ∧ ordO pc m A' := by
  obtain ⟨A', a1, -, a3⟩ := order_out hm h4 hS 5 (Nat.le_refl _) FU (by unfold FU; omega) A
  exact ⟨A', a1, fun s hs => a3 s hs (by omega)⟩
theorem goal_eq (R : RT tt n N sz ar T_count T_heads T_places T_olders T_sizes T_withins T_newest Q_all Q_kinds Q_which Q_firsts Q_seconds Q_thirds Q_nexts Q_heads Q_names Q_variables Q_holes Q_sizes) (p0 : Int32) : (f_X_checkGoal T_count N T_withins p0 = some 1 ∧ f_Q_wrongGoal Q_all Q_holes p0 = some 1) ∨ (f_X_checkGoal T_count N T_withins p0 = some 2 ∧ f_Q_wrongGoal Q_all Q_holes p0 = some 2) ∨ (f_X_checkGoal T_count N T_withins p0 = some 0 ∧ f_Q_wrongGoal Q_all Q_holes p0 = some 0 ∧ ∃ g, g < n ∧ p0 = nI g ∧ ¬ hasF true (tt g)) := by
  obtain ⟨w, hn, ct, qt, hq⟩ := R
  have hcnt : T_count = nI n := ct.1
  have hall : Q_all = nI n := qt.1
  unfold f_X_checkGoal f_Q_wrongGoal
  rw [isTerm_has, hall]
  rcases has_em (n := n) (by omega) p0 with ⟨p, hp, e, h⟩ | ⟨-, h⟩
  · have hh := (hq p hp).2.2.1
    obtain ⟨b1, b2⟩ := holds_t ct hp true
    have ez : Q_holes p = 0 ↔ ¬ hasF true (tt p) := by
      rw [i32_zero]
      constructor
      · rintro h1 ⟨i, h2, h3⟩
        have h4 : 38 ≤ i ∧ i < 42 := by unfold fre at h2; rw [if_pos rfl] at h2; exact h2
        have := (hh (i - 38) (by omega)).mpr ⟨by omega, by rw [show 38 + (i - 38) = i by omega]; exact h3⟩
        rw [h1 _ (by omega)] at this
        exact absurd this (by decide)
      · intro h1 i hi
        refine Bool.eq_false_iff.mpr fun h2 => ?_
        have := (hh i hi).mp h2
        exact h1 ⟨38 + i, by unfold fre; rw [if_pos rfl]; omega, this.2⟩
    rw [hcnt] at b1 b2 ⊢
    rw [h, bd_s, bd_s, if_neg (by decide), if_neg (by decide), e, gd_t (ixb_t (by omega) (by omega)), nI_clamp (by omega)]
    by_cases c : hasF true (tt p)
    · refine Or.inr (Or.inl ⟨?_, ?_⟩)
      · rw [show (4123168604160 : Int64) = bitsOf true from rfl, b1 c, bd_s, if_neg (by decide)]
      · rw [if_neg (fun h => ez.mp h c)]
    · refine Or.inr (Or.inr ⟨?_, ?_, p, hp, rfl, c⟩)
      · rw [show (4123168604160 : Int64) = bitsOf true from rfl, b2 c, bd_s, if_pos rfl]
      · rw [if_pos (ez.mpr c)]
  · rw [hcnt, h, bd_s, bd_s, if_pos rfl, if_pos rfl]
    exact Or.inl ⟨rfl, rfl⟩
end
