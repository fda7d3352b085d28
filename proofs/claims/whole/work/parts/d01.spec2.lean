section
variable {tt : Nat → Tm} {n N m : Nat} {ar : Nat → Int32} {sz : Nat → Nat} {cc pc : Nat → Nat} {pp : Nat → Nat → Nat} {T_count : Int32} {T_heads T_places T_olders T_sizes : Nat → Int32} {T_withins : Nat → Int64} {T_newest : Nat → Int32} {Q_all Q_thrown : Int32} {Q_kinds Q_which Q_firsts Q_seconds Q_thirds Q_nexts Q_heads Q_names Q_variables Q_holes Q_sizes : Nat → Int32}
variable {S_count : Int32} {S_premises S_premiseCounts S_conclusions : Nat → Int32} {Q_statements : Int32} {Q_premises Q_counts Q_conclusions : Nat → Int32} {H_kind H_subject H_count : Int32} {H_statementRow H_firstRow H_secondRow : Nat → Int32} {Q_hitKind Q_hits : Int32} {Q_hitOf Q_hitOne Q_hitTwo Q_hitTerms : Nat → Int32} {O_out : Nat → Int64}
variable {Q_places : Nat → Int32}
/-- no variable of the premises that the conclusion hasn't -/
def opn (tt : Nat → Tm) (cc pc : Nat → Nat) (pp : Nat → Nat → Nat) (s : Nat) : Prop := ∀ g, 30 ≤ g → g < 38 → inP tt pc pp s g → std (tt (cc s)) g
noncomputable def tkS (tt : Nat → Tm) (cc pc : Nat → Nat) (pp : Nat → Nat → Nat) (s : Nat) (G : Tm) : Option (Nat → Option Tm) :=
  @dite _ (opn tt cc pc pp s ∧ ∃ σ, Mt false σ (tt (cc s)) G) (Classical.propDecidable _) (fun h => some (Classical.choose h.2)) (fun _ => none)
theorem tkS_some {s : Nat} {G : Tm} {σ : Nat → Option Tm} (h : tkS tt cc pc pp s G = some σ) : opn tt cc pc pp s ∧ Mt false σ (tt (cc s)) G := by
  unfold tkS at h
  by_cases c : opn tt cc pc pp s ∧ ∃ σ, Mt false σ (tt (cc s)) G
  · rw [dif_pos c] at h
    rw [← Option.some.inj h]
    exact ⟨c.1, Classical.choose_spec c.2⟩
  · rw [dif_neg c] at h; cases h
theorem tkS_none {s : Nat} {G : Tm} (h : tkS tt cc pc pp s G = none) (ho : opn tt cc pc pp s) : ∀ σ, ¬ Mt false σ (tt (cc s)) G := by
  intro σ hσ
  unfold tkS at h
  rw [dif_pos ⟨ho, σ, hσ⟩] at h
  cases h
/-- how a search goes: none where the tries end; the tries, and what was taken -/
noncomputable def PRs (tt : Nat → Tm) (pp : Nat → Nat → Nat) (F : Tm → Nat → Option (Nat × Option (Nat × Nat))) (σ : Nat → Option Tm) (s c : Nat) : Nat → Nat → Nat → Option (Nat × Option Nat)
  | 0, t, a => some (t, some a)
  | d + 1, t, a => match F (sub σ (tt (pp s (c - (d + 1))))) t with
    | none => none
    | some (t', none) => some (t', none)
    | some (t', some (b, _)) => PRs tt pp F σ s c d t' (a + b)
noncomputable def SCs (tt : Nat → Tm) (cc pc : Nat → Nat) (pp : Nat → Nat → Nat) (od : Nat → Nat) (m : Nat) (F : Tm → Nat → Option (Nat × Option (Nat × Nat))) (G : Tm) : Nat → Nat → Option (Nat × Option (Nat × Nat))
  | 0, t => some (t, none)
  | d + 1, t => if 1000 ≤ t then none else match tkS tt cc pc pp (od (m - (d + 1))) G with
    | none => SCs tt cc pc pp od m F G d (t + 1)
    | some σ => match PRs tt pp F σ (od (m - (d + 1))) (pc (od (m - (d + 1)))) (pc (od (m - (d + 1)))) (t + 1) 1 with
      | none => none
      | some (t', none) => SCs tt cc pc pp od m F G d t'
      | some (t', some a) => some (t', some (a, od (m - (d + 1))))
noncomputable def LKs (tt : Nat → Tm) (cc pc : Nat → Nat) (pp : Nat → Nat → Nat) (od : Nat → Nat) (m : Nat) : Nat → Tm → Nat → Option (Nat × Option (Nat × Nat))
  | 0, _, t => some (t, none)
  | k + 1, G, t => SCs tt cc pc pp od m (LKs tt cc pc pp od m k) G m t
/-- the tries don't fall, and there are as many of them as were taken -/
def bdF (F : Tm → Nat → Option (Nat × Option (Nat × Nat))) : Prop := ∀ G t, t ≤ 1000 → ∀ t' r, F G t = some (t', r) → t ≤ t' ∧ t' ≤ 1000 ∧ ∀ a s, r = some (a, s) → 1 ≤ a ∧ a + t ≤ t'
theorem bd_PR {F : Tm → Nat → Option (Nat × Option (Nat × Nat))} (hF : bdF F) (σ : Nat → Option Tm) (s c : Nat) : ∀ d t a, t ≤ 1000 → ∀ t' r, PRs tt pp F σ s c d t a = some (t', r) → t ≤ t' ∧ t' ≤ 1000 ∧ ∀ b, r = some b → a ≤ b ∧ b + t ≤ t' + a := by
  intro d
  induction d with
  | zero =>
    intro t a ht t' r h
    have h' : some (t, some a) = some (t', r) := h
    cases h'
    exact ⟨Nat.le_refl _, ht, fun b e => by cases e; exact ⟨Nat.le_refl _, by omega⟩⟩
  | succ d ih =>
    intro t a ht t' r h
    unfold PRs at h
    cases e : F (sub σ (tt (pp s (c - (d + 1))))) t with
    | none => rw [e] at h; cases h
    | some q =>
      obtain ⟨t1, r1⟩ := q
      rw [e] at h
      obtain ⟨b1, b2, b3⟩ := hF _ t ht t1 r1 e
      cases r1 with
      | none =>
        have h' : some (t1, none) = some (t', r) := h
        cases h'
        exact ⟨b1, b2, fun b e => by cases e⟩
      | some q =>
        obtain ⟨x, y⟩ := q
        have h' : PRs tt pp F σ s c d t1 (a + x) = some (t', r) := h
        obtain ⟨c1, c2, c3⟩ := ih t1 (a + x) b2 t' r h'
        obtain ⟨d1, d2⟩ := b3 x y rfl
        exact ⟨by omega, c2, fun b e => by obtain ⟨e1, e2⟩ := c3 b e; exact ⟨by omega, by omega⟩⟩
theorem bd_SC {F : Tm → Nat → Option (Nat × Option (Nat × Nat))} (hF : bdF F) (od : Nat → Nat) (G : Tm) : ∀ d t, t ≤ 1000 → ∀ t' r, SCs tt cc pc pp od m F G d t = some (t', r) → t ≤ t' ∧ t' ≤ 1000 ∧ ∀ a s, r = some (a, s) → 1 ≤ a ∧ a + t ≤ t' := by
  intro d
  induction d with
  | zero =>
    intro t ht t' r h
    have h' : some (t, none) = some (t', r) := h
    cases h'
    exact ⟨Nat.le_refl _, ht, fun a s e => by cases e⟩
  | succ d ih =>
    intro t ht t' r h
    unfold SCs at h
    by_cases c : 1000 ≤ t
    · rw [if_pos c] at h; cases h
    rw [if_neg c] at h
    cases e : tkS tt cc pc pp (od (m - (d + 1))) G with
    | none =>
      rw [e] at h
      have h' : SCs tt cc pc pp od m F G d (t + 1) = some (t', r) := h
      obtain ⟨c1, c2, c3⟩ := ih (t + 1) (by omega) t' r h'
      exact ⟨by omega, c2, fun a s e => by obtain ⟨d1, d2⟩ := c3 a s e; exact ⟨d1, by omega⟩⟩
    | some σ =>
      rw [e] at h
      cases e2 : PRs tt pp F σ (od (m - (d + 1))) (pc (od (m - (d + 1)))) (pc (od (m - (d + 1)))) (t + 1) 1 with
      | none => simp only [e2] at h; cases h
      | some q =>
        obtain ⟨t1, r1⟩ := q
        obtain ⟨b1, b2, b3⟩ := bd_PR hF σ _ _ _ (t + 1) 1 (by omega) t1 r1 e2
        cases r1 with
        | none =>
          simp only [e2] at h
          obtain ⟨c1, c2, c3⟩ := ih t1 b2 t' r h
          exact ⟨by omega, c2, fun a s e => by obtain ⟨d1, d2⟩ := c3 a s e; exact ⟨d1, by omega⟩⟩
        | some b =>
          simp only [e2] at h
          cases h
          obtain ⟨d1, d2⟩ := b3 b rfl
          exact ⟨by omega, b2, fun a s e => by cases e; exact ⟨d1, by omega⟩⟩
theorem bd_LK (od : Nat → Nat) : ∀ k, bdF (LKs tt cc pc pp od m k) := by
  intro k
  induction k with
  | zero =>
    intro G t ht t' r h
    have h' : some (t, none) = some (t', r) := h
    cases h'
    exact ⟨Nat.le_refl _, ht, fun a s e => by cases e⟩
  | succ k ih => intro G t ht t' r h; exact bd_SC ih od G m t ht t' r h
theorem copen_eq (ct : CT tt n N sz T_count T_heads T_places T_olders T_sizes T_withins T_newest) (S : RS tt n m cc pc pp S_count S_premises S_premiseCounts S_conclusions Q_statements Q_premises Q_counts Q_conclusions) {s : Nat} (hs : s < m) : ∃ c : Nat, f_S_openVariables T_count N T_withins S_count S_premises S_premiseCounts S_conclusions (nI s) = some (nI c) ∧ c ≤ 64 ∧ (c = 0 ↔ opn tt cc pc pp s) := by
  obtain ⟨w, a1, a2⟩ := prem_eq ct S hs
  obtain ⟨-, -, e3, -⟩ := (S.2.2.2 s hs).1
  obtain ⟨v, c1, c2⟩ := within_eq ct (x := nI (cc s)) (T := tt (cc s)) (Or.inr ⟨_, e3, rfl, rfl⟩)
  have hbit : ∀ i, i < 64 → (((w &&& (v ^^^ (-1 : Int64))) &&& (273804165120 : Int64)).toBitVec.getLsbD i = true ↔ (30 ≤ i ∧ i < 38 ∧ inP tt pc pp s i ∧ ¬ std (tt (cc s)) i)) := by
    intro i hi
    have hm1 : (-1 : Int64).toBitVec.getLsbD i = true := (show ∀ i : Nat, i < 64 → (-1 : Int64).toBitVec.getLsbD i = true by decide +kernel) i hi
    have ha := a2 i hi
    have hc := c2 i hi
    rw [Int64.toBitVec_and, BitVec.getLsbD_and, var_bits i hi, Int64.toBitVec_and, BitVec.getLsbD_and, Int64.toBitVec_xor, BitVec.getLsbD_xor, hm1, Bool.and_eq_true, Bool.and_eq_true, ha, decide_eq_true_eq]
    constructor
    · rintro ⟨⟨h1, h2⟩, h3, h4⟩
      refine ⟨h3, h4, h1, fun h => ?_⟩
      rw [hc.mpr h] at h2
      exact absurd h2 (by decide)
    · rintro ⟨h1, h2, h3, h4⟩
      refine ⟨⟨h3, ?_⟩, h1, h2⟩
      cases e : v.toBitVec.getLsbD i
      · rfl
      · exact absurd (hc.mp e) h4
  generalize hz : ((w &&& (v ^^^ (-1 : Int64))) &&& (273804165120 : Int64)) = z at hbit
  refine ⟨cnt (fun i => z.toBitVec.getLsbD i) 64, ?_, cnt_le _ _, ?_⟩
  · unfold f_S_openVariables
    rw [a1, bd_s, sconcl_eq S hs, bd_s, c1, bd_s, bitCount_eq, bd_s, hz]
  · constructor
    · intro h g h1 h2 h3
      apply Classical.byContradiction
      intro h4
      have := cnt_pos (P := fun i => z.toBitVec.getLsbD i) (k := 64) (i := g) (by omega) ((hbit g (by omega)).mpr ⟨h1, h2, h3, h4⟩)
      omega
    · intro h
      refine cnt_zero (fun i hi => Bool.eq_false_iff.mpr (fun e => ?_))
      obtain ⟨h1, h2, h3, h4⟩ := (hbit i hi).mp e
      exact h4 (h i h1 h2 h3)
theorem qopn_eq (hn : n ≤ 100) (hq : QK tt n sz Q_names Q_variables Q_holes Q_sizes) (S : RS tt n m cc pc pp S_count S_premises S_premiseCounts S_conclusions Q_statements Q_premises Q_counts Q_conclusions) {s : Nat} (hs : s < m) : ∃ x, f_Q_open Q_variables Q_conclusions Q_premises Q_counts (nI s) = some x ∧ (x = 0 ↔ opn tt cc pc pp s) := by
  obtain ⟨x, b1, b2⟩ := qopen_eq hn hq S hs
  refine ⟨x, b1, ?_⟩
  rw [i32_zero]
  constructor
  · intro h g h1 h2 h3
    apply Classical.byContradiction
    intro h4
    have := (b2 (g - 30) (by omega)).mpr ⟨by omega, by rw [show 30 + (g - 30) = g by omega]; exact h3, by rw [show 30 + (g - 30) = g by omega]; exact h4⟩
    rw [h _ (by omega)] at this
    exact absurd this (by decide)
  · intro h i hi
    refine Bool.eq_false_iff.mpr (fun e => ?_)
    obtain ⟨h1, h2, h3⟩ := (b2 i hi).mp e
    exact h3 (h (30 + i) (by omega) (by omega) h2)
end
