/-- class and reference hold the same statements -/
def RS (tt : Nat → Tm) (n m : Nat) (cc pc : Nat → Nat) (pp : Nat → Nat → Nat) (S_count : Int32) (S_premises S_premiseCounts S_conclusions : Nat → Int32) (Q_statements : Int32) (Q_premises Q_counts Q_conclusions : Nat → Int32) : Prop :=
  S_count = nI m ∧ Q_statements = nI m ∧ m ≤ 30 ∧ ∀ s, s < m →
    (S_conclusions s = nI (cc s) ∧ Q_conclusions s = nI (cc s) ∧ cc s < n ∧ ¬ hasF true (tt (cc s))) ∧
    (S_premiseCounts s = nI (pc s) ∧ Q_counts s = nI (pc s) ∧ pc s ≤ 4) ∧
    ∀ k, k < pc s → S_premises (4 * s + k) = nI (pp s k) ∧ Q_premises (4 * s + k) = nI (pp s k) ∧ pp s k < n ∧ ¬ hasF true (tt (pp s k))
/-- class and reference hold the same hits -/
def RH (tt : Nat → Tm) (n m : Nat) (cc pc : Nat → Nat) (H_kind H_subject H_count : Int32) (H_statementRow H_firstRow H_secondRow : Nat → Int32) (Q_hitKind Q_hits : Int32) (Q_hitOf Q_hitOne Q_hitTwo Q_hitTerms : Nat → Int32) : Prop :=
  ∃ c, c ≤ 30 ∧ H_count = nI c ∧ Q_hits = nI c ∧ (∀ i, i < c → H_statementRow i = Q_hitOf i ∧ H_firstRow i = Q_hitOne i ∧ H_secondRow i = Q_hitTwo i) ∧
    ((H_kind = -1 ∧ Q_hitKind = 0 ∧ c = 0) ∨
     (H_kind = 1 ∧ Q_hitKind = 1 ∧ ∃ p, p < n ∧ H_subject = nI p ∧ ∀ i, i < c → ∃ t, t < n ∧ H_secondRow i = nI t ∧ ∃ σ, Mt true σ (tt p) (tt t) ∧ ∀ v, v < 8 → rf tt n (Q_hitTerms (8 * i + v)) (oT (σ (38 + v)))) ∨
     (H_kind = 2 ∧ Q_hitKind = 2 ∧ ∃ g, g < n ∧ H_subject = nI g ∧ ∀ i, i < c → ∃ s, s < m ∧ H_statementRow i = nI s ∧ H_secondRow i = nI (pc s) ∧ ∃ σ, Mt false σ (tt (cc s)) (tt g) ∧ ∀ v, v < 8 → rf tt n (Q_hitTerms (8 * i + v)) (oT (σ (30 + v)))) ∨
     (H_kind = 3 ∧ Q_hitKind = 3))
theorem RS.grow {tt tt' : Nat → Tm} {n n' m : Nat} {cc pc : Nat → Nat} {pp : Nat → Nat → Nat} {S_count : Int32} {S_premises S_premiseCounts S_conclusions : Nat → Int32} {Q_statements : Int32} {Q_premises Q_counts Q_conclusions : Nat → Int32}
    (h : RS tt n m cc pc pp S_count S_premises S_premiseCounts S_conclusions Q_statements Q_premises Q_counts Q_conclusions) (hx : ∀ u, u < n → tt' u = tt u) (hn : n ≤ n') : RS tt' n' m cc pc pp S_count S_premises S_premiseCounts S_conclusions Q_statements Q_premises Q_counts Q_conclusions := by
  obtain ⟨h1, h2, h3, h4⟩ := h
  refine ⟨h1, h2, h3, fun s hs => ?_⟩
  obtain ⟨⟨a1, a2, a3, a4⟩, b, c⟩ := h4 s hs
  refine ⟨⟨a1, a2, by omega, by rw [hx _ a3]; exact a4⟩, b, fun k hk => ?_⟩
  obtain ⟨c1, c2, c3, c4⟩ := c k hk
  exact ⟨c1, c2, by omega, by rw [hx _ c3]; exact c4⟩
theorem RH.grow {tt tt' : Nat → Tm} {n n' m : Nat} {cc pc : Nat → Nat} {H_kind H_subject H_count : Int32} {H_statementRow H_firstRow H_secondRow : Nat → Int32} {Q_hitKind Q_hits : Int32} {Q_hitOf Q_hitOne Q_hitTwo Q_hitTerms : Nat → Int32}
    (h : RH tt n m cc pc H_kind H_subject H_count H_statementRow H_firstRow H_secondRow Q_hitKind Q_hits Q_hitOf Q_hitOne Q_hitTwo Q_hitTerms) (hc : ∀ s, s < m → cc s < n) (hx : ∀ u, u < n → tt' u = tt u) (hn : n ≤ n') : RH tt' n' m cc pc H_kind H_subject H_count H_statementRow H_firstRow H_secondRow Q_hitKind Q_hits Q_hitOf Q_hitOne Q_hitTwo Q_hitTerms := by
  obtain ⟨c, h1, h2, h3, h4, h5⟩ := h
  refine ⟨c, h1, h2, h3, h4, ?_⟩
  rcases h5 with h5 | ⟨a1, a2, p, hp, a3, a4⟩ | ⟨a1, a2, g, hg, a3, a4⟩ | h5
  · exact Or.inl h5
  · refine Or.inr (Or.inl ⟨a1, a2, p, by omega, a3, fun i hi => ?_⟩)
    obtain ⟨t, b1, b2, σ, b3, b4⟩ := a4 i hi
    exact ⟨t, by omega, b2, σ, by rw [hx p hp, hx t b1]; exact b3, fun v hv => rf_mono hn (rf_congr hx (b4 v hv))⟩
  · refine Or.inr (Or.inr (Or.inl ⟨a1, a2, g, by omega, a3, fun i hi => ?_⟩))
    obtain ⟨s, b1, b2, b3, σ, b4, b5⟩ := a4 i hi
    exact ⟨s, b1, b2, b3, σ, by rw [hx g hg, hx _ (hc s b1)]; exact b4, fun v hv => rf_mono hn (rf_congr hx (b5 v hv))⟩
  · exact Or.inr (Or.inr (Or.inr h5))
def bI (b : Bool) : Int32 := if b = true then 1 else 0
theorem bI_0 (b : Bool) : (bI b = 0) = (b = false) := by cases b <;> decide
def allB (f : Nat → Bool) : Nat → Bool
  | 0 => true
  | k + 1 => allB f k && f k
theorem allB_iff {f : Nat → Bool} {k : Nat} : allB f k = true ↔ ∀ i, i < k → f i = true := by
  induction k with
  | zero => exact ⟨fun _ i hi => by omega, fun _ => rfl⟩
  | succ k ih =>
    show (allB f k && f k) = true ↔ _
    rw [Bool.and_eq_true, ih]
    constructor
    · rintro ⟨h1, h2⟩ i hi
      by_cases e : i = k
      · rw [e]; exact h2
      · exact h1 i (by omega)
    · intro h
      exact ⟨fun i hi => h i (by omega), h k (by omega)⟩
def isTb (n : Nat) (x : Int32) : Bool := decide (f_T_has (nI n) x = some 1)
theorem isTb_iff {n : Nat} (hn : n < 2 ^ 31) (x : Int32) : isTb n x = true ↔ ∃ t, t < n ∧ x = nI t := by
  unfold isTb
  rcases has_em hn x with ⟨t, h1, h2, h3⟩ | ⟨h1, h2⟩
  · rw [h3]; simp; exact ⟨t, h1, h2⟩
  · rw [h2]; simp; exact fun t ht => h1 t ht
theorem has_isTb {n : Nat} (hn : n < 2 ^ 31) (x : Int32) : f_T_has (nI n) x = some (bI (isTb n x)) := by
  unfold isTb
  rcases has_em hn x with ⟨t, h1, h2, h3⟩ | ⟨h1, h2⟩
  · rw [h3]; rfl
  · rw [h2]; rfl
section
variable {tt : Nat → Tm} {n N m : Nat} {ar : Nat → Int32} {sz : Nat → Nat} {cc pc : Nat → Nat} {pp : Nat → Nat → Nat} {T_count : Int32} {T_heads T_places T_olders T_sizes : Nat → Int32} {T_withins : Nat → Int64} {T_newest : Nat → Int32} {Q_all Q_thrown : Int32} {Q_kinds Q_which Q_firsts Q_seconds Q_thirds Q_nexts Q_heads Q_names Q_variables Q_holes Q_sizes : Nat → Int32}
variable {S_count : Int32} {S_premises S_premiseCounts S_conclusions : Nat → Int32} {Q_statements : Int32} {Q_premises Q_counts Q_conclusions : Nat → Int32} {H_kind H_subject H_count : Int32} {H_statementRow H_firstRow H_secondRow : Nat → Int32} {Q_hitKind Q_hits : Int32} {Q_hitOf Q_hitOne Q_hitTwo Q_hitTerms : Nat → Int32} {O_out : Nat → Int64}
def nhB (Q_holes : Nat → Int32) (x : Int32) : Bool := decide (Q_holes x.toNatClampNeg = 0)
def gBk (n : Nat) (c : Int32) (q : Nat → Int32) (k : Nat) : Bool := isTb n c && allB (fun i => isTb n (q i)) k
def fBk (n : Nat) (Q_holes : Nat → Int32) (c : Int32) (q : Nat → Int32) (k : Nat) : Bool := (isTb n c && nhB Q_holes c) && allB (fun i => isTb n (q i) && nhB Q_holes (q i)) k
theorem fBk_g {c : Int32} {q : Nat → Int32} : ∀ k, fBk n Q_holes c q k = true → gBk n c q k = true := by
  intro k h
  unfold fBk at h
  unfold gBk
  simp only [Bool.and_eq_true, allB_iff] at h ⊢
  exact ⟨h.1.1, fun i hi => (h.2 i hi).1⟩
def codeS (g f : Bool) (full : Bool) : Int32 := if g = false then 1 else if f = false then 2 else if full = true then 3 else 0
theorem qstate_loop (hn : n ≤ 100) (hall : Q_all = nI n) (p0 p1 p2 p3 p4 : Int32) {m' : Nat} (hm : m' ≤ 4) : ∀ d, d ≤ m' → ∀ fuel, d < fuel →
    f_Q_state_L73 Q_all Q_holes fuel Q_thrown Q_statements Q_hitKind Q_hits Q_conclusions Q_premises Q_counts p0 p1 p2 p3 p4 (nI m') (bI (gBk n p4 (qf p0 p1 p2 p3) (m' - d))) (bI (fBk n Q_holes p4 (qf p0 p1 p2 p3) (m' - d))) (nI (m' - d)) =
    f_Q_state_B200 Q_all Q_holes Q_thrown Q_statements Q_hitKind Q_hits Q_conclusions Q_premises Q_counts p0 p1 p2 p3 p4 (nI m') (codeS (gBk n p4 (qf p0 p1 p2 p3) m') (fBk n Q_holes p4 (qf p0 p1 p2 p3) m') (decide (Q_statements = 30))) := by
  intro d
  induction d with
  | zero =>
    intro _ fuel hf
    obtain ⟨f, rfl⟩ : ∃ f, fuel = f + 1 := ⟨fuel - 1, by omega⟩
    rw [f_Q_state_L73, if_pos ((nI_leI (by omega) (by omega)).mpr (by omega))]
    simp only [bI_0, Nat.sub_zero]
    unfold codeS
    by_cases c1 : gBk n p4 (qf p0 p1 p2 p3) m' = false
    · rw [if_pos c1, if_pos c1]
    · rw [if_neg c1, if_neg c1]
      by_cases c2 : fBk n Q_holes p4 (qf p0 p1 p2 p3) m' = false
      · rw [if_pos c2, if_pos c2]
      · rw [if_neg c2, if_neg c2]
        by_cases c3 : Q_statements = 30
        · rw [if_pos c3, if_pos (decide_eq_true c3)]
        · rw [if_neg c3, if_neg (by rw [decide_eq_true_eq]; exact c3)]
  | succ d ih =>
    intro hd fuel hf
    obtain ⟨f, rfl⟩ : ∃ f, fuel = f + 1 := ⟨fuel - 1, by omega⟩
    obtain ⟨k, hk⟩ : ∃ k, k = m' - (d + 1) := ⟨_, rfl⟩
    have hk1 : m' - d = k + 1 := by omega
    have ih2 := ih (by omega) f (by omega)
    rw [hk1] at ih2
    rw [← hk, f_Q_state_L73, if_neg (nI_ge (by omega) (by omega))]
    have hsel : ∀ (g : Int32 → Option (Int32 × Int32 × Int32 × Int32 × Int32 × (Nat → Int32) × (Nat → Int32) × (Nat → Int32))), (if nI k = 0 then g p0 else if nI k = 1 then g p1 else if nI k = 2 then g p2 else g p3) = g (qf p0 p1 p2 p3 k) := by
      intro g
      rcases (show k = 0 ∨ k = 1 ∨ k = 2 ∨ k = 3 by omega) with e | e | e | e <;> rw [e]
      · rw [if_pos (by decide)]; rfl
      · rw [if_neg (by decide), if_pos (by decide)]; rfl
      · rw [if_neg (by decide), if_neg (by decide), if_pos (by decide)]; rfl
      · rw [if_neg (by decide), if_neg (by decide), if_neg (by decide)]; rfl
    rw [hsel (fun s => f_Q_state_B111 Q_all Q_holes (f_Q_state_L73 Q_all Q_holes f) Q_thrown Q_statements Q_hitKind Q_hits Q_conclusions Q_premises Q_counts p0 p1 p2 p3 p4 (nI m') (bI (gBk n p4 (qf p0 p1 p2 p3) k)) (bI (fBk n Q_holes p4 (qf p0 p1 p2 p3) k)) (nI k) s)]
    rw [← ih2]
    have hg1 : gBk n p4 (qf p0 p1 p2 p3) (k + 1) = (gBk n p4 (qf p0 p1 p2 p3) k && isTb n (qf p0 p1 p2 p3 k)) := by
      show (isTb n p4 && (allB _ k && _)) = _
      rw [← Bool.and_assoc]; rfl
    have hf1 : fBk n Q_holes p4 (qf p0 p1 p2 p3) (k + 1) = (fBk n Q_holes p4 (qf p0 p1 p2 p3) k && (isTb n (qf p0 p1 p2 p3 k) && nhB Q_holes (qf p0 p1 p2 p3 k))) := by
      show ((isTb n p4 && nhB Q_holes p4) && (allB _ k && _)) = _
      rw [← Bool.and_assoc]; rfl
    unfold f_Q_state_B111 f_Q_state_B132
    rw [hg1, hf1]
    have hfg := fBk_g (n := n) (Q_holes := Q_holes) (c := p4) (q := qf p0 p1 p2 p3) k
    simp only [bI_0, nmE, nI_1, isTerm_has, hall, has_isTb (show n < 2 ^ 31 by omega), bd_s]
    have b0 : (0 : Int32) = bI false := rfl
    have b1 : (1 : Int32) = bI true := rfl
    cases hfb : fBk n Q_holes p4 (qf p0 p1 p2 p3) k with
    | true =>
      rw [hfg hfb]
      cases ht : isTb n (qf p0 p1 p2 p3 k) with
      | false => simp [b0]
      | true =>
        obtain ⟨t, ht1, ht2⟩ := (isTb_iff (by omega) _).mp ht
        have hix : ixb (qf p0 p1 p2 p3 k) 100 = true := by rw [ht2]; exact ixb_t (by omega) (by omega)
        unfold nhB
        by_cases ch : Q_holes (qf p0 p1 p2 p3 k).toNatClampNeg = 0
        · simp [ch, hix, gd_tt, bI]
        · simp [ch, hix, gd_tt, bI]
    | false =>
      cases hgb : gBk n p4 (qf p0 p1 p2 p3) k with
      | false => simp [bI]
      | true =>
        cases ht : isTb n (qf p0 p1 p2 p3 k) with
        | false => simp [bI]
        | true => simp [bI]
end
