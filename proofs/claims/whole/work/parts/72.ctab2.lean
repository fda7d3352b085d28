/-- which heads give way: holes (true) or variables (false) -/
def fre (fh : Bool) (h : Nat) : Prop := if fh = true then 38 ≤ h ∧ h < 42 else 30 ≤ h ∧ h < 38
def bitsOf (fh : Bool) : Int64 := if fh = true then (4123168604160 : Int64) else (273804165120 : Int64)
def hasF (fh : Bool) (T : Tm) : Prop := ∃ i, fre fh i ∧ std T i
theorem fre_lt {fh : Bool} {h : Nat} (hf : fre fh h) : 30 ≤ h ∧ h < 42 := by
  unfold fre at hf
  cases fh <;> simp at hf <;> omega
theorem hole_bits : ∀ i : Nat, i < 64 → (4123168604160 : Int64).toBitVec.getLsbD i = decide (38 ≤ i ∧ i < 42) := by decide +kernel
theorem var_bits : ∀ i : Nat, i < 64 → (273804165120 : Int64).toBitVec.getLsbD i = decide (30 ≤ i ∧ i < 38) := by decide +kernel
theorem bitsOf_bit (fh : Bool) {i : Nat} (hi : i < 64) : (bitsOf fh).toBitVec.getLsbD i = true ↔ fre fh i := by
  unfold bitsOf fre
  cases fh
  · simp only [Bool.false_eq_true, if_false, var_bits i hi, decide_eq_true_eq]
  · simp only [if_true, hole_bits i hi, decide_eq_true_eq]
theorem i64_zero {x : Int64} : x = 0 ↔ ∀ i, i < 64 → x.toBitVec.getLsbD i = false := by
  constructor
  · intro e i _
    rw [e]
    simp
  · intro h
    have : x.toBitVec = (0 : Int64).toBitVec := by
      apply BitVec.eq_of_getLsbD_eq
      intro i hi
      rw [h i hi]
      simp
    exact Int64.toBitVec_inj.mp this
theorem i32_zero {x : Int32} : x = 0 ↔ ∀ i, i < 32 → x.toBitVec.getLsbD i = false := by
  constructor
  · intro e i _
    rw [e]
    simp
  · intro h
    have : x.toBitVec = (0 : Int32).toBitVec := by
      apply BitVec.eq_of_getLsbD_eq
      intro i hi
      rw [h i hi]
      simp
    exact Int32.toBitVec_inj.mp this
theorem has_t {n t : Nat} (ht : t < n) (hn : n < 2 ^ 31) : f_T_has (nI n) (nI t) = some 1 := by
  unfold f_T_has
  rw [if_neg (nI_pos (by omega)), if_neg (nI_ge ht hn)]
theorem has_f {n : Nat} {x : Int32} (hn : n < 2 ^ 31) (h : ∀ t, t < n → x ≠ nI t) : f_T_has (nI n) x = some 0 := by
  unfold f_T_has
  by_cases c : x < 0
  · rw [if_pos c]
  · rw [if_neg c]
    obtain ⟨j, hj, e⟩ := nI_of c
    rw [e, if_pos ((nI_leI hn hj).mpr ?_)]
    exact Nat.le_of_not_lt (fun h1 => h j h1 e)
section
variable {tt : Nat → Tm} {n N : Nat} {ar : Nat → Int32} {sz : Nat → Nat} {T_count : Int32} {T_heads T_places T_olders T_sizes : Nat → Int32} {T_withins : Nat → Int64} {T_newest : Nat → Int32}
theorem head_t (ct : CT tt n N sz T_count T_heads T_places T_olders T_sizes T_withins T_newest) {t h : Nat} (ht : t < n) (hh : tt t [] = h + 1) : f_T_head T_count N T_heads (nI t) = some (nI h) := by
  obtain ⟨hcnt, hnN, -, hN, -, hhd, -⟩ := ct
  unfold f_T_head
  rw [hcnt, if_neg (nI_pos (by omega)), if_neg (nI_ge ht (by omega))]
  simp (disch := omega) only [ixb_t, gd_tt, nI_clamp]
  rw [hhd t ht h hh]
theorem head_m (T_count : Int32) (N : Nat) (T_heads : Nat → Int32) : f_T_head T_count N T_heads (-1) = some (-1) := by
  unfold f_T_head
  rw [if_pos m1_lt]
theorem place_v (ct : CT tt n N sz T_count T_heads T_places T_olders T_sizes T_withins T_newest) {t : Nat} (ht : t < n) {k : Nat} (hk : k < 3) : f_T_place T_count (3 * N) T_places (nI t) (nI k) = some (T_places (3 * t + k)) := by
  obtain ⟨hcnt, hnN, -, hN, -⟩ := ct
  unfold f_T_place
  rw [hcnt, if_neg (nI_pos (by omega)), if_neg (nI_ge ht (by omega)), if_neg (nI_pos (by omega)), if_neg (show ¬ (3 : Int32) ≤ nI k from (nI_ge hk (by omega) : ¬ nI 3 ≤ nI k))]
  simp (disch := omega) only [nI_x3, nI_add, ixb_t, gd_tt, nI_clamp]
theorem place_m (T_count : Int32) (N : Nat) (T_places : Nat → Int32) (k : Int32) : f_T_place T_count N T_places (-1) k = some (-1) := by
  unfold f_T_place
  rw [if_pos m1_lt]
theorem holds_t (ct : CT tt n N sz T_count T_heads T_places T_olders T_sizes T_withins T_newest) {t : Nat} (ht : t < n) (fh : Bool) : (hasF fh (tt t) → f_T_holds T_count N T_withins (nI t) (bitsOf fh) = some 1) ∧ (¬ hasF fh (tt t) → f_T_holds T_count N T_withins (nI t) (bitsOf fh) = some 0) := by
  obtain ⟨hcnt, hnN, -, hN, -, -, -, -, hw⟩ := ct
  have hz : (lg_cmp ((T_withins t) &&& bitsOf fh) (0 : Int64)) = 0 ↔ ¬ hasF fh (tt t) := by
    rw [lg_cmp_eq, i64_zero]
    constructor
    · rintro h ⟨i, h1, h2⟩
      have hi := fre_lt h1
      have := h i (by omega)
      rw [Int64.toBitVec_and, BitVec.getLsbD_and, (bitsOf_bit fh (by omega)).mpr h1, (hw t ht i (by omega)).mpr h2] at this
      exact absurd this (by decide)
    · intro h i hi
      rw [Int64.toBitVec_and, BitVec.getLsbD_and]
      cases e1 : (T_withins t).toBitVec.getLsbD i with
      | false => rfl
      | true =>
        cases e2 : (bitsOf fh).toBitVec.getLsbD i with
        | false => rfl
        | true => exact absurd ⟨i, (bitsOf_bit fh hi).mp e2, (hw t ht i hi).mp e1⟩ h
  unfold f_T_holds
  rw [hcnt, if_neg (nI_pos (by omega)), if_neg (nI_ge ht (by omega))]
  simp (disch := omega) only [ixb_t, gd_tt, nI_clamp]
  constructor
  · intro h
    rw [if_neg (fun h2 => hz.mp h2 h)]
  · intro h
    rw [if_pos (hz.mpr h)]
theorem CT.congr {tt' : Nat → Tm} (ct : CT tt n N sz T_count T_heads T_places T_olders T_sizes T_withins T_newest) (h : ∀ u, u < n → tt' u = tt u) : CT tt' n N sz T_count T_heads T_places T_olders T_sizes T_withins T_newest := by
  obtain ⟨hcnt, hnN, h256, hN, hch, hhd, hpl, hsz, hwi⟩ := ct
  refine ⟨hcnt, hnN, h256, hN, hch, fun t ht => ?_, fun t ht k => ?_, hsz, fun t ht => ?_⟩
  · rw [h t ht]; exact hhd t ht
  · rw [h t ht]; exact rf_congr (fun u hu => h u (by omega)) (hpl t ht k)
  · rw [h t ht]; exact hwi t ht
theorem keep_loop (hN : N ≤ 10000) {m : Nat} : ∀ d, ∀ fuel, d < fuel → ∀ T_newest, m + d ≤ N → chnC (m + d) T_heads T_places T_olders T_newest →
    ∃ T_newest', f_T_keepBelow_L13 N T_heads (3 * N) T_places N T_olders fuel (nI (m + d)) T_newest (nI m) (nI (m + d) - 1) = some (nI m, T_newest') ∧ chnC m T_heads T_places T_olders T_newest' := by
  intro d
  induction d with
  | zero =>
    intro fuel hf T_newest hm hch
    obtain ⟨f, rfl⟩ : ∃ f, fuel = f + 1 := ⟨fuel - 1, by omega⟩
    refine ⟨T_newest, ?_, hch⟩
    rw [f_T_keepBelow_L13, if_pos]
    · rfl
    · cases m with
      | zero => decide
      | succ m => rw [Nat.add_zero, nI_pred]; exact nI_lt (by omega) (by omega)
  | succ d ih =>
    intro fuel hf T_newest hm hch
    obtain ⟨f, rfl⟩ : ∃ f, fuel = f + 1 := ⟨fuel - 1, by omega⟩
    rw [f_T_keepBelow_L13, show m + (d + 1) = (m + d) + 1 by omega, nI_pred, if_neg (nI_nlt (by omega) (by omega))]
    have hp : ∀ k : Nat, k < 3 → f_T_place (nI (m + d + 1)) (3 * N) T_places (nI (m + d)) (nI k) = some (T_places (3 * (m + d) + k)) := by
      intro k hk
      unfold f_T_place
      rw [if_neg (nI_pos (by omega)), if_neg (nI_ge (by omega) (by omega)), if_neg (nI_pos (by omega)), if_neg (show ¬ (3 : Int32) ≤ nI k from (nI_ge hk (by omega) : ¬ nI 3 ≤ nI k))]
      simp (disch := omega) only [nI_x3, nI_add, ixb_t, gd_tt, nI_clamp]
    have p0 : f_T_place (nI (m + d + 1)) (3 * N) T_places (nI (m + d)) 0 = some (T_places (3 * (m + d))) := hp 0 (by omega)
    have p1 : f_T_place (nI (m + d + 1)) (3 * N) T_places (nI (m + d)) 1 = some (T_places (3 * (m + d) + 1)) := hp 1 (by omega)
    have p2 : f_T_place (nI (m + d + 1)) (3 * N) T_places (nI (m + d)) 2 = some (T_places (3 * (m + d) + 2)) := hp 2 (by omega)
    rw [p0, p1, p2]
    simp (disch := omega) only [bd_s, bucket_eq, nmE, ixb_t, gd_tt, nI_clamp]
    obtain ⟨j, hj, ej⟩ := bkC_in (T_heads (m + d)) (T_places (3 * (m + d))) (T_places (3 * (m + d) + 1)) (T_places (3 * (m + d) + 2))
    rw [ej]
    simp (disch := omega) only [bd_s, bucket_eq, nmE, ixb_t, gd_tt, nI_clamp]
    have hch' : chnC (m + d) T_heads T_places T_olders (upd T_newest j (T_olders (m + d))) := by
      have hch1 : chnC ((m + d) + 1) T_heads T_places T_olders T_newest := hch
      refine ⟨fun b hb => ?_, fun t ht => hch1.2 t (by omega)⟩
      by_cases e : b = j
      · rw [e, up_s, hch1.2 (m + d) (by omega)]
        exact congrArg oI (lst_congr (fun u hu => by show decide (_ = bkC _ _ _ _) = _; rw [ej]))
      · rw [up_n e, hch1.1 b hb, lst_succ, if_neg]
        simp only [decide_eq_true_eq]
        show ¬ bkC _ _ _ _ = _
        rw [ej]
        exact fun e2 => e (nI_inj (by omega) (by omega) e2).symm
    obtain ⟨T_newest', h1, h2⟩ := ih f (by omega) _ (by omega) hch'
    refine ⟨T_newest', ?_, h2⟩
    rw [← Int32.sub_eq_add_neg]
    exact h1
theorem keep_eq (ct : CT tt n N sz T_count T_heads T_places T_olders T_sizes T_withins T_newest) {m : Nat} (hm : m ≤ n) : ∃ T_newest', f_T_keepBelow T_count N T_heads (3*N) T_places N T_olders T_newest (nI m) = some (nI m, T_newest') ∧ CT tt m N sz (nI m) T_heads T_places T_olders T_sizes T_withins T_newest' := by
  obtain ⟨hcnt, hnN, h256, hN, hch, hhd, hpl, hsz, hwi⟩ := ct
  obtain ⟨d, rfl⟩ : ∃ d, n = m + d := ⟨n - m, by omega⟩
  obtain ⟨T_newest', h1, h2⟩ := keep_loop (T_heads := T_heads) hN d FU (by unfold FU; omega) T_newest hnN hch
  refine ⟨T_newest', ?_, rfl, by omega, h256, hN, h2, fun t ht => hhd t (by omega), fun t ht => hpl t (by omega), fun t ht => hsz t (by omega), fun t ht => hwi t (by omega)⟩
  unfold f_T_keepBelow
  rw [nmE, nmE, if_neg (nI_pos (by omega)), hcnt]
  exact h1
end
