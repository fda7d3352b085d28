def cnt (P : Nat → Bool) : Nat → Nat
  | 0 => 0
  | m + 1 => (if P m = true then 1 else 0) + cnt P m
theorem cnt_succ (P : Nat → Bool) (m : Nat) : cnt P (m + 1) = (if P m = true then 1 else 0) + cnt P m := rfl
theorem cnt_le (P : Nat → Bool) (m : Nat) : cnt P m ≤ m := by
  induction m with
  | zero => simp [cnt]
  | succ m ih =>
    rw [cnt_succ]
    split <;> omega
theorem cnt_congr {P R : Nat → Bool} {m : Nat} (h : ∀ x, x < m → P x = R x) : cnt P m = cnt R m := by
  induction m with
  | zero => rfl
  | succ m ih => rw [cnt_succ, cnt_succ, h m (by omega), ih (fun x hx => h x (by omega))]
theorem cnt_drop {P R : Nat → Bool} {m y : Nat} (hy : y < m) (h1 : P y = true) (h2 : R y = false) (h : ∀ x, x < m → x ≠ y → R x = P x) : cnt R m + 1 = cnt P m := by
  induction m with
  | zero => omega
  | succ m ih =>
    rw [cnt_succ, cnt_succ]
    by_cases e : y = m
    · rw [← e, h1, h2, cnt_congr (P := R) (R := P) (fun x hx => h x (by omega) (by omega))]
      simp
      omega
    · rw [h m (by omega) (fun e2 => e e2.symm)]
      have := ih (by omega) (fun x hx hne => h x (by omega) hne)
      omega
/-- how many of the hundred have no image -/
def cn (im : Nat → Int32) : Nat := cnt (fun x => decide (im x = -1)) 100
theorem cn_le (im : Nat → Int32) : cn im ≤ 100 := cnt_le _ _
theorem cn_upd {im : Nat → Int32} {p : Nat} {v : Int32} (hp : p < 100) (h : im p = -1) (hv : v ≠ -1) : cn (upd im p v) + 1 = cn im :=
  cnt_drop hp (decide_eq_true h) (decide_eq_false (by rw [up_s]; exact hv)) (fun x _ hne => by simp only [up_n hne])
def loF (fh : Bool) : Nat := if fh = true then 38 else 30
def zI (fh : Bool) : Int32 := if fh = true then 1 else 0
theorem fre_wh {fh : Bool} {g : Nat} (h : fre fh g) : wh g < 8 ∧ g = loF fh + wh g ∧ 1 ≤ kd g := by
  unfold fre at h
  unfold loF wh kd
  cases fh <;> simp at h ⊢
  · simp [show ¬ g < 30 by omega, show g < 38 by omega]; omega
  · simp [show ¬ g < 30 by omega, show ¬ g < 38 by omega]; omega
section
variable {tt : Nat → Tm} {n n0 : Nat} {ar : Nat → Int32} {sz : Nat → Nat} {Q_all : Int32} {Q_kinds Q_which Q_firsts Q_seconds Q_thirds Q_nexts Q_heads Q_names Q_variables Q_holes Q_sizes Q_places : Nat → Int32} {fh : Bool}
theorem qpart (qt : QTb tt n Q_all Q_kinds Q_which Q_firsts Q_seconds Q_thirds Q_nexts Q_heads) {t : Nat} (ht : t < n) (k : Fin 3) : ∃ x, f_Q_part Q_firsts Q_seconds Q_thirds (nI t) (nI k.val) = some x ∧ rf tt t x (chT k (tt t)) := by
  obtain ⟨-, hn, -, -, hpl⟩ := qt
  obtain ⟨h0, h1, h2⟩ := hpl t ht
  revert k
  unfold f_Q_part
  refine fin3 ?_ ?_ ?_
  · rw [if_pos (show nI (0 : Fin 3).val = 0 by decide)]
    simp (disch := omega) only [ixb_t, gd_tt, nI_clamp]
    exact ⟨_, rfl, h0⟩
  · rw [if_neg (show ¬ nI (1 : Fin 3).val = 0 by decide), if_pos (show nI (1 : Fin 3).val = 1 by decide)]
    simp (disch := omega) only [ixb_t, gd_tt, nI_clamp]
    exact ⟨_, rfl, h1⟩
  · rw [if_neg (show ¬ nI (2 : Fin 3).val = 0 by decide), if_neg (show ¬ nI (2 : Fin 3).val = 1 by decide)]
    simp (disch := omega) only [ixb_t, gd_tt, nI_clamp]
    exact ⟨_, rfl, h2⟩
theorem bB_zero {lo len : Nat} {x : Int32} {T : Tm} (hl : len ≤ 32) (h : bB lo len x T) : x = 0 ↔ ¬ ∃ i, (lo ≤ i ∧ i < lo + len) ∧ std T i := by
  rw [i32_zero]
  constructor
  · rintro h1 ⟨i, ⟨h2, h3⟩, h4⟩
    have := (h (i - lo) (by omega)).mpr ⟨by omega, by rw [show lo + (i - lo) = i by omega]; exact h4⟩
    rw [h1 (i - lo) (by omega)] at this
    exact absurd this (by decide)
  · intro h1 i hi
    cases e : x.toBitVec.getLsbD i with
    | false => rfl
    | true =>
      obtain ⟨h2, h3⟩ := (h i hi).mp e
      exact absurd ⟨lo + i, ⟨by omega, by omega⟩, h3⟩ h1
theorem qfree (hq : QK tt n0 sz Q_names Q_variables Q_holes Q_sizes) {p : Nat} (hp : p < n0) : ((if fh = true then Q_holes p else Q_variables p) = 0) ↔ ¬ hasF fh (tt p) := by
  obtain ⟨-, h2, h3, -⟩ := hq p hp
  unfold hasF fre
  cases fh
  · simpa using bB_zero (by omega) h2
  · simpa using bB_zero (by omega) h3
/-- pushing the places of a pair -/
theorem push_loop (qt : QTb tt n Q_all Q_kinds Q_which Q_firsts Q_seconds Q_thirds Q_nexts Q_heads) {p t : Nat} (hp : p < n) (ht : t < n) {g m : Nat} (hg : g < 30) (hm : m ≤ 3) (ep : tt p [] = g + 1) (hpl : Q_places g = nI m) (K : (Nat → Int32) → (Nat → Int32) → (Nat → Int32) → (Nat → Int32) → Int32 → Int32 → Option (Int32 × (Nat → Int32) × (Nat → Int32) × (Nat → Int32) × (Nat → Int32))) (im bd : Nat → Int32) (z : Int32) :
    ∀ d, d ≤ m → ∀ fuel, d < fuel → ∀ (ws wf : Nat → Int32) (k : Nat), k + 3 ≤ 400 → ∃ ws' wf', f_Q_matches_L200 Q_kinds Q_which Q_firsts Q_seconds Q_thirds Q_variables Q_holes Q_places K fuel im bd ws wf z (nI (k + (m - d))) (nI p) (nI t) (nI (m - d)) = K im bd ws' wf' z (nI (k + m)) ∧
      (∀ i, i < k + (m - d) → ws' i = ws i ∧ wf' i = wf i) ∧ (∀ j : Fin 3, m - d ≤ j.val → j.val < m → rf tt p (ws' (k + j.val)) (chT j (tt p)) ∧ rf tt t (wf' (k + j.val)) (chT j (tt t))) := by
  have hn := qt.2.1
  obtain ⟨-, ew⟩ := qt.2.2.2.1 p hp g ep
  rw [show wh g = g by unfold wh; rw [if_pos hg]] at ew
  intro d
  induction d with
  | zero =>
    intro _ fuel hf ws wf k hk
    obtain ⟨f, rfl⟩ : ∃ f, fuel = f + 1 := ⟨fuel - 1, by omega⟩
    refine ⟨ws, wf, ?_, fun i _ => ⟨rfl, rfl⟩, fun j h1 h2 => by omega⟩
    rw [f_Q_matches_L200]
    simp (disch := omega) only [ixb_t, gd_tt, nI_clamp]
    rw [ew]
    simp (disch := omega) only [ixb_t, gd_tt, nI_clamp]
    rw [hpl, if_pos ((nI_leI (by omega) (by omega)).mpr (by omega))]
    rfl
  | succ d ih =>
    intro hd fuel hf ws wf k hk
    obtain ⟨f, rfl⟩ : ∃ f, fuel = f + 1 := ⟨fuel - 1, by omega⟩
    obtain ⟨j, hj⟩ : ∃ j : Fin 3, j.val = m - (d + 1) := ⟨⟨m - (d + 1), by omega⟩, rfl⟩
    obtain ⟨x, hx, rx⟩ := qpart qt hp j
    obtain ⟨y, hy, ry⟩ := qpart qt ht j
    rw [hj] at hx hy
    obtain ⟨ws', wf', h1, h2, h3⟩ := ih (by omega) f (by omega) (upd ws (k + (m - (d + 1))) x) (upd wf (k + (m - (d + 1))) y) k hk
    refine ⟨ws', wf', ?_, fun i hi => ?_, fun j' h4 h5 => ?_⟩
    · rw [f_Q_matches_L200]
      simp (disch := omega) only [ixb_t, gd_tt, nI_clamp]
      rw [ew]
      simp (disch := omega) only [ixb_t, gd_tt, nI_clamp]
      rw [hpl, if_neg (nI_ge (by omega) (by omega)), hx, bd_s, hy]
      simp (disch := omega) only [ixb_t, gd_tt, nI_clamp, nmE, bd_s, nI_1]
      rw [show k + (m - (d + 1)) + 1 = k + (m - d) by omega, show m - (d + 1) + 1 = m - d by omega]
      exact h1
    · obtain ⟨a, b⟩ := h2 i (by omega)
      rw [a, b, up_n (by omega), up_n (by omega)]
      exact ⟨rfl, rfl⟩
    · by_cases e : j'.val = j.val
      · have ej : j' = j := Fin.ext e
        obtain ⟨a, b⟩ := h2 (k + (m - (d + 1))) (by omega)
        rw [ej, hj, a, b, up_s, up_s]
        exact ⟨rx, ry⟩
      · exact h3 j' (by omega) h5
end
