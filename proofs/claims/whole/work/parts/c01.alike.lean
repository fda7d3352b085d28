def lfT (g : Nat) : Tm := mkT g (fun _ => nilT)
theorem lfT_inj {a b : Nat} (h : lfT a = lfT b) : a = b := by
  have : lfT a [] = lfT b [] := by rw [h]
  have h1 : a + 1 = b + 1 := this
  omega
/-- the substitution goes the way of the row -/
def cpt (th : Nat → Int32) (σ τ : Nat → Option Tm) : Prop := ∀ v w, v < 8 → w < 8 → th v = nI w → σ (30 + v) = some (lfT (30 + w)) ∧ τ (30 + w) = some (lfT (30 + v))
def thO (th bk : Nat → Int32) : Prop := (∀ v, v < 8 → th v = -1 ∨ ∃ w, w < 8 ∧ th v = nI w ∧ bk w = nI v) ∧ (∀ w, w < 8 → bk w = -1 ∨ ∃ v, v < 8 ∧ bk w = nI v ∧ th v = nI w)
def supT (σ : Nat → Option Tm) : Prop := ∀ h, σ h ≠ none → 30 ≤ h ∧ h < 38
theorem supT.lo {σ : Nat → Option Tm} (hs : supT σ) {h : Nat} (hh : ¬ (30 ≤ h ∧ h < 38)) : σ h = none := by
  cases e : σ h with
  | none => rfl
  | some U => exact absurd (hs h (by rw [e]; exact fun e => by cases e)) hh
/-- defined at the variables, and nowhere else -/
def fulT (σ : Nat → Option Tm) : Prop := ∀ h, σ h ≠ none ↔ (30 ≤ h ∧ h < 38)
theorem fulT.sup {σ : Nat → Option Tm} (h : fulT σ) : supT σ := fun g hg => (h g).mp hg
def sgT (th : Nat → Int32) : Nat → Option Tm := fun h => if 30 ≤ h ∧ h < 38 ∧ th (h - 30) ≠ -1 then some (lfT (30 + (th (h - 30)).toNatClampNeg)) else none
theorem sgT_some {th : Nat → Int32} {v w : Nat} (hv : v < 8) (hw : w < 8) (e : th v = nI w) : sgT th (30 + v) = some (lfT (30 + w)) := by
  unfold sgT
  rw [show 30 + v - 30 = v by omega, if_pos ⟨by omega, by omega, by rw [e]; exact nI_nm1 (by omega)⟩, e, nI_clamp (by omega)]
theorem sgT_sup (th : Nat → Int32) : supT (sgT th) := by
  intro h hh
  unfold sgT at hh
  by_cases c : 30 ≤ h ∧ h < 38 ∧ th (h - 30) ≠ -1
  · exact ⟨c.1, c.2.1⟩
  · rw [if_neg c] at hh; exact absurd rfl hh
def dnA (im ws wf : Nat → Int32) (k c d : Nat) : Prop := im c = nI d ∨ ∃ i, i < k ∧ ws i = nI c ∧ wf i = nI d
def AI (tt : Nat → Tm) (n p0 t0 : Nat) (im ws wf th bk : Nat → Int32) (k : Nat) : Prop :=
  (∀ x, x < 100 → im x = -1 ∨ (x < n ∧ (∀ h, std (tt x) h → std (tt p0) h) ∧ ∃ u, u < n ∧ im x = nI u)) ∧
  (∀ i, i < k → ∃ p t, p < n ∧ t < n ∧ ws i = nI p ∧ wf i = nI t ∧ (∀ h, std (tt p) h → std (tt p0) h)) ∧
  (∀ x u, x < 100 → u < n → im x = nI u → ∀ g, tt x [] = g + 1 → (g < 30 → tt u [] = g + 1 ∧ ∀ j : Fin 3, chT j (tt x) ≠ nilT → ∃ c d, c < x ∧ d < n ∧ tt c = chT j (tt x) ∧ tt d = chT j (tt u) ∧ dnA im ws wf k c d) ∧ (30 ≤ g → g < 38 ∧ ∃ v, v < 8 ∧ tt u [] = 30 + v + 1 ∧ th (g - 30) = nI v)) ∧
  thO th bk ∧ dnA im ws wf k p0 t0
def ivB (tt : Nat → Tm) (n : Nat) (σ τ : Nat → Option Tm) (im ws wf th : Nat → Int32) (k : Nat) : Prop :=
  cpt th σ τ ∧ (∀ x u, x < 100 → u < n → im x = nI u → tt u = sub σ (tt x) ∧ tt x = sub τ (tt u)) ∧ ∀ i p t, i < k → p < n → t < n → ws i = nI p → wf i = nI t → tt t = sub σ (tt p) ∧ tt p = sub τ (tt t)
section
variable {tt : Nat → Tm} {n : Nat} {ar : Nat → Int32} {sz : Nat → Nat} {Q_all : Int32} {Q_kinds Q_which Q_firsts Q_seconds Q_thirds Q_nexts Q_heads Q_names Q_variables Q_holes Q_sizes : Nat → Int32}
theorem leaf_lf (w : WF tt n ar) {x g : Nat} (hx : x < n) (e : tt x [] = g + 1) (hg : 30 ≤ g) : tt x = lfT g :=
  Tm_ext e (fun k => (leaf_nil w hx e hg k).trans (show nilT = chT k (lfT g) from rfl))
theorem dnA_pop {im ws wf : Nat → Int32} {k p t c d : Nat} (hp : p < 2 ^ 31) (ht : t < 2 ^ 31) (hc : c < 2 ^ 31) (hd : d < 2 ^ 31) (hw : ws k = nI p) (hf : wf k = nI t) {im' ws' wf' : Nat → Int32} {k' : Nat} (hk : k ≤ k') (hX : ivX im im') (hs : ∀ i, i < k → ws' i = ws i ∧ wf' i = wf i) (hdone : dnA im' ws' wf' k' p t)
    (h : dnA im ws wf (k + 1) c d) : dnA im' ws' wf' k' c d := by
  rcases h with h | ⟨i, h1, h2, h3⟩
  · exact Or.inl (by rw [hX c (by rw [h]; exact nI_nm1 hd), h])
  · by_cases e : i = k
    · rw [e] at h2 h3
      have e1 : p = c := nI_inj hp hc (hw.symm.trans h2)
      have e2 : t = d := nI_inj ht hd (hf.symm.trans h3)
      rw [← e1, ← e2]
      exact hdone
    · obtain ⟨a, b⟩ := hs i (by omega)
      exact Or.inr ⟨i, by omega, by rw [a, h2], by rw [b, h3]⟩
theorem apush (w : WF tt n ar) (qt : QTb tt n Q_all Q_kinds Q_which Q_firsts Q_seconds Q_thirds Q_nexts Q_heads) {p t g m : Nat} (hp : p < n) (ht : t < n) (hg : g < 30) (hm : m ≤ 3) (eg : tt p [] = g + 1) (hmn : ∀ k : Fin 3, chT k (tt p) = nilT ↔ m ≤ k.val) (K : (Nat → Int32) → (Nat → Int32) → (Nat → Int32) → (Nat → Int32) → (Nat → Int32) → Int32 → Option (Int32 × (Nat → Int32) × (Nat → Int32) × (Nat → Int32) × (Nat → Int32) × (Nat → Int32))) (im th bk : Nat → Int32) {k : Nat} (hk : k + 3 ≤ 400) :
    ∀ d, d ≤ 3 → ∀ fuel, d < fuel → ∀ ws wf : Nat → Int32, ∃ ws' wf', f_Q_areAlike_L238 Q_kinds Q_which Q_firsts Q_seconds Q_thirds K fuel im ws wf th bk (nI (k + min (3 - d) m)) (nI p) (nI t) (nI (3 - d)) = K im ws' wf' th bk (nI (k + m)) ∧
      (∀ i, i < k + min (3 - d) m → ws' i = ws i ∧ wf' i = wf i) ∧ ∀ j : Fin 3, 3 - d ≤ j.val → j.val < m → rf tt p (ws' (k + j.val)) (chT j (tt p)) ∧ rf tt t (wf' (k + j.val)) (chT j (tt t)) := by
  have hn := qt.2.1
  intro d
  induction d with
  | zero =>
    intro _ fuel hf ws wf
    obtain ⟨f, rfl⟩ : ∃ f, fuel = f + 1 := ⟨fuel - 1, by omega⟩
    refine ⟨ws, wf, ?_, fun i _ => ⟨rfl, rfl⟩, fun j h1 h2 => by omega⟩
    rw [f_Q_areAlike_L238, if_pos (show (3 : Int32) ≤ nI (3 - 0) by decide), show min (3 - 0) m = m by omega]
  | succ d ih =>
    intro hd fuel hf ws wf
    obtain ⟨f, rfl⟩ : ∃ f, fuel = f + 1 := ⟨fuel - 1, by omega⟩
    obtain ⟨j, hj⟩ : ∃ j, j = 3 - (d + 1) := ⟨_, rfl⟩
    have hj3 : j < 3 := by omega
    obtain ⟨ek, -⟩ := qt.2.2.2.1 p hp g eg
    have kg : kd g = 0 := by unfold kd; rw [if_pos hg]
    obtain ⟨x, x1, x2⟩ := qpart qt hp ⟨j, hj3⟩
    obtain ⟨y, y1, y2⟩ := qpart qt ht ⟨j, hj3⟩
    simp only at x1 y1
    rw [show 3 - d = j + 1 by omega] at ih
    rw [← hj]
    have hL : ∀ kk ws wf, f_Q_areAlike_L238 Q_kinds Q_which Q_firsts Q_seconds Q_thirds K (f + 1) im ws wf th bk kk (nI p) (nI t) (nI j) = if x = -1 then f_Q_areAlike_L238 Q_kinds Q_which Q_firsts Q_seconds Q_thirds K f im ws wf th bk kk (nI p) (nI t) (nI (j + 1)) else
        gd (ixb kk 400) <| nm (upd ws kk.toNatClampNeg x) fun g55 => gd (ixb kk 400) <| nm (upd wf kk.toNatClampNeg y) fun g58 => f_Q_areAlike_L238 Q_kinds Q_which Q_firsts Q_seconds Q_thirds K f im g55 g58 th bk (kk + 1) (nI p) (nI t) (nI (j + 1)) := by
      intro kk ws wf
      rw [f_Q_areAlike_L238, if_neg (show ¬ (3 : Int32) ≤ nI j from (nI_ge hj3 (by omega) : ¬ nI 3 ≤ nI j)), gd_t (ixb_t (by omega) (by omega)), nI_clamp (by omega), ek, kg, if_pos nI_0, x1, bd_s, y1]
      simp only [nmE, bd_s, nI_1]
    rw [hL]
    rcases x2 with ⟨a1, a2⟩ | ⟨c, hc, a1, a2⟩
    · have hmj : m ≤ j := (hmn ⟨j, hj3⟩).mp a2
      rw [if_pos a1]
      obtain ⟨ws', wf', l1, l2, l3⟩ := ih (by omega) f (by omega) ws wf
      rw [show min (j + 1) m = min j m by omega] at l1 l2
      exact ⟨ws', wf', l1, l2, fun i h1 h2 => by omega⟩
    · have hmj : ¬ m ≤ j := fun h => by
        have := (hmn ⟨j, hj3⟩).mpr h
        exact w.ne (by omega) (a2.trans this)
      have hx : ¬ x = -1 := by rw [a1]; exact nI_nm1 (by omega)
      rw [if_neg hx, show min j m = j by omega, gd_t (ixb_t (by omega) (by omega)), nmE, gd_t (ixb_t (by omega) (by omega)), nmE, nI_clamp (by omega), nI_1]
      obtain ⟨ws', wf', l1, l2, l3⟩ := ih (by omega) f (by omega) (upd ws (k + j) x) (upd wf (k + j) y)
      rw [show min (j + 1) m = j + 1 by omega, ← Nat.add_assoc] at l1 l2
      refine ⟨ws', wf', l1, fun i hi => ?_, fun i h1 h2 => ?_⟩
      · obtain ⟨b1, b2⟩ := l2 i (by omega)
        rw [b1, b2, up_n (by omega), up_n (by omega)]
        exact ⟨rfl, rfl⟩
      · by_cases e : i.val = j
        · obtain ⟨b1, b2⟩ := l2 (k + j) (by omega)
          rw [e, b1, b2, up_s, up_s, show i = ⟨j, hj3⟩ from Fin.ext e]
          exact ⟨Or.inr ⟨c, hc, a1, a2⟩, y2⟩
        · exact l3 i (by omega) h2
end
