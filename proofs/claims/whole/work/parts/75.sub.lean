def rtS (σ : Nat → Option Tm) : Nat → Option Tm
  | 0 => none
  | h + 1 => σ h
def subP (σ : Nat → Option Tm) : List (Fin 3) → Tm → Nat
  | [], T => match rtS σ (T []) with
    | some U => U []
    | none => T []
  | k :: q, T => match rtS σ (T []) with
    | some U => U (k :: q)
    | none => subP σ q (chT k T)
/-- the tree with its leaves put in -/
def sub (σ : Nat → Option Tm) (T : Tm) : Tm := fun p => subP σ p T
theorem sub_some {σ : Nat → Option Tm} {T U : Tm} (h : rtS σ (T []) = some U) : sub σ T = U := by
  funext p
  cases p with
  | nil => simp only [sub, subP, h]
  | cons k q => simp only [sub, subP, h]
theorem sub_root {σ : Nat → Option Tm} {T : Tm} (h : rtS σ (T []) = none) : sub σ T [] = T [] := by
  simp only [sub, subP, h]
theorem sub_ch {σ : Nat → Option Tm} {T : Tm} (h : rtS σ (T []) = none) (k : Fin 3) : chT k (sub σ T) = sub σ (chT k T) := by
  funext q
  simp only [chT, sub, subP, h]
theorem sub_nil (σ : Nat → Option Tm) : sub σ nilT = nilT := by
  have : ∀ p, subP σ p nilT = 0 := by
    intro p
    induction p with
    | nil => rfl
    | cons k q ih => exact ih
  funext p
  exact this p
theorem sub_mk {σ : Nat → Option Tm} {h : Nat} {C : Fin 3 → Tm} (e : σ h = none) : sub σ (mkT h C) = mkT h (fun k => sub σ (C k)) := by
  have e2 : rtS σ (mkT h C []) = none := e
  refine Tm_ext (sub_root e2) (fun k => ?_)
  rw [sub_ch e2]
  rfl
theorem sub_congr {σ τ : Nat → Option Tm} {T : Tm} (h : ∀ g, std T g → σ g = τ g) : sub σ T = sub τ T := by
  have : ∀ p, ∀ T : Tm, (∀ g, std T g → σ g = τ g) → subP σ p T = subP τ p T := by
    intro p
    induction p with
    | nil =>
      intro T hT
      have hr : rtS σ (T []) = rtS τ (T []) := by
        cases e : T [] with
        | zero => rfl
        | succ g => exact hT g ⟨[], e⟩
      simp only [subP, hr]
    | cons k q ih =>
      intro T hT
      have hr : rtS σ (T []) = rtS τ (T []) := by
        cases e : T [] with
        | zero => rfl
        | succ g => exact hT g ⟨[], e⟩
      simp only [subP, hr, ih (chT k T) (fun g hg => hT g (std_ch hg))]
  funext p
  exact this p T h
theorem sub_id {σ : Nat → Option Tm} {T : Tm} (h : ∀ g, std T g → σ g = none) : sub σ T = T := by
  rw [sub_congr (τ := fun _ => none) h]
  have : ∀ p, ∀ T : Tm, subP (fun _ => none) p T = T p := by
    intro p
    induction p with
    | nil =>
      intro T
      have hr : rtS (fun _ => none) (T []) = none := by cases T [] <;> rfl
      simp only [subP, hr]
    | cons k q ih =>
      intro T
      have hr : rtS (fun _ => none) (T []) = none := by cases T [] <;> rfl
      simp only [subP, hr, ih]
      rfl
  funext p
  exact this p T
/-- P becomes T, its free heads by σ -/
def Mt (fh : Bool) (σ : Nat → Option Tm) (P T : Tm) : Prop := sub σ P = T ∧ ∀ h, (σ h ≠ none ↔ (fre fh h ∧ std P h))
theorem rtS_lo {fh : Bool} {σ : Nat → Option Tm} (hg : ∀ h, σ h ≠ none → fre fh h) {g : Nat} (h : ¬ fre fh g) : σ g = none := by
  cases e : σ g with
  | none => rfl
  | some U => exact absurd (hg g (by rw [e]; simp)) h
section
variable {tt : Nat → Tm} {n : Nat} {ar : Nat → Int32} {fh : Bool}
/-- what a free head at the root says of the term -/
theorem leaf_nil (w : WF tt n ar) {t g : Nat} (ht : t < n) (e : tt t [] = g + 1) (hg : 30 ≤ g) : ∀ k, chT k (tt t) = nilT := by
  obtain ⟨h, h1, h2, h3, -⟩ := w.2.1 t ht
  exact h3 (by omega)
theorem leaf_std (w : WF tt n ar) {t g i : Nat} (ht : t < n) (e : tt t [] = g + 1) (hg : 30 ≤ g) (hs : std (tt t) i) : i = g := by
  rcases std_or hs with h | ⟨k, h⟩
  · omega
  · rw [leaf_nil w ht e hg k] at h
    exact absurd h (std_nil i)
theorem leaf_uni (w : WF tt n ar) {t u g : Nat} (ht : t < n) (hu : u < n) (e : tt t [] = g + 1) (e2 : tt u [] = g + 1) (hg : 30 ≤ g) : t = u :=
  w.1 t ht u hu (Tm_ext (e.trans e2.symm) (fun k => by rw [leaf_nil w ht e hg k, leaf_nil w hu e2 hg k]))
theorem Mt_uni (w : WF tt n ar) {σ τ : Nat → Option Tm} {t : Nat} (ht : t < n) {T : Tm} (h1 : Mt fh σ (tt t) T) (h2 : Mt fh τ (tt t) T) : σ = τ := by
  have hs : ∀ h, σ h ≠ none → fre fh h := fun h e => ((h1.2 h).mp e).1
  have hτ : ∀ h, τ h ≠ none → fre fh h := fun h e => ((h2.2 h).mp e).1
  have key : ∀ u, u < n → (∀ g, fre fh g → std (tt u) g → σ g ≠ none ∧ τ g ≠ none) → sub σ (tt u) = sub τ (tt u) → ∀ h, fre fh h → std (tt u) h → σ h = τ h := by
    intro u
    induction u using Nat.strongRecOn with
    | ind u ih =>
      intro hu hd he h hf hh
      obtain ⟨g, hg, eg, -, -⟩ := w.2.1 u hu
      rcases std_or hh with e | ⟨k, e⟩
      · have egh : g = h := by omega
        obtain ⟨d1, d2⟩ := hd h hf hh
        cases e1 : σ h with
        | none => exact absurd e1 d1
        | some U =>
          cases e2 : τ h with
          | none => exact absurd e2 d2
          | some V =>
            have f1 : sub σ (tt u) = U := sub_some (by rw [eg, egh]; exact e1)
            have f2 : sub τ (tt u) = V := sub_some (by rw [eg, egh]; exact e2)
            rw [← f1, ← f2, he]
      · have hgn : ¬ fre fh g := by
          intro hfg
          rw [leaf_nil w hu eg (fre_lt hfg).1 k] at e
          exact absurd e (std_nil h)
        have r1 : rtS σ (tt u []) = none := by rw [eg]; exact rtS_lo hs hgn
        have r2 : rtS τ (tt u []) = none := by rw [eg]; exact rtS_lo hτ hgn
        have hc : sub σ (chT k (tt u)) = sub τ (chT k (tt u)) := by rw [← sub_ch r1, ← sub_ch r2, he]
        rcases w.2.2 u hu k with e0 | ⟨v, hv, ev⟩
        · rw [e0] at e
          exact absurd e (std_nil h)
        · rw [← ev] at hc e
          exact ih v hv (by omega) (fun g' a b => hd g' a (by rw [ev] at b; exact std_ch b)) hc h hf e
  funext h
  by_cases c : fre fh h ∧ std (tt t) h
  · exact key t ht (fun g a b => ⟨(h1.2 g).mpr ⟨a, b⟩, (h2.2 g).mpr ⟨a, b⟩⟩) (h1.1.trans h2.1.symm) h c.1 c.2
  · cases e1 : σ h with
    | some U => exact absurd ((h1.2 h).mp (by rw [e1]; simp)) c
    | none =>
      cases e2 : τ h with
      | some U => exact absurd ((h2.2 h).mp (by rw [e2]; simp)) c
      | none => rfl
/-- two terms with one head have as many places -/
theorem arity_eq (w : WF tt n ar) {s u g : Nat} (hs : s < n) (hu : u < n) (e : tt s [] = g + 1) (e2 : tt u [] = g + 1) (k : Fin 3) : chT k (tt s) = nilT ↔ chT k (tt u) = nilT := by
  obtain ⟨h, h1, h2, h3, h4⟩ := w.2.1 s hs
  obtain ⟨h', h1', h2', h3', h4'⟩ := w.2.1 u hu
  have e3 : h = g := by omega
  have e4 : h' = g := by omega
  rw [e3] at h1 h3 h4
  rw [e4] at h1' h3' h4'
  by_cases c : g < 30
  · obtain ⟨m, m1, m2, m3⟩ := h4 c
    obtain ⟨m', m1', m2', m3'⟩ := h4' c
    have em : m = m' := nI_inj (by omega) (by omega) (m2.symm.trans m2')
    rw [m3 k, m3' k, em]
  · rw [h3 (by omega) k, h3' (by omega) k]
end
