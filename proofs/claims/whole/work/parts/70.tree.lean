/-- a tree: what stands at the end of a path (0 nothing, else head and one) -/
abbrev Tm : Type := List (Fin 3) → Nat
def nilT : Tm := fun _ => 0
def mkT (h : Nat) (C : Fin 3 → Tm) : Tm := fun p => match p with
  | [] => h + 1
  | k :: q => C k q
def chT (k : Fin 3) (T : Tm) : Tm := fun p => T (k :: p)
theorem chT_mk (k : Fin 3) (h : Nat) (C : Fin 3 → Tm) : chT k (mkT h C) = C k := rfl
theorem mkT_nil (h : Nat) (C : Fin 3 → Tm) : mkT h C [] = h + 1 := rfl
theorem Tm_ext {T U : Tm} (h0 : T [] = U []) (h : ∀ k, chT k T = chT k U) : T = U := by
  funext p
  cases p with
  | nil => exact h0
  | cons k q => exact congrFun (h k) q
theorem fin3 {P : Fin 3 → Prop} (h0 : P 0) (h1 : P 1) (h2 : P 2) : ∀ k, P k := by
  intro k
  match k with
  | 0 => exact h0
  | 1 => exact h1
  | 2 => exact h2
theorem mkT_ne {h : Nat} {C : Fin 3 → Tm} : mkT h C ≠ nilT := by
  intro e
  have := congrFun e []
  simp [mkT, nilT] at this
/-- a head stands in a tree -/
def std (T : Tm) (h : Nat) : Prop := ∃ p, T p = h + 1
theorem std_nil (h : Nat) : ¬ std nilT h := by
  rintro ⟨p, hp⟩
  simp [nilT] at hp
theorem std_mk {h g : Nat} {C : Fin 3 → Tm} : std (mkT h C) g ↔ (g = h ∨ ∃ k, std (C k) g) := by
  constructor
  · rintro ⟨p, hp⟩
    cases p with
    | nil => left; simp [mkT] at hp; omega
    | cons k q => right; exact ⟨k, q, hp⟩
  · rintro (e | ⟨k, q, hq⟩)
    · exact ⟨[], by rw [e]; rfl⟩
    · exact ⟨k :: q, hq⟩
theorem std_ch {T : Tm} {k : Fin 3} {g : Nat} (h : std (chT k T) g) : std T g := by
  obtain ⟨p, hp⟩ := h
  exact ⟨k :: p, hp⟩
theorem std_or {T : Tm} {g : Nat} (h : std T g) : T [] = g + 1 ∨ ∃ k, std (chT k T) g := by
  obtain ⟨p, hp⟩ := h
  cases p with
  | nil => exact Or.inl hp
  | cons k q => exact Or.inr ⟨k, q, hp⟩

theorem nI_mul (a b : Nat) : nI a * nI b = nI (a * b) := (Int32.ofNat_mul a b).symm
theorem nI_x3 (u : Nat) : nI u * (3 : Int32) = nI (3 * u) := by
  rw [Nat.mul_comm 3 u]
  exact nI_mul u 3
theorem nI_x4 (u : Nat) : nI u * (4 : Int32) = nI (4 * u) := by
  rw [Nat.mul_comm 4 u]
  exact nI_mul u 4
theorem nI_4x (u : Nat) : (4 : Int32) * nI u = nI (4 * u) := nI_mul 4 u
theorem nI_8x (u : Nat) : (8 : Int32) * nI u = nI (8 * u) := nI_mul 8 u
theorem nI_2 (a : Nat) : nI a + (2 : Int32) = nI (a + 2) := nI_add a 2
theorem nI_3 (a : Nat) : nI a + (3 : Int32) = nI (a + 3) := nI_add a 3
theorem nI_m1 (a : Nat) : nI (a + 1) + (-1 : Int32) = nI a := (Int32.sub_eq_add_neg (nI (a + 1)) 1).symm.trans (nI_pred a)
theorem nI_nm1 {a : Nat} (h : a < 2 ^ 31) : ¬ nI a = (-1 : Int32) := by
  intro e
  have e2 := congrArg Int32.toInt e
  rw [nI_toInt h] at e2
  have e3 : (-1 : Int32).toInt = -1 := by decide
  rw [e3] at e2
  omega
theorem m1_lt : ((-1 : Int32) < 0) := by decide
theorem nI_inj {a b : Nat} (ha : a < 2 ^ 31) (hb : b < 2 ^ 31) (e : nI a = nI b) : a = b := (nI_eq ha hb).mp e
theorem ixb_t {a N : Nat} (h : a < N) (ha : a < 2 ^ 31) : ixb (nI a) N = true := by
  unfold ixb
  exact decide_eq_true (fun hh => hh.elim (nI_pos ha) (fun h2 => by rw [nI_clamp ha] at h2; omega))
theorem gd_tt {α : Type} {x : Option α} : gd true x = x := rfl
theorem gd_t {α : Type} {b : Bool} {x : Option α} (h : b = true) : gd b x = x := by
  rw [h]
  rfl
theorem nmE {α β : Type} (e : α) (k : α → β) : nm e k = k e := rfl
theorem up_s (f : Nat → Int32) (k : Nat) (x : Int32) : upd f k x k = x := by
  unfold upd
  exact if_pos rfl
theorem up_n {f : Nat → Int32} {k j : Nat} {x : Int32} (h : j ≠ k) : upd f k x j = f j := by
  unfold upd
  exact if_neg h
theorem upL_s (f : Nat → Int64) (k : Nat) (x : Int64) : vp_updL f k x k = x := by
  unfold vp_updL
  exact if_pos rfl
theorem upL_n {f : Nat → Int64} {k j : Nat} {x : Int64} (h : j ≠ k) : vp_updL f k x j = f j := by
  unfold vp_updL
  exact if_neg h
theorem bd_s {α β : Type} (a : α) (g : α → Option β) : (some a).bind g = g a := rfl
theorem ite4 {α : Type} {c1 c2 c3 c4 : Prop} [Decidable c1] [Decidable c2] [Decidable c3] [Decidable c4] {x y : α} : (if c1 then (if c2 then (if c3 then (if c4 then x else y) else y) else y) else y) = if c1 ∧ c2 ∧ c3 ∧ c4 then x else y := by
  by_cases h1 : c1 <;> by_cases h2 : c2 <;> by_cases h3 : c3 <;> by_cases h4 : c4 <;> simp [h1, h2, h3, h4]

/-- the greatest below m that has P -/
def lst (P : Nat → Bool) : Nat → Option Nat
  | 0 => none
  | m + 1 => if P m = true then some m else lst P m
theorem lst_succ (P : Nat → Bool) (m : Nat) : lst P (m + 1) = if P m = true then some m else lst P m := rfl
def oI : Option Nat → Int32
  | none => -1
  | some u => nI u
theorem lst_none {P : Nat → Bool} {m : Nat} (h : lst P m = none) : ∀ u, u < m → P u = false := by
  induction m with
  | zero => intro u hu; omega
  | succ m ih =>
    intro u hu
    rw [lst_succ] at h
    by_cases hp : P m = true
    · rw [if_pos hp] at h; cases h
    · rw [if_neg hp] at h
      by_cases he : u = m
      · rw [he]; simpa using hp
      · exact ih h u (by omega)
theorem lst_some {P : Nat → Bool} {m u : Nat} (h : lst P m = some u) : u < m ∧ P u = true ∧ ∀ v, u < v → v < m → P v = false := by
  induction m with
  | zero => cases h
  | succ m ih =>
    rw [lst_succ] at h
    by_cases hp : P m = true
    · rw [if_pos hp] at h
      cases h
      exact ⟨by omega, hp, fun v h1 h2 => by omega⟩
    · rw [if_neg hp] at h
      obtain ⟨h1, h2, h3⟩ := ih h
      refine ⟨by omega, h2, fun v h4 h5 => ?_⟩
      by_cases he : v = m
      · rw [he]; simpa using hp
      · exact h3 v h4 (by omega)
theorem lst_skip {P : Nat → Bool} {m u : Nat} (hu : u ≤ m) (h : ∀ v, u ≤ v → v < m → P v = false) : lst P m = lst P u := by
  induction m with
  | zero => rw [show u = 0 by omega]
  | succ m ih =>
    by_cases he : u = m + 1
    · rw [he]
    · rw [lst_succ, if_neg (by rw [h m (by omega) (by omega)]; decide)]
      exact ih (by omega) (fun v h1 h2 => h v h1 (by omega))
theorem lst_congr {P R : Nat → Bool} {m : Nat} (h : ∀ u, u < m → P u = R u) : lst P m = lst R m := by
  induction m with
  | zero => rfl
  | succ m ih => rw [lst_succ, lst_succ, h m (by omega), ih (fun u hu => h u (by omega))]
theorem lst_at {P : Nat → Bool} {m u : Nat} (hu : u < m) (hp : P u = true) (h : ∀ v, u < v → v < m → P v = false) : lst P m = some u := by
  rw [lst_skip (u := u + 1) (by omega) (fun v h1 h2 => h v (by omega) h2), lst_succ, if_pos hp]

/-- x is the number of T -/
def rf (tt : Nat → Tm) (n : Nat) (x : Int32) (T : Tm) : Prop := (x = -1 ∧ T = nilT) ∨ ∃ u, u < n ∧ x = nI u ∧ tt u = T
theorem rf_mono {tt : Nat → Tm} {m n : Nat} {x : Int32} {T : Tm} (h : m ≤ n) (hr : rf tt m x T) : rf tt n x T := by
  rcases hr with hr | ⟨u, h1, h2, h3⟩
  · exact Or.inl hr
  · exact Or.inr ⟨u, by omega, h2, h3⟩
theorem rf_congr {tt tt' : Nat → Tm} {n : Nat} {x : Int32} {T : Tm} (h : ∀ u, u < n → tt' u = tt u) (hr : rf tt n x T) : rf tt' n x T := by
  rcases hr with hr | ⟨u, h1, h2, h3⟩
  · exact Or.inl hr
  · exact Or.inr ⟨u, h1, h2, by rw [h u h1, h3]⟩
theorem rf_val {tt : Nat → Tm} {n : Nat} {x : Int32} {T U : Tm} (hn : n ≤ 2 ^ 31) (h1 : rf tt n x T) (h2 : rf tt n x U) : T = U := by
  rcases h1 with ⟨a1, a2⟩ | ⟨u, a1, a2, a3⟩ <;> rcases h2 with ⟨b1, b2⟩ | ⟨v, b1, b2, b3⟩
  · rw [a2, b2]
  · exact absurd (b2.symm.trans a1) (nI_nm1 (by omega))
  · exact absurd (a2.symm.trans b1) (nI_nm1 (by omega))
  · rw [← a3, ← b3, nI_inj (by omega) (by omega) (a2.symm.trans b2)]
/-- the table of terms -/
def WF (tt : Nat → Tm) (n : Nat) (ar : Nat → Int32) : Prop :=
  (∀ t, t < n → ∀ u, u < n → tt t = tt u → t = u) ∧
  (∀ t, t < n → ∃ h, h < 42 ∧ tt t [] = h + 1 ∧ (30 ≤ h → ∀ k, chT k (tt t) = nilT) ∧ (h < 30 → ∃ m, m ≤ 3 ∧ ar h = nI m ∧ ∀ k, (chT k (tt t) = nilT ↔ m ≤ k.val))) ∧
  (∀ t, t < n → ∀ k, chT k (tt t) = nilT ∨ ∃ u, u < t ∧ tt u = chT k (tt t))
theorem WF.ne {tt : Nat → Tm} {n : Nat} {ar : Nat → Int32} (w : WF tt n ar) {t : Nat} (ht : t < n) : tt t ≠ nilT := by
  intro e
  obtain ⟨h, -, h2, -⟩ := w.2.1 t ht
  rw [e] at h2
  simp [nilT] at h2
theorem rf_uni {tt : Nat → Tm} {n : Nat} {ar : Nat → Int32} (w : WF tt n ar) {x y : Int32} {T : Tm} (h1 : rf tt n x T) (h2 : rf tt n y T) : x = y := by
  rcases h1 with ⟨a1, a2⟩ | ⟨u, a1, a2, a3⟩ <;> rcases h2 with ⟨b1, b2⟩ | ⟨v, b1, b2, b3⟩
  · rw [a1, b1]
  · exact absurd (b3.trans a2) (w.ne b1)
  · exact absurd (a3.trans b2) (w.ne a1)
  · rw [a2, b2, w.1 u a1 v b1 (a3.trans b3.symm)]
def ext (tt : Nat → Tm) (n : Nat) (T : Tm) : Nat → Tm := fun t => if t = n then T else tt t
theorem ext_s (tt : Nat → Tm) (n : Nat) (T : Tm) : ext tt n T n = T := if_pos rfl
theorem ext_n {tt : Nat → Tm} {n : Nat} {T : Tm} {t : Nat} (h : t ≠ n) : ext tt n T t = tt t := if_neg h
theorem ext_lt {tt : Nat → Tm} {n : Nat} {T : Tm} : ∀ t, t < n → ext tt n T t = tt t := fun t h => if_neg (by omega)
theorem WF.shrink {tt : Nat → Tm} {n m : Nat} {ar : Nat → Int32} (w : WF tt n ar) (h : m ≤ n) : WF tt m ar :=
  ⟨fun t ht u hu => w.1 t (by omega) u (by omega), fun t ht => w.2.1 t (by omega), fun t ht => w.2.2 t (by omega)⟩
theorem WF.congr {tt tt' : Nat → Tm} {n : Nat} {ar : Nat → Int32} (w : WF tt n ar) (h : ∀ u, u < n → tt' u = tt u) : WF tt' n ar := by
  refine ⟨fun t ht u hu e => w.1 t ht u hu (by rw [← h t ht, ← h u hu, e]), fun t ht => ?_, fun t ht k => ?_⟩
  · rw [h t ht]; exact w.2.1 t ht
  · rw [h t ht]
    rcases w.2.2 t ht k with a | ⟨u, a1, a2⟩
    · exact Or.inl a
    · exact Or.inr ⟨u, a1, by rw [h u (by omega), a2]⟩
theorem WF.grow {tt : Nat → Tm} {n : Nat} {ar : Nat → Int32} (w : WF tt n ar) {h : Nat} {C : Fin 3 → Tm} (hh : h < 42) (hl : 30 ≤ h → ∀ k, C k = nilT)
    (ha : h < 30 → ∃ m, m ≤ 3 ∧ ar h = nI m ∧ ∀ k, (C k = nilT ↔ m ≤ k.val)) (hc : ∀ k, C k = nilT ∨ ∃ u, u < n ∧ tt u = C k) (hnew : ∀ u, u < n → tt u ≠ mkT h C) :
    WF (ext tt n (mkT h C)) (n + 1) ar := by
  have E : ∀ t, t < n → ext tt n (mkT h C) t = tt t := ext_lt
  refine ⟨fun t ht u hu e => ?_, fun t ht => ?_, fun t ht k => ?_⟩
  · by_cases h1 : t = n <;> by_cases h2 : u = n
    · rw [h1, h2]
    · rw [h1, ext_s, E u (by omega)] at e
      exact absurd e.symm (hnew u (by omega))
    · rw [h2, ext_s, E t (by omega)] at e
      exact absurd e (hnew t (by omega))
    · rw [E t (by omega), E u (by omega)] at e
      exact w.1 t (by omega) u (by omega) e
  · by_cases h1 : t = n
    · rw [h1, ext_s]
      exact ⟨h, hh, rfl, fun h2 k => hl h2 k, fun h2 => ha h2⟩
    · rw [E t (by omega)]
      exact w.2.1 t (by omega)
  · by_cases h1 : t = n
    · rw [h1, ext_s]
      rcases hc k with a | ⟨u, a1, a2⟩
      · exact Or.inl a
      · exact Or.inr ⟨u, a1, by rw [E u a1]; exact a2⟩
    · rw [E t (by omega)]
      rcases w.2.2 t (by omega) k with a | ⟨u, a1, a2⟩
      · exact Or.inl a
      · exact Or.inr ⟨u, a1, by rw [E u (by omega)]; exact a2⟩
theorem rf_in {tt : Nat → Tm} {n : Nat} {x : Int32} {T : Tm} (h : rf tt n x T) : T = nilT ∨ ∃ u, u < n ∧ tt u = T := by
  rcases h with ⟨-, a⟩ | ⟨u, a, -, b⟩
  · exact Or.inl a
  · exact Or.inr ⟨u, a, b⟩
