/-- a table with its sizes, and whether all went in -/
abbrev TS : Type := (Nat → Tm) × Nat × (Nat → Nat) × Bool
def inT (s : TS) (T : Tm) : Prop := ∃ u, u < s.2.1 ∧ s.1 u = T
noncomputable def ixT (s : TS) (T : Tm) : Nat := @dite Nat (inT s T) (Classical.propDecidable _) (fun h => Classical.choose h) (fun _ => 0)
noncomputable def szT (s : TS) (T : Tm) : Nat := @ite Nat (T = nilT) (Classical.propDecidable _) 0 (s.2.2.1 (ixT s T))
noncomputable def addT (most : Nat) (T : Tm) (s : TS) : TS :=
  if s.2.2.2 = false then s else @ite TS (inT s T) (Classical.propDecidable _) s (if most ≤ s.2.1 then (s.1, s.2.1, s.2.2.1, false) else (ext s.1 s.2.1 T, s.2.1 + 1, szn s.2.2.1 s.2.1 (min 1000000 (1 + szT s (chT 0 T) + szT s (chT 1 T) + szT s (chT 2 T))), true))
noncomputable def insT (most : Nat) (σ : Nat → Option Tm) : Nat → Tm → TS → TS
  | 0, _, s => s
  | f + 1, T, s => if T [] = 0 ∨ 31 ≤ T [] then s else addT most (sub σ T) (insT most σ f (chT 2 T) (insT most σ f (chT 1 T) (insT most σ f (chT 0 T) s)))
theorem add_false {most : Nat} {T : Tm} {s : TS} (h : s.2.2.2 = false) : addT most T s = s := if_pos h
theorem add_in {most : Nat} {T : Tm} {s : TS} (h : inT s T) : addT most T s = s := by
  unfold addT
  by_cases c : s.2.2.2 = false
  · rw [if_pos c]
  · rw [if_neg c]; exact if_pos h
theorem add_full {most : Nat} {T : Tm} {s : TS} (h0 : s.2.2.2 = true) (h : ¬ inT s T) (hm : most ≤ s.2.1) : addT most T s = (s.1, s.2.1, s.2.2.1, false) := by
  unfold addT
  rw [if_neg (by rw [h0]; decide)]
  exact (if_neg h).trans (if_pos hm)
theorem add_new {most : Nat} {T : Tm} {s : TS} (h0 : s.2.2.2 = true) (h : ¬ inT s T) (hm : s.2.1 < most) : addT most T s = (ext s.1 s.2.1 T, s.2.1 + 1, szn s.2.2.1 s.2.1 (min 1000000 (1 + szT s (chT 0 T) + szT s (chT 1 T) + szT s (chT 2 T))), true) := by
  unfold addT
  rw [if_neg (by rw [h0]; decide)]
  exact (if_neg h).trans (if_neg (by omega))
theorem ins_leaf {most : Nat} {σ : Nat → Option Tm} {T : Tm} (h : T [] = 0 ∨ 31 ≤ T []) : ∀ f s, insT most σ f T s = s := by
  intro f s
  cases f with
  | zero => rfl
  | succ f => exact if_pos h
theorem ins_node {most : Nat} {σ : Nat → Option Tm} {T : Tm} (h : ¬ (T [] = 0 ∨ 31 ≤ T [])) (f : Nat) (s : TS) : insT most σ (f + 1) T s = addT most (sub σ T) (insT most σ f (chT 2 T) (insT most σ f (chT 1 T) (insT most σ f (chT 0 T) s))) := if_neg h
theorem ins_nil (most : Nat) (σ : Nat → Option Tm) (f : Nat) (s : TS) : insT most σ f nilT s = s := ins_leaf (Or.inl rfl) f s
theorem ins_false {most : Nat} {σ : Nat → Option Tm} : ∀ f T (s : TS), s.2.2.2 = false → insT most σ f T s = s := by
  intro f
  induction f with
  | zero => intro T s _; rfl
  | succ f ih =>
    intro T s h
    by_cases c : T [] = 0 ∨ 31 ≤ T []
    · exact ins_leaf c _ _
    · rw [ins_node c, ih _ s h, ih _ s h, ih _ s h, add_false h]
/-- what was there stays -/
def kpT (s s' : TS) : Prop := s.2.1 ≤ s'.2.1 ∧ (∀ u, u < s.2.1 → s'.1 u = s.1 u) ∧ (s'.2.2.2 = true → s.2.2.2 = true)
theorem kpT.refl (s : TS) : kpT s s := ⟨Nat.le_refl _, fun _ _ => rfl, fun h => h⟩
theorem kpT.trans {a b c : TS} (h1 : kpT a b) (h2 : kpT b c) : kpT a c :=
  ⟨Nat.le_trans h1.1 h2.1, fun u hu => (h2.2.1 u (Nat.lt_of_lt_of_le hu h1.1)).trans (h1.2.1 u hu), fun h => h1.2.2 (h2.2.2 h)⟩
theorem inT.kp {a b : TS} (h : kpT a b) {T : Tm} (hi : inT a T) : inT b T := by
  obtain ⟨u, h1, h2⟩ := hi
  exact ⟨u, Nat.lt_of_lt_of_le h1 h.1, (h.2.1 u h1).trans h2⟩
theorem kp_add (most : Nat) (T : Tm) (s : TS) : kpT s (addT most T s) := by
  by_cases c0 : s.2.2.2 = false
  · rw [add_false c0]; exact kpT.refl s
  have c0' : s.2.2.2 = true := by cases e : s.2.2.2 <;> simp_all
  by_cases c1 : inT s T
  · rw [add_in c1]; exact kpT.refl s
  by_cases c2 : most ≤ s.2.1
  · rw [add_full c0' c1 c2]; exact ⟨Nat.le_refl _, fun _ _ => rfl, fun _ => c0'⟩
  · rw [add_new c0' c1 (by omega)]
    exact ⟨Nat.le_succ _, fun u hu => ext_lt u hu, fun _ => c0'⟩
theorem kp_ins (most : Nat) (σ : Nat → Option Tm) : ∀ f T s, kpT s (insT most σ f T s) := by
  intro f
  induction f with
  | zero => intro T s; exact kpT.refl s
  | succ f ih =>
    intro T s
    by_cases c : T [] = 0 ∨ 31 ≤ T []
    · rw [ins_leaf c]; exact kpT.refl s
    · rw [ins_node c]
      exact (((ih _ s).trans (ih _ _)).trans (ih _ _)).trans (kp_add _ _ _)
/-- the parts of what stands in the table stand in it -/
def clT (s : TS) : Prop := ∀ T, inT s T → ∀ k, chT k T = nilT ∨ inT s (chT k T)
section
variable {tt : Nat → Tm} {n : Nat} {ar : Nat → Int32} {σ : Nat → Option Tm} {most : Nat}
def bsT (tt : Nat → Tm) (n : Nat) (σ : Nat → Option Tm) (s : TS) : Prop := ∀ x, x < n → 31 ≤ tt x [] → inT s (sub σ (tt x))
theorem bsT.kp {a b : TS} (h : kpT a b) (hb : bsT tt n σ a) : bsT tt n σ b := fun x hx h1 => (hb x hx h1).kp h
theorem ins_ok (w : WF tt n ar) (hs : ∀ h, h < 30 → σ h = none) : ∀ u, u < n → ∀ f, u < f → ∀ s, clT s → bsT tt n σ s → clT (insT most σ f (tt u) s) ∧ ((insT most σ f (tt u) s).2.2.2 = true → inT (insT most σ f (tt u) s) (sub σ (tt u))) := by
  intro u
  induction u using Nat.strongRecOn with
  | _ u ih =>
    intro hu f hf s hc hb
    obtain ⟨h, hh, e, -, -⟩ := w.2.1 u hu
    by_cases c : tt u [] = 0 ∨ 31 ≤ tt u []
    · rw [ins_leaf c]
      exact ⟨hc, fun _ => hb u hu (by omega)⟩
    obtain ⟨f, rfl⟩ : ∃ g, f = g + 1 := ⟨f - 1, by omega⟩
    have hch : ∀ (k : Fin 3) s, clT s → bsT tt n σ s → clT (insT most σ f (chT k (tt u)) s) ∧ bsT tt n σ (insT most σ f (chT k (tt u)) s) ∧ ((insT most σ f (chT k (tt u)) s).2.2.2 = true → chT k (tt u) = nilT ∨ inT (insT most σ f (chT k (tt u)) s) (sub σ (chT k (tt u)))) := by
      intro k s hc hb
      rcases w.2.2 u hu k with e | ⟨v, hv, ev⟩
      · rw [e, ins_nil]; exact ⟨hc, hb, fun _ => Or.inl rfl⟩
      · rw [← ev]
        obtain ⟨a1, a2⟩ := ih v hv (by omega) f (by omega) s hc hb
        exact ⟨a1, hb.kp (kp_ins _ _ _ _ _), fun h => Or.inr (a2 h)⟩
    obtain ⟨a1, a2, a3⟩ := hch 0 s hc hb
    obtain ⟨b1, b2, b3⟩ := hch 1 _ a1 a2
    obtain ⟨c1, c2, c3⟩ := hch 2 _ b1 b2
    rw [ins_node c]
    have k1 := kp_ins most σ f (chT 1 (tt u)) (insT most σ f (chT 0 (tt u)) s)
    have k2 := kp_ins most σ f (chT 2 (tt u)) (insT most σ f (chT 1 (tt u)) (insT most σ f (chT 0 (tt u)) s))
    generalize insT most σ f (chT 0 (tt u)) s = s1 at *
    generalize insT most σ f (chT 1 (tt u)) s1 = s2 at *
    generalize insT most σ f (chT 2 (tt u)) s2 = s3 at *
    have hrt : rtS σ (tt u []) = none := by rw [e]; exact hs h (by omega)
    by_cases c0 : s3.2.2.2 = false
    · rw [add_false c0]
      exact ⟨c1, fun h => by rw [c0] at h; exact absurd h (by decide)⟩
    have c0' : s3.2.2.2 = true := by cases e : s3.2.2.2 <;> simp_all
    by_cases ci : inT s3 (sub σ (tt u))
    · rw [add_in ci]
      exact ⟨c1, fun _ => ci⟩
    by_cases cm : most ≤ s3.2.1
    · rw [add_full c0' ci cm]
      exact ⟨fun T hT k => c1 T hT k, fun h => absurd (show false = true from h) (by decide)⟩
    have hkids : ∀ k, chT k (tt u) = nilT ∨ inT s3 (sub σ (chT k (tt u))) := fin3 ((a3 (k1.2.2 (k2.2.2 c0'))).imp id (fun h => (h.kp k1).kp k2)) ((b3 (k2.2.2 c0')).imp id (fun h => h.kp k2)) (c3 c0')
    have kk := kp_add most (sub σ (tt u)) s3
    rw [add_new c0' ci (by omega)] at kk ⊢
    refine ⟨fun T hT k => ?_, fun _ => ⟨s3.2.1, Nat.lt_succ_self _, ext_s _ _ _⟩⟩
    obtain ⟨v, hv, ev⟩ := hT
    by_cases c4 : v = s3.2.1
    · rw [c4] at ev
      have e2 : sub σ (tt u) = T := (ext_s _ _ _).symm.trans ev
      rw [← e2, sub_ch hrt]
      rcases hkids k with h | h
      · rw [h, sub_nil]; exact Or.inl rfl
      · exact Or.inr (h.kp kk)
    · have hv' : v < s3.2.1 := by have : v < s3.2.1 + 1 := hv; omega
      have e2 : s3.1 v = T := (ext_n (T := sub σ (tt u)) c4).symm.trans ev
      rcases c1 T ⟨v, hv', e2⟩ k with h | h
      · exact Or.inl h
      · exact Or.inr (h.kp kk)
theorem sub_ne (hne : ∀ h U, σ h = some U → U ≠ nilT) {T : Tm} (h : T ≠ nilT) (h0 : T [] ≠ 0) : sub σ T ≠ nilT := by
  cases e : rtS σ (T []) with
  | none =>
    intro e2
    have := sub_root e
    rw [e2] at this
    exact h0 this.symm
  | some U =>
    rw [sub_some e]
    cases hT : T [] with
    | zero => exact absurd hT h0
    | succ g => rw [hT] at e; exact hne g U e
theorem ins_idem (w : WF tt n ar) (hs : ∀ h, h < 30 → σ h = none) (hne : ∀ h U, σ h = some U → U ≠ nilT) : ∀ u, u < n → ∀ f (s : TS), clT s → inT s (sub σ (tt u)) → insT most σ f (tt u) s = s := by
  intro u
  induction u using Nat.strongRecOn with
  | _ u ih =>
    intro hu f s hc hi
    obtain ⟨h, hh, e, -, -⟩ := w.2.1 u hu
    by_cases c : tt u [] = 0 ∨ 31 ≤ tt u []
    · exact ins_leaf c f s
    cases f with
    | zero => rfl
    | succ f =>
      have hrt : rtS σ (tt u []) = none := by rw [e]; exact hs h (by omega)
      have hk : ∀ k, insT most σ f (chT k (tt u)) s = s := by
        intro k
        rcases w.2.2 u hu k with e3 | ⟨v, hv, ev⟩
        · rw [e3, ins_nil]
        · rcases hc _ hi k with h1 | h1
          · rw [sub_ch hrt, ← ev] at h1
            obtain ⟨g, -, eg, -⟩ := w.2.1 v (by omega)
            exact absurd h1 (sub_ne hne (w.ne (by omega)) (by omega))
          · rw [sub_ch hrt, ← ev] at h1
            rw [← ev]
            exact ih v hv (by omega) f s hc h1
      rw [ins_node c, hk 0, hk 1, hk 2, add_in hi]
theorem ins_fuel (w : WF tt n ar) : ∀ u, u < n → ∀ f g, u < f → u < g → ∀ s, insT most σ f (tt u) s = insT most σ g (tt u) s := by
  intro u
  induction u using Nat.strongRecOn with
  | _ u ih =>
    intro hu f g hf hg s
    by_cases c : tt u [] = 0 ∨ 31 ≤ tt u []
    · rw [ins_leaf c, ins_leaf c]
    obtain ⟨f, rfl⟩ : ∃ x, f = x + 1 := ⟨f - 1, by omega⟩
    obtain ⟨g, rfl⟩ : ∃ x, g = x + 1 := ⟨g - 1, by omega⟩
    have hk : ∀ k s, insT most σ f (chT k (tt u)) s = insT most σ g (chT k (tt u)) s := by
      intro k s
      rcases w.2.2 u hu k with e3 | ⟨v, hv, ev⟩
      · rw [e3, ins_nil, ins_nil]
      · rw [← ev]; exact ih v hv (by omega) f g (by omega) (by omega) s
    rw [ins_node c, ins_node c, hk, hk, hk]
theorem ins_kid (w : WF tt n ar) (hs : ∀ h, h < 30 → σ h = none) (hne : ∀ h U, σ h = some U → U ≠ nilT) {u : Nat} (hu : u < n) {k : Fin 3} {s : TS} (hc : clT s) (h : chT k (tt u) = nilT ∨ inT s (sub σ (chT k (tt u)))) (f : Nat) : insT most σ f (chT k (tt u)) s = s := by
  rcases w.2.2 u hu k with e3 | ⟨v, hv, ev⟩
  · rw [e3, ins_nil]
  · rcases h with h | h
    · rw [h, ins_nil]
    · rw [← ev] at h ⊢
      exact ins_idem w hs hne v (by omega) f s hc h
/-- the next part first, or the whole: the same -/
theorem ins_push (w : WF tt n ar) (hs : ∀ h, h < 30 → σ h = none) (hne : ∀ h U, σ h = some U → U ≠ nilT) {u c : Nat} (hu : u < n) (hcu : c < u) {k : Fin 3} (ek : tt c = chT k (tt u)) (hnl : ¬ (tt u [] = 0 ∨ 31 ≤ tt u [])) {s : TS} (hc : clT s) (hb : bsT tt n σ s)
    (hlow : ∀ j : Fin 3, j.val < k.val → chT j (tt u) = nilT ∨ inT s (sub σ (chT j (tt u)))) : insT most σ (u + 1) (tt u) (insT most σ (c + 1) (tt c) s) = insT most σ (u + 1) (tt u) s := by
  have hJ : ∀ s, insT most σ u (chT k (tt u)) s = insT most σ (c + 1) (tt c) s := fun s => by rw [← ek]; exact ins_fuel w c (by omega) u (c + 1) hcu (by omega) s
  have hkp := kp_ins most σ (c + 1) (tt c) s
  obtain ⟨o1, o2⟩ := ins_ok (most := most) w hs c (by omega) (c + 1) (by omega) s hc hb
  generalize hs1 : insT most σ (c + 1) (tt c) s = s1 at *
  have hks : insT most σ u (chT k (tt u)) s = s1 := (hJ s).trans hs1
  have hk1 : insT most σ u (chT k (tt u)) s1 = s1 := by
    by_cases c0 : s1.2.2.2 = false
    · exact ins_false _ _ _ c0
    · have c0' : s1.2.2.2 = true := by cases e : s1.2.2.2 <;> simp_all
      exact ins_kid w hs hne hu o1 (Or.inr (by rw [← ek]; exact o2 c0')) u
  have hl : ∀ j : Fin 3, j.val < k.val → insT most σ u (chT j (tt u)) s = s := fun j hj => ins_kid w hs hne hu hc (hlow j hj) u
  have hl1 : ∀ j : Fin 3, j.val < k.val → insT most σ u (chT j (tt u)) s1 = s1 := fun j hj => ins_kid w hs hne hu o1 ((hlow j hj).imp id (fun h => h.kp hkp)) u
  rw [ins_node hnl, ins_node hnl]
  have gen : ∀ k : Fin 3, insT most σ u (chT k (tt u)) s = s1 → insT most σ u (chT k (tt u)) s1 = s1 → (∀ j : Fin 3, j.val < k.val → insT most σ u (chT j (tt u)) s = s) → (∀ j : Fin 3, j.val < k.val → insT most σ u (chT j (tt u)) s1 = s1) → addT most (sub σ (tt u)) (insT most σ u (chT 2 (tt u)) (insT most σ u (chT 1 (tt u)) (insT most σ u (chT 0 (tt u)) s1))) = addT most (sub σ (tt u)) (insT most σ u (chT 2 (tt u)) (insT most σ u (chT 1 (tt u)) (insT most σ u (chT 0 (tt u)) s))) := by
    refine fin3 ?_ ?_ ?_
    · intro hks hk1 _ _
      rw [hks, hk1]
    · intro hks hk1 hl hl1
      rw [hl 0 (by decide), hl1 0 (by decide), hks, hk1]
    · intro hks hk1 hl hl1
      rw [hl 0 (by decide), hl1 0 (by decide), hl 1 (by decide), hl1 1 (by decide), hks, hk1]
  exact gen k hks hk1 hl hl1
/-- with all parts in, only the whole is left -/
theorem ins_pop (w : WF tt n ar) (hs : ∀ h, h < 30 → σ h = none) (hne : ∀ h U, σ h = some U → U ≠ nilT) {u : Nat} (hu : u < n) (hnl : ¬ (tt u [] = 0 ∨ 31 ≤ tt u [])) {s : TS} (hc : clT s)
    (hk : ∀ j : Fin 3, chT j (tt u) = nilT ∨ inT s (sub σ (chT j (tt u)))) : insT most σ (u + 1) (tt u) s = addT most (sub σ (tt u)) s := by
  rw [ins_node hnl, ins_kid w hs hne hu hc (hk 0) u, ins_kid w hs hne hu hc (hk 1) u, ins_kid w hs hne hu hc (hk 2) u]
/-- what a row of open terms comes to -/
noncomputable def runT (most : Nat) (σ : Nat → Option Tm) (tt : Nat → Tm) (pt : Nat → Nat) : Nat → TS → TS
  | 0, s => s
  | d + 1, s => runT most σ tt pt d (insT most σ (pt d + 1) (tt (pt d)) s)
theorem run_false {pt : Nat → Nat} : ∀ d (s : TS), s.2.2.2 = false → runT most σ tt pt d s = s := by
  intro d
  induction d with
  | zero => intro s _; rfl
  | succ d ih => intro s h; show runT most σ tt pt d (insT most σ _ _ s) = s; rw [ins_false _ _ _ h, ih s h]
theorem run_congr {pt pt' : Nat → Nat} : ∀ d, (∀ i, i < d → pt i = pt' i) → ∀ s : TS, runT most σ tt pt d s = runT most σ tt pt' d s := by
  intro d
  induction d with
  | zero => intro _ s; rfl
  | succ d ih =>
    intro h s
    show runT most σ tt pt d (insT most σ (pt d + 1) (tt (pt d)) s) = runT most σ tt pt' d (insT most σ (pt' d + 1) (tt (pt' d)) s)
    rw [h d (by omega)]
    exact ih (fun i hi => h i (by omega)) _
end
