theorem szo_szT {tt : Nat → Tm} {n : Nat} {ar : Nat → Int32} {sz : Nat → Nat} {b : Bool} (w : WF tt n ar) (hn : n ≤ 2 ^ 31) {a : Int32} {T : Tm} (h : rf tt n a T) : szo sz a = szT (tt, n, sz, b) T := by
  rcases h with ⟨e1, e2⟩ | ⟨u, hu, e1, e2⟩
  · rw [e1, e2]
    unfold szo szT
    rw [if_pos rfl]
    exact (if_pos rfl).symm
  · have hin : inT (tt, n, sz, b) T := ⟨u, hu, e2⟩
    have hix : ixT (tt, n, sz, b) T = u := by
      unfold ixT
      rw [dif_pos hin]
      have hc := Classical.choose_spec hin
      exact w.1 _ hc.1 u hu (hc.2.trans e2.symm)
    have hne : ¬ T = nilT := by rw [← e2]; exact w.ne hu
    unfold szo szT
    rw [e1, if_neg (nI_nm1 (by omega)), nI_clamp (by omega)]
    refine Eq.trans ?_ (if_neg hne).symm
    rw [hix]
theorem subnode {σ : Nat → Option Tm} {T : Tm} {h : Nat} (e : T [] = h + 1) (hs : σ h = none) : sub σ T = mkT h (fun k => sub σ (chT k T)) := by
  have e2 : rtS σ (T []) = none := by rw [e]; exact hs
  refine Tm_ext ((sub_root e2).trans e) (fun k => ?_)
  rw [sub_ch e2]
  rfl
section
variable {tt : Nat → Tm} {n N : Nat} {ar : Nat → Int32} {sz : Nat → Nat} {σ : Nat → Option Tm} {T_count : Int32} {T_heads T_places T_olders T_sizes : Nat → Int32} {T_withins : Nat → Int64} {T_newest : Nat → Int32}
theorem WF.cl (w : WF tt n ar) (sz : Nat → Nat) (b : Bool) : clT (tt, n, sz, b) := by
  rintro T ⟨u, hu, e⟩ k
  rcases w.2.2 u hu k with h | ⟨v, hv, ev⟩
  · rw [← e]; exact Or.inl h
  · rw [← e]; exact Or.inr ⟨v, Nat.lt_trans hv hu, ev⟩
theorem cmk {s : TS} (hok : s.2.2.2 = true) (w : WF s.1 s.2.1 ar) (ct : CT s.1 s.2.1 N s.2.2.1 T_count T_heads T_places T_olders T_sizes T_withins T_newest) {h : Nat} (hh : h < 30) {C : Fin 3 → Tm} (hari : ∃ m, m ≤ 3 ∧ ar h = nI m ∧ ∀ k, (C k = nilT ↔ m ≤ k.val)) {a b c : Int32}
    (ha : rf s.1 s.2.1 a (C 0)) (hb : rf s.1 s.2.1 b (C 1)) (hc : rf s.1 s.2.1 c (C 2)) {most : Nat} (hmm : most < 2 ^ 31) (hroom : s.2.1 < most → s.2.1 < N) :
    ∃ (r : Int32) (T_count' : Int32) (T_heads' T_places' T_olders' T_sizes' : Nat → Int32) (T_withins' : Nat → Int64) (T_newest' : Nat → Int32), f_T_make T_count N T_heads (3*N) T_places N T_olders N T_sizes N T_withins T_newest (nI h) a b c (nI most) = some (r, T_count', T_heads', T_places', T_olders', T_sizes', T_withins', T_newest') ∧
      WF (addT most (mkT h C) s).1 (addT most (mkT h C) s).2.1 ar ∧ CT (addT most (mkT h C) s).1 (addT most (mkT h C) s).2.1 N (addT most (mkT h C) s).2.2.1 T_count' T_heads' T_places' T_olders' T_sizes' T_withins' T_newest' ∧ (addT most (mkT h C) s).2.1 ≤ s.2.1 + 1 ∧
      ((r = -1 ∧ (addT most (mkT h C) s).2.2.2 = false) ∨ ((addT most (mkT h C) s).2.2.2 = true ∧ ∃ u, u < (addT most (mkT h C) s).2.1 ∧ r = nI u ∧ (addT most (mkT h C) s).1 u = mkT h C)) := by
  obtain ⟨tt, n, sz, b0⟩ := s
  have hb0 : b0 = true := hok
  subst hb0
  have hN := ct.2.2.2.1
  have hnN := ct.2.1
  simp only at hN hnN w ct ha hb hc hroom
  by_cases hin : inT (tt, n, sz, true) (mkT h C)
  · rw [add_in hin]
    obtain ⟨u, hu, eu⟩ := hin
    exact ⟨nI u, _, _, _, _, _, _, _, make_old w ct (by omega) ha hb hc _ hu eu, w, ct, Nat.le_succ _, Or.inr ⟨rfl, u, hu, rfl, eu⟩⟩
  · have hnew : ∀ u, u < n → tt u ≠ mkT h C := fun u hu e => hin ⟨u, hu, e⟩
    by_cases hm : most ≤ n
    · rw [add_full rfl hin hm]
      exact ⟨-1, _, _, _, _, _, _, _, make_full w ct (by omega) ha hb hc hm hnew, w, ct, Nat.le_succ _, Or.inl ⟨rfl, rfl⟩⟩
    · rw [add_new rfl hin (show n < most by omega)]
      obtain ⟨a1, a2, a3, a4, a5, a6, a7, m1, ct'⟩ := make_new w ct (by omega) ha hb hc (most := most) (by omega) hmm (hroom (by omega)) hnew
      rw [szo_szT (b := true) w (by omega) ha, szo_szT (b := true) w (by omega) hb, szo_szT (b := true) w (by omega) hc] at ct'
      have hin2 : ∀ k, C k = nilT ∨ ∃ u, u < n ∧ tt u = C k := fin3 (rf_in ha) (rf_in hb) (rf_in hc)
      exact ⟨nI n, a1, a2, a3, a4, a5, a6, a7, m1, w.grow (by omega) (fun h => by omega) (fun _ => hari) hin2 hnew, ct', Nat.le_refl _, Or.inr ⟨rfl, n, Nat.lt_succ_self n, rfl, ext_s _ _ _⟩⟩
theorem cn_stack {im : Nat → Int32} {pt : Nat → Nat} {d : Nat} (h1 : ∀ i, i < d → pt i < 100 ∧ im (pt i) = -1) (h2 : ∀ i, i + 1 < d → pt (i + 1) < pt i) : d ≤ cn im := by
  unfold cn
  have key : ∀ j, j < d → j + 1 ≤ cnt (fun x => decide (im x = -1)) (pt (d - 1 - j) + 1) := by
    intro j
    induction j with
    | zero =>
      intro hj
      rw [cnt_succ, show decide (im (pt (d - 1 - 0)) = -1) = true from decide_eq_true (h1 _ (by omega)).2, if_pos rfl]
      omega
    | succ j ih =>
      intro hj
      have := ih (by omega)
      rw [cnt_succ, show decide (im (pt (d - 1 - (j + 1))) = -1) = true from decide_eq_true (h1 _ (by omega)).2, if_pos rfl]
      have h3 := h2 (d - 1 - (j + 1)) (by omega)
      rw [show d - 1 - (j + 1) + 1 = d - 1 - j by omega] at h3
      have h4 := cnt_mono (fun x => decide (im x = -1)) (a := pt (d - 1 - j) + 1) (b := pt (d - 1 - (j + 1))) (by omega)
      omega
  cases d with
  | zero => omega
  | succ d =>
    have h3 := key d (by omega)
    rw [show d + 1 - 1 - d = 0 by omega] at h3
    have h4 := cnt_mono (fun x => decide (im x = -1)) (a := pt 0 + 1) (b := 100) (by have := (h1 0 (by omega)).1; omega)
    omega
/-- the row of images holds instances -/
def imS (tt : Nat → Tm) (n : Nat) (σ : Nat → Option Tm) (s : TS) (im : Nat → Int32) : Prop := ∀ x, x < 100 → im x = -1 ∨ (x < n ∧ ∃ u, u < s.2.1 ∧ im x = nI u ∧ s.1 u = sub σ (tt x))
theorem imS.kp {s s' : TS} {im : Nat → Int32} (h : imS tt n σ s im) (hk : kpT s s') : imS tt n σ s' im := by
  intro x hx
  rcases h x hx with e | ⟨h1, u, h2, h3, h4⟩
  · exact Or.inl e
  · exact Or.inr ⟨h1, u, Nat.lt_of_lt_of_le h2 hk.1, h3, (hk.2.1 u h2).trans h4⟩
theorem imS.up {s : TS} {im : Nat → Int32} (h : imS tt n σ s im) {x u : Nat} (hx : x < n) (hu : u < s.2.1) (e : s.1 u = sub σ (tt x)) : imS tt n σ s (upd im x (nI u)) := by
  intro y hy
  by_cases c : y = x
  · rw [c, up_s]; exact Or.inr ⟨hx, u, hu, rfl, e⟩
  · rw [up_n c]; exact h y hy
theorem image_eq {im : Nat → Int32} {c : Nat} (hc : c < 100) : f_M_image im (nI c) = some (im c) := by
  unfold f_M_image
  rw [if_neg (nI_pos (by omega)), if_neg (show ¬ (100 : Int32) ≤ nI c from (nI_ge hc (by omega) : ¬ nI 100 ≤ nI c)), gd_t (ixb_t hc (by omega)), nI_clamp (by omega)]
theorem image_m (im : Nat → Int32) : f_M_image im (-1) = some (-1) := by
  unfold f_M_image
  rw [if_pos m1_lt]
/-- a part has its image, or is none -/
def kidI (tt : Nat → Tm) (im : Nat → Int32) (u : Nat) (k : Fin 3) : Prop := chT k (tt u) = nilT ∨ ∃ c, c < u ∧ tt c = chT k (tt u) ∧ im c ≠ -1
theorem pwi_loop (ct : CT tt n N sz T_count T_heads T_places T_olders T_sizes T_withins T_newest) {im : Nat → Int32} {u : Nat} (hu : u < n) (h100 : u < 100) : ∀ d, d ≤ 3 → ∀ fuel, d < fuel → (∀ j : Fin 3, j.val < 3 - d → kidI tt im u j) →
    (f_M_placeWithoutImage_L2 T_count (3*N) T_places im fuel (nI u) (nI (3 - d)) = some (-1) ∧ ∀ k, kidI tt im u k) ∨ ∃ (c : Nat) (k : Fin 3), c < u ∧ f_M_placeWithoutImage_L2 T_count (3*N) T_places im fuel (nI u) (nI (3 - d)) = some (nI c) ∧ tt c = chT k (tt u) ∧ im c = -1 ∧ ∀ j : Fin 3, j.val < k.val → kidI tt im u j := by
  intro d
  induction d with
  | zero =>
    intro _ fuel hf hl
    obtain ⟨f, rfl⟩ : ∃ f, fuel = f + 1 := ⟨fuel - 1, by omega⟩
    refine Or.inl ⟨?_, fun k => hl k (by omega)⟩
    rw [f_M_placeWithoutImage_L2, if_pos (show (3 : Int32) ≤ nI (3 - 0) by decide)]
  | succ d ih =>
    intro hd fuel hf hl
    obtain ⟨f, rfl⟩ : ∃ f, fuel = f + 1 := ⟨fuel - 1, by omega⟩
    obtain ⟨k, hk⟩ : ∃ k, k = 3 - (d + 1) := ⟨_, rfl⟩
    have hk3 : k < 3 := by omega
    have hr := ct.2.2.2.2.2.2.1 u hu ⟨k, hk3⟩
    simp only at hr
    have e1 : 3 - d = k + 1 := by omega
    rw [e1] at ih
    rw [← hk] at hl ⊢
    have hnext : kidI tt im u ⟨k, hk3⟩ → ∀ j : Fin 3, j.val < k + 1 → kidI tt im u j := by
      intro h j hj
      by_cases c : j.val = k
      · rw [show j = ⟨k, hk3⟩ from Fin.ext c]; exact h
      · exact hl j (by omega)
    rw [f_M_placeWithoutImage_L2, if_neg (show ¬ (3 : Int32) ≤ nI k from (nI_ge hk3 (by omega) : ¬ nI 3 ≤ nI k)), place_v ct hu hk3, bd_s]
    rcases hr with ⟨a1, a2⟩ | ⟨c, hc, a1, a2⟩
    · rw [if_pos a1, nmE, nI_1]
      exact ih (by omega) f (by omega) (hnext (Or.inl a2))
    · rw [if_neg (by rw [a1]; exact nI_nm1 (by omega)), a1, image_eq (by omega), bd_s]
      by_cases ci : im c = -1
      · rw [if_pos ci]
        exact Or.inr ⟨c, ⟨k, hk3⟩, hc, rfl, a2, ci, hl⟩
      · rw [if_neg ci, nmE, nI_1]
        exact ih (by omega) f (by omega) (hnext (Or.inr ⟨c, hc, a2, ci⟩))
theorem pwi_eq (ct : CT tt n N sz T_count T_heads T_places T_olders T_sizes T_withins T_newest) {im : Nat → Int32} {u : Nat} (hu : u < n) (h100 : u < 100) :
    (f_M_placeWithoutImage T_count (3*N) T_places im (nI u) = some (-1) ∧ ∀ k, kidI tt im u k) ∨ ∃ (c : Nat) (k : Fin 3), c < u ∧ f_M_placeWithoutImage T_count (3*N) T_places im (nI u) = some (nI c) ∧ tt c = chT k (tt u) ∧ im c = -1 ∧ ∀ j : Fin 3, j.val < k.val → kidI tt im u j := by
  have h := pwi_loop ct (im := im) hu h100 3 (Nat.le_refl _) FU (by unfold FU; omega) (fun j hj => by omega)
  rw [Nat.sub_self, nI_0] at h
  exact h
theorem kid_in {s : TS} {im : Nat → Int32} (hi : imS tt n σ s im) {u : Nat} (hu : u < 100) {k : Fin 3} (h : kidI tt im u k) : chT k (tt u) = nilT ∨ inT s (sub σ (chT k (tt u))) := by
  rcases h with h | ⟨c, h1, h2, h3⟩
  · exact Or.inl h
  · rcases hi c (by omega) with e | ⟨-, v, h4, -, h6⟩
    · exact absurd e h3
    · exact Or.inr ⟨v, h4, by rw [← h2]; exact h6⟩
end
