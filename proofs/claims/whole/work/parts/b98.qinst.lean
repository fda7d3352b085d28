/-- the two ways of the reference: into the table of a hundred, or into the pool -/
def mdn (md : Bool) : Nat := if md = true then 101100 else 100
def QR (md : Bool) (tt : Nat → Tm) (n : Nat) (sz : Nat → Nat) (kn kv kh ks : Nat → Int32) (Q_all : Int32) (Q_kinds Q_which Q_firsts Q_seconds Q_thirds Q_nexts Q_heads Q_names Q_variables Q_holes Q_sizes : Nat → Int32) : Prop :=
  QTb tt n Q_all Q_kinds Q_which Q_firsts Q_seconds Q_thirds Q_nexts Q_heads ∧ (md = true → Q_names = kn ∧ Q_variables = kv ∧ Q_holes = kh ∧ Q_sizes = ks) ∧ (md = false → n ≤ 100 ∧ QK tt n sz Q_names Q_variables Q_holes Q_sizes)
section
variable {tt : Nat → Tm} {n : Nat} {ar : Nat → Int32} {sz : Nat → Nat} {σ : Nat → Option Tm} {kn kv kh ks : Nat → Int32} {Q_all : Int32} {Q_kinds Q_which Q_firsts Q_seconds Q_thirds Q_nexts Q_heads Q_names Q_variables Q_holes Q_sizes Q_bound : Nat → Int32}
theorem qmk {md : Bool} {s : TS} (hok : s.2.2.2 = true) (w : WF s.1 s.2.1 ar) (qr : QR md s.1 s.2.1 s.2.2.1 kn kv kh ks Q_all Q_kinds Q_which Q_firsts Q_seconds Q_thirds Q_nexts Q_heads Q_names Q_variables Q_holes Q_sizes) {h : Nat} (hh : h < 30) {C : Fin 3 → Tm} (hari : ∃ m, m ≤ 3 ∧ ar h = nI m ∧ ∀ k, (C k = nilT ↔ m ≤ k.val)) {a b c : Int32}
    (ha : rf s.1 s.2.1 a (C 0)) (hb : rf s.1 s.2.1 b (C 1)) (hc : rf s.1 s.2.1 c (C 2)) :
    ∃ (r : Int32) (Q_all' : Int32) (Q_kinds' Q_which' Q_firsts' Q_seconds' Q_thirds' Q_nexts' Q_heads' Q_names' Q_variables' Q_holes' Q_sizes' : Nat → Int32), f_Q_make Q_all Q_kinds Q_which Q_firsts Q_seconds Q_thirds Q_nexts Q_heads Q_names Q_variables Q_holes Q_sizes 0 (nI h) a b c (nI (mdn md)) = some (r, Q_all', Q_kinds', Q_which', Q_firsts', Q_seconds', Q_thirds', Q_nexts', Q_heads', Q_names', Q_variables', Q_holes', Q_sizes') ∧
      WF (addT (mdn md) (mkT h C) s).1 (addT (mdn md) (mkT h C) s).2.1 ar ∧ QR md (addT (mdn md) (mkT h C) s).1 (addT (mdn md) (mkT h C) s).2.1 (addT (mdn md) (mkT h C) s).2.2.1 kn kv kh ks Q_all' Q_kinds' Q_which' Q_firsts' Q_seconds' Q_thirds' Q_nexts' Q_heads' Q_names' Q_variables' Q_holes' Q_sizes' ∧ (addT (mdn md) (mkT h C) s).2.1 ≤ s.2.1 + 1 ∧
      ((r = -1 ∧ (addT (mdn md) (mkT h C) s).2.2.2 = false) ∨ ((addT (mdn md) (mkT h C) s).2.2.2 = true ∧ ∃ u, u < (addT (mdn md) (mkT h C) s).2.1 ∧ r = nI u ∧ (addT (mdn md) (mkT h C) s).1 u = mkT h C)) := by
  obtain ⟨tt, n, sz, b0⟩ := s
  have hb0 : b0 = true := hok
  subst hb0
  obtain ⟨qt, q1, q2⟩ := qr
  simp only at qt q1 q2 w ha hb hc
  have hn := qt.2.1
  have ek : (0 : Int32) = nI (kd h) := by unfold kd; rw [if_pos hh]; rfl
  have ew : nI h = nI (wh h) := by unfold wh; rw [if_pos hh]
  have em : n ≤ mdn md := by
    unfold mdn
    cases md with
    | true => rw [if_pos rfl]; exact hn
    | false => rw [if_neg (by decide)]; exact (q2 rfl).1
  rw [ek, ew]
  by_cases hin : inT (tt, n, sz, true) (mkT h C)
  · rw [add_in hin]
    obtain ⟨u, hu, eu⟩ := hin
    exact ⟨nI u, _, _, _, _, _, _, _, _, _, _, _, _, qmake_old w qt (by omega) ha hb hc _ hu eu, w, ⟨qt, q1, q2⟩, Nat.le_succ _, Or.inr ⟨rfl, u, hu, rfl, eu⟩⟩
  · have hnew : ∀ u, u < n → tt u ≠ mkT h C := fun u hu e => hin ⟨u, hu, e⟩
    by_cases hm : mdn md ≤ n
    · rw [add_full rfl hin hm]
      have e : mdn md = n := by omega
      rw [e]
      exact ⟨-1, _, _, _, _, _, _, _, _, _, _, _, _, qmake_full w qt (by omega) ha hb hc hnew, w, ⟨qt, q1, q2⟩, Nat.le_succ _, Or.inl ⟨rfl, rfl⟩⟩
    · rw [add_new rfl hin (show n < mdn md by omega)]
      have hin2 : ∀ k, C k = nilT ∨ ∃ u, u < n ∧ tt u = C k := fin3 (rf_in ha) (rf_in hb) (rf_in hc)
      have wg := w.grow (h := h) (C := C) (by omega) (fun h => by omega) (fun _ => hari) hin2 hnew
      cases md with
      | true =>
        have hm' : n < 101100 := by unfold mdn at hm; rw [if_pos rfl] at hm; omega
        obtain ⟨b1, b2, b3, b4, b5, b6, b7, b8, m2, qt'⟩ := qmake_pool (Q_names := Q_names) (Q_variables := Q_variables) (Q_holes := Q_holes) (Q_sizes := Q_sizes) w qt (by omega) ha hb hc hm' hnew
        exact ⟨nI n, b1, b2, b3, b4, b5, b6, b7, b8, _, _, _, _, m2, wg, ⟨qt', q1, fun h => absurd h (by decide)⟩, Nat.le_refl _, Or.inr ⟨rfl, n, Nat.lt_succ_self n, rfl, ext_s _ _ _⟩⟩
      | false =>
        have hm' : n < 100 := by unfold mdn at hm; rw [if_neg (by decide)] at hm; omega
        obtain ⟨b1, b2, b3, b4, b5, b6, b7, b8, b9, b10, b11, b12, m2, qt', hq'⟩ := qmake_new w qt (q2 rfl).2 (by omega) ha hb hc hm' hnew
        rw [szo_szT (b := true) w (by omega) ha, szo_szT (b := true) w (by omega) hb, szo_szT (b := true) w (by omega) hc] at hq'
        exact ⟨nI n, b1, b2, b3, b4, b5, b6, b7, b8, b9, b10, b11, b12, m2, wg, ⟨qt', fun h => absurd h (by decide), fun _ => ⟨hm', hq'⟩⟩, Nat.le_refl _, Or.inr ⟨rfl, n, Nat.lt_succ_self n, rfl, ext_s _ _ _⟩⟩
def dueI (tt : Nat → Tm) (im : Nat → Int32) (u d : Nat) (x : Int32) : Prop :=
  (x = -1 ∧ ∀ j : Fin 3, d ≤ j.val → kidI tt im u j) ∨ ∃ (c : Nat) (k : Fin 3), c < u ∧ x = nI c ∧ tt c = chT k (tt u) ∧ im c = -1 ∧ d ≤ k.val ∧ ∀ j : Fin 3, d ≤ j.val → j.val < k.val → kidI tt im u j
theorem due_loop (qt : QTb tt n Q_all Q_kinds Q_which Q_firsts Q_seconds Q_thirds Q_nexts Q_heads) {im : Nat → Int32} {u : Nat} (hu : u < n) (h100 : u < 100) (K : Int32 → (Nat → Int32) → (Nat → Int32) → (Nat → Int32) → (Nat → Int32) → (Nat → Int32) → (Nat → Int32) → (Nat → Int32) → (Nat → Int32) → (Nat → Int32) → (Nat → Int32) → (Nat → Int32) → (Nat → Int32) → (Nat → Int32) → Int32 → Int32 → Int32 → Option (Int32 × Int32 × (Nat → Int32) × (Nat → Int32) × (Nat → Int32) × (Nat → Int32) × (Nat → Int32) × (Nat → Int32) × (Nat → Int32) × (Nat → Int32) × (Nat → Int32) × (Nat → Int32) × (Nat → Int32) × (Nat → Int32) × (Nat → Int32))) (ws : Nat → Int32) (x1 x2 x3 : Int32) :
    ∀ d, d ≤ 3 → ∀ fuel, d < fuel → ∀ x, dueI tt im u d x → ∃ f x', f_Q_put_L50 Q_bound K fuel Q_all Q_kinds Q_which Q_firsts Q_seconds Q_thirds Q_nexts Q_heads Q_names Q_variables Q_holes Q_sizes im ws x1 x2 x3 (nI u) x (nI d - 1) = f_Q_put_L50 Q_bound K (f + 1) Q_all Q_kinds Q_which Q_firsts Q_seconds Q_thirds Q_nexts Q_heads Q_names Q_variables Q_holes Q_sizes im ws x1 x2 x3 (nI u) x' (-1) ∧ dueI tt im u 0 x' := by
  intro d
  induction d with
  | zero =>
    intro _ fuel hf x hx
    obtain ⟨f, rfl⟩ : ∃ f, fuel = f + 1 := ⟨fuel - 1, by omega⟩
    exact ⟨f, x, by rw [show (nI 0 - 1 : Int32) = -1 by decide], hx⟩
  | succ d ih =>
    intro hd fuel hf x hx
    obtain ⟨f, rfl⟩ : ∃ f, fuel = f + 1 := ⟨fuel - 1, by omega⟩
    have hd3 : d < 3 := by omega
    have em : nI d + (-1 : Int32) = nI d - 1 := (Int32.sub_eq_add_neg _ _).symm
    obtain ⟨y, e1, e2⟩ := qpart qt hu ⟨d, hd3⟩
    simp only at e1
    rw [nI_pred, f_Q_put_L50, if_neg (nI_pos (by omega)), e1, bd_s]
    have hnext : kidI tt im u ⟨d, hd3⟩ → dueI tt im u d x := by
      intro h
      have hj : ∀ j : Fin 3, d ≤ j.val → (d + 1 ≤ j.val → kidI tt im u j) → kidI tt im u j := by
        intro j h1 h2
        by_cases c : j.val = d
        · rw [show j = ⟨d, hd3⟩ from Fin.ext c]; exact h
        · exact h2 (by omega)
      rcases hx with ⟨a1, a2⟩ | ⟨c, k, a1, a2, a3, a4, a5, a6⟩
      · exact Or.inl ⟨a1, fun j h1 => hj j h1 (a2 j)⟩
      · exact Or.inr ⟨c, k, a1, a2, a3, a4, by omega, fun j h1 h2 => hj j h1 (fun h3 => a6 j h3 h2)⟩
    rcases e2 with ⟨b1, b2⟩ | ⟨c, hc, b1, b2⟩
    · rw [if_pos b1, nmE, em]
      exact ih (by omega) f (by omega) x (hnext (Or.inl b2))
    · rw [b1, if_neg (nI_nm1 (by omega)), gd_t (ixb_t (by omega) (by omega)), nI_clamp (by omega)]
      by_cases ci : im c = -1
      · rw [if_pos ci, nmE, em]
        exact ih (by omega) f (by omega) (nI c) (Or.inr ⟨c, ⟨d, hd3⟩, hc, rfl, b2, ci, Nat.le_refl _, fun j h1 h2 => by simp only at h2; omega⟩)
      · rw [if_neg ci, nmE, em]
        exact ih (by omega) f (by omega) x (hnext (Or.inr ⟨c, hc, b2, ci⟩))
/-- what a term becomes -/
theorem qpop {md : Bool} (w : WF tt n ar) (hs : ∀ h, σ h ≠ none → 30 ≤ h ∧ h < 38) (hne : ∀ h U, σ h = some U → U ≠ nilT) {s : TS} (hok : s.2.2.2 = true) (w' : WF s.1 s.2.1 ar) (qr : QR md s.1 s.2.1 s.2.2.1 kn kv kh ks Q_all Q_kinds Q_which Q_firsts Q_seconds Q_thirds Q_nexts Q_heads Q_names Q_variables Q_holes Q_sizes) (hk : kpT (tt, n, fun _ => 0, true) s) {im : Nat → Int32} (hi : imS tt n σ s im)
    (hbd : ∀ v, v < 8 → rf tt n (Q_bound v) (oT (σ (30 + v)))) {u : Nat} (hu : u < n) (h100 : u < 100) (hkid : ∀ k, kidI tt im u k) :
    ∃ (r : Int32) (Q_all' : Int32) (Q_kinds' Q_which' Q_firsts' Q_seconds' Q_thirds' Q_nexts' Q_heads' Q_names' Q_variables' Q_holes' Q_sizes' : Nat → Int32),
      f_Q_become Q_all Q_kinds Q_which Q_firsts Q_seconds Q_thirds Q_nexts Q_heads Q_names Q_variables Q_holes Q_sizes im Q_bound (nI u) (nI (mdn md)) = some (r, Q_all', Q_kinds', Q_which', Q_firsts', Q_seconds', Q_thirds', Q_nexts', Q_heads', Q_names', Q_variables', Q_holes', Q_sizes') ∧
      WF (insT (mdn md) σ (u + 1) (tt u) s).1 (insT (mdn md) σ (u + 1) (tt u) s).2.1 ar ∧ QR md (insT (mdn md) σ (u + 1) (tt u) s).1 (insT (mdn md) σ (u + 1) (tt u) s).2.1 (insT (mdn md) σ (u + 1) (tt u) s).2.2.1 kn kv kh ks Q_all' Q_kinds' Q_which' Q_firsts' Q_seconds' Q_thirds' Q_nexts' Q_heads' Q_names' Q_variables' Q_holes' Q_sizes' ∧ (insT (mdn md) σ (u + 1) (tt u) s).2.1 ≤ s.2.1 + 1 ∧
      ((r = -1 ∧ (insT (mdn md) σ (u + 1) (tt u) s).2.2.2 = false) ∨ ((insT (mdn md) σ (u + 1) (tt u) s).2.2.2 = true ∧ ∃ v, v < (insT (mdn md) σ (u + 1) (tt u) s).2.1 ∧ r = nI v ∧ (insT (mdn md) σ (u + 1) (tt u) s).1 v = sub σ (tt u))) := by
  have qt := qr.1
  have hn := qt.2.1
  obtain ⟨h, hh, e, -, hari⟩ := w.2.1 u hu
  have hus : u < s.2.1 := Nat.lt_of_lt_of_le hu hk.1
  have eu : s.1 u = tt u := hk.2.1 u hu
  have e' : s.1 u [] = h + 1 := by rw [eu]; exact e
  obtain ⟨ekd, ewh⟩ := qt.2.2.2.1 u hus h e'
  obtain ⟨pl0, pl1, pl2⟩ := qt.2.2.2.2 u hus
  have hgd : ixb (nI u) 101100 = true := ixb_t (by omega) (by omega)
  unfold f_Q_become
  simp only [hgd, gd_tt]
  rw [nI_clamp (by omega), ekd, ewh]
  by_cases c38 : 38 ≤ h
  · have hkd : kd h = 2 := by unfold kd; rw [if_neg (by omega), if_neg (by omega)]
    have hσ : σ h = none := by
      cases hσ : σ h with
      | none => rfl
      | some U => have := hs h (by rw [hσ]; exact fun e => by cases e); omega
    rw [hkd, if_neg (by decide), if_pos (by decide), ins_leaf (by omega)]
    exact ⟨nI u, _, _, _, _, _, _, _, _, _, _, _, _, rfl, w', qr, Nat.le_succ _, Or.inr ⟨hok, u, hus, rfl, by rw [eu, leaf_sub w hu e (by omega) hσ]⟩⟩
  by_cases c30 : 30 ≤ h
  · have hkd : kd h = 1 := by unfold kd; rw [if_neg (by omega), if_pos (by omega)]
    have hwh : wh h = h - 30 := by unfold wh; rw [if_neg (by omega), if_pos (by omega)]
    have hb := hbd (h - 30) (by omega)
    rw [show 30 + (h - 30) = h by omega] at hb
    rw [hkd, hwh, if_pos (by decide), gd_t (ixb_t (by omega) (by omega)), gd_t (ixb_t (by omega) (by omega)), nI_clamp (by omega), ins_leaf (by omega)]
    cases hσ : σ h with
    | none =>
      rw [hσ] at hb
      have hb1 : Q_bound (h - 30) = -1 := by
        rcases hb with ⟨b1, -⟩ | ⟨v, hv, -, b2⟩
        · exact b1
        · exact absurd b2 (w.ne hv)
      rw [if_pos hb1]
      exact ⟨nI u, _, _, _, _, _, _, _, _, _, _, _, _, rfl, w', qr, Nat.le_succ _, Or.inr ⟨hok, u, hus, rfl, by rw [eu, leaf_sub w hu e (by omega) hσ]⟩⟩
    | some U =>
      rw [hσ] at hb
      rcases hb with ⟨-, b2⟩ | ⟨v, hv, b1, b2⟩
      · exact absurd b2 (hne h U hσ)
      · have hvs : v < s.2.1 := Nat.lt_of_lt_of_le hv hk.1
        rw [if_neg (by rw [b1]; exact nI_nm1 (by omega)), b1]
        refine ⟨nI v, _, _, _, _, _, _, _, _, _, _, _, _, rfl, w', qr, Nat.le_succ _, Or.inr ⟨hok, v, hvs, rfl, ?_⟩⟩
        rw [sub_some (show rtS σ (tt u []) = some U by rw [e]; exact hσ)]
        exact (hk.2.1 v hv).trans b2
  · have hkd : kd h = 0 := by unfold kd; rw [if_pos (by omega)]
    have hwh : wh h = h := by unfold wh; rw [if_pos (by omega)]
    have hs30 : ∀ h, h < 30 → σ h = none := by
      intro g hg
      cases hσ : σ g with
      | none => rfl
      | some U => have := hs g (by rw [hσ]; exact fun e => by cases e); omega
    have hnl : ¬ (tt u [] = 0 ∨ 31 ≤ tt u []) := by omega
    have hcl : clT s := by
      obtain ⟨a, b, c, d⟩ := s
      exact w'.cl c d
    have hpl : ∀ (k : Fin 3) x, rf s.1 u x (chT k (s.1 u)) → ∃ y, f_Q_become0 im x = some y ∧ rf s.1 s.2.1 y (sub σ (chT k (tt u))) := by
      intro k x hr
      unfold f_Q_become0
      rcases hr with ⟨a1, a2⟩ | ⟨c, hc, a1, a2⟩
      · rw [eu] at a2
        exact ⟨-1, by rw [if_pos a1], Or.inl ⟨rfl, by rw [a2, sub_nil]⟩⟩
      · rw [eu] at a2
        have ec : tt c = chT k (tt u) := (hk.2.1 c (show c < n by omega)).symm.trans a2
        refine ⟨im c, by rw [a1, if_neg (nI_nm1 (by omega)), gd_t (ixb_t (by omega) (by omega)), nI_clamp (by omega)], ?_⟩
        rcases hkid k with h1 | ⟨c', h1, h2, h3⟩
        · rw [h1] at ec
          exact absurd ec (w.ne (by omega))
        · have : c' = c := w.1 c' (by omega) c (by omega) (h2.trans ec.symm)
          subst this
          rcases hi c' (by omega) with e5 | ⟨-, v, h4, h5, h6⟩
          · exact absurd e5 h3
          · exact Or.inr ⟨v, h4, h5, by rw [h6, ec]⟩
    obtain ⟨y0, q0, r0⟩ := hpl 0 _ pl0
    obtain ⟨y1, q1, r1⟩ := hpl 1 _ pl1
    obtain ⟨y2, q2, r2⟩ := hpl 2 _ pl2
    have hC : ∃ m, m ≤ 3 ∧ ar h = nI m ∧ ∀ k : Fin 3, ((fun k => sub σ (chT k (tt u))) k = nilT ↔ m ≤ k.val) := by
      obtain ⟨m, h1, h2, h3⟩ := hari (by omega)
      refine ⟨m, h1, h2, fun k => ?_⟩
      rw [← h3 k]
      constructor
      · intro h4
        rcases w.2.2 u hu k with h5 | ⟨v, hv, ev⟩
        · exact h5
        · have h4' : sub σ (chT k (tt u)) = nilT := h4
          rw [← ev] at h4'
          obtain ⟨g, -, eg, -⟩ := w.2.1 v (by omega)
          exact absurd h4' (sub_ne hne (w.ne (by omega)) (by omega))
      · intro h4
        show sub σ (chT k (tt u)) = nilT
        rw [h4, sub_nil]
    obtain ⟨r, a1, a2, a3, a4, a5, a6, a7, a8, a9, a10, a11, a12, m1, m2, m3, m4, m5⟩ := qmk hok w' qr (h := h) (by omega) (C := fun k => sub σ (chT k (tt u))) hC r0 r1 r2
    rw [← subnode e (hs30 h (by omega)), ← ins_pop w hs30 hne hu hnl hcl (fun j => kid_in hi h100 (hkid j))] at m2 m3 m4 m5
    rw [hkd, hwh, if_neg (by decide), if_neg (by decide), q0, bd_s, q1, bd_s, q2, bd_s, m1, bd_s]
    exact ⟨r, a1, a2, a3, a4, a5, a6, a7, a8, a9, a10, a11, a12, rfl, m2, m3, m4, m5⟩
end
