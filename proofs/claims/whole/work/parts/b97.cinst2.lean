section
variable {tt : Nat → Tm} {n N : Nat} {ar : Nat → Int32} {σ : Nat → Option Tm} {T_count : Int32} {T_heads T_places T_olders T_sizes : Nat → Int32} {T_withins : Nat → Int64} {T_newest : Nat → Int32}
theorem leaf_sub (w : WF tt n ar) {x h : Nat} (hx : x < n) (e : tt x [] = h + 1) (h30 : 30 ≤ h) (hs : σ h = none) : sub σ (tt x) = tt x :=
  sub_id (fun g hg => by rw [leaf_std w hx e h30 hg]; exact hs)
theorem bs_of (w : WF tt n ar) (hσt : ∀ h U, σ h = some U → ∃ u, u < n ∧ tt u = U) (sz : Nat → Nat) (b : Bool) : bsT tt n σ (tt, n, sz, b) := by
  intro x hx h1
  obtain ⟨h, -, e, -⟩ := w.2.1 x hx
  cases hs : σ h with
  | none => rw [leaf_sub w hx e (by omega) hs]; exact ⟨x, hx, rfl⟩
  | some U =>
    have e2 : rtS σ (tt x []) = some U := by rw [e]; exact hs
    rw [sub_some e2]
    exact hσt h U hs
/-- the last open term gets its image -/
theorem cpop (w : WF tt n ar) (hs : ∀ h, h < 30 → σ h = none) (hne : ∀ h U, σ h = some U → U ≠ nilT) {s : TS} (hok : s.2.2.2 = true) (w' : WF s.1 s.2.1 ar) (ct : CT s.1 s.2.1 N s.2.2.1 T_count T_heads T_places T_olders T_sizes T_withins T_newest) (hk : kpT (tt, n, fun _ => 0, true) s) {im : Nat → Int32} (hi : imS tt n σ s im)
    {u : Nat} (hu : u < n) (h100 : u < 100) (hleaf : ∀ h, tt u [] = h + 1 → 30 ≤ h → σ h = none) (hkid : ∀ k, kidI tt im u k) {most : Nat} (hmm : most < 2 ^ 31) (hroom : s.2.1 < most → s.2.1 < N) :
    ∃ (r : Int32) (T_count' : Int32) (T_heads' T_places' T_olders' T_sizes' : Nat → Int32) (T_withins' : Nat → Int64) (T_newest' : Nat → Int32) (im' : Nat → Int32),
      f_M_putImage T_count N T_heads (3*N) T_places N T_olders N T_sizes N T_withins T_newest im (nI u) (nI most) = some (r, T_count', T_heads', T_places', T_olders', T_sizes', T_withins', T_newest', im') ∧
      WF (insT most σ (u + 1) (tt u) s).1 (insT most σ (u + 1) (tt u) s).2.1 ar ∧ CT (insT most σ (u + 1) (tt u) s).1 (insT most σ (u + 1) (tt u) s).2.1 N (insT most σ (u + 1) (tt u) s).2.2.1 T_count' T_heads' T_places' T_olders' T_sizes' T_withins' T_newest' ∧ (insT most σ (u + 1) (tt u) s).2.1 ≤ s.2.1 + 1 ∧
      ((r = 0 ∧ (insT most σ (u + 1) (tt u) s).2.2.2 = false) ∨ (r = 1 ∧ (insT most σ (u + 1) (tt u) s).2.2.2 = true ∧ ∃ v, v < (insT most σ (u + 1) (tt u) s).2.1 ∧ im' = upd im u (nI v) ∧ (insT most σ (u + 1) (tt u) s).1 v = sub σ (tt u))) := by
  have hN := ct.2.2.2.1
  have hnN := ct.2.1
  obtain ⟨h, hh, e, -, hari⟩ := w.2.1 u hu
  have hus : u < s.2.1 := Nat.lt_of_lt_of_le hu hk.1
  have eu : s.1 u = tt u := hk.2.1 u hu
  have e' : s.1 u [] = h + 1 := by rw [eu]; exact e
  have B68 : ∀ (T_count : Int32) (T_heads T_places T_olders T_sizes : Nat → Int32) (T_withins : Nat → Int64) (T_newest : Nat → Int32) (r : Int32), f_M_putImage_B68 N (3*N) N N N T_count T_heads T_places T_olders T_sizes T_withins T_newest im (nI u) r = if r = -1 then some (0, T_count, T_heads, T_places, T_olders, T_sizes, T_withins, T_newest, upd im u r) else some (1, T_count, T_heads, T_places, T_olders, T_sizes, T_withins, T_newest, upd im u r) := by
    intro T_count T_heads T_places T_olders T_sizes T_withins T_newest r
    unfold f_M_putImage_B68 f_M_putImage_B86
    rw [if_neg (nI_pos (by omega)), if_neg (show ¬ (100 : Int32) ≤ nI u from (nI_ge h100 (by omega) : ¬ nI 100 ≤ nI u)), gd_t (ixb_t h100 (by omega)), nmE, nI_clamp (by omega)]
  unfold f_M_putImage
  rw [head_t ct hus e', bd_s]
  by_cases c30 : 30 ≤ h
  · rw [if_pos (show (30 : Int32) ≤ nI h from ((nI_leI (by omega) (by omega)).mpr c30 : nI 30 ≤ nI h)), B68, if_neg (nI_nm1 (by omega)), ins_leaf (by omega)]
    exact ⟨1, _, _, _, _, _, _, _, _, rfl, w', ct, Nat.le_succ _, Or.inr ⟨rfl, hok, u, hus, rfl, by rw [eu, leaf_sub w hu e c30 (hleaf h e c30)]⟩⟩
  · have hnl : ¬ (tt u [] = 0 ∨ 31 ≤ tt u []) := by omega
    have hsh : σ h = none := hs h (by omega)
    have hcl : clT s := by
      obtain ⟨a, b, c, d⟩ := s
      exact w'.cl c d
    have hpl : ∀ k : Fin 3, ∃ x y, f_T_place T_count (3*N) T_places (nI u) (nI k.val) = some x ∧ f_M_image im x = some y ∧ rf s.1 s.2.1 y (sub σ (chT k (tt u))) := by
      intro k
      have hr := ct.2.2.2.2.2.2.1 u hus k
      refine ⟨T_places (3 * u + k.val), ?_⟩
      rw [place_v ct hus k.isLt]
      rcases hr with ⟨a1, a2⟩ | ⟨c, hc, a1, a2⟩
      · rw [eu] at a2
        exact ⟨-1, rfl, by rw [a1]; exact image_m im, Or.inl ⟨rfl, by rw [a2, sub_nil]⟩⟩
      · rw [eu] at a2
        have ec : tt c = chT k (tt u) := (hk.2.1 c (show c < n by omega)).symm.trans a2
        refine ⟨im c, rfl, by rw [a1]; exact image_eq (by omega), ?_⟩
        rcases hkid k with h1 | ⟨c', h1, h2, h3⟩
        · rw [h1] at ec
          exact absurd ec (w.ne (by omega))
        · have : c' = c := w.1 c' (by omega) c (by omega) (h2.trans ec.symm)
          subst this
          rcases hi c' (by omega) with e5 | ⟨-, v, h4, h5, h6⟩
          · exact absurd e5 h3
          · exact Or.inr ⟨v, h4, h5, by rw [h6, ec]⟩
    obtain ⟨x0, y0, p0, q0, r0⟩ := hpl 0
    obtain ⟨x1, y1, p1, q1, r1⟩ := hpl 1
    obtain ⟨x2, y2, p2, q2, r2⟩ := hpl 2
    have hC : ∃ m, m ≤ 3 ∧ ar h = nI m ∧ ∀ k : Fin 3, ((fun k => sub σ (chT k (tt u))) k = nilT ↔ m ≤ k.val) := by
      obtain ⟨m, h1, h2, h3⟩ := hari (by omega)
      refine ⟨m, h1, h2, fun k => ?_⟩
      rw [← h3 k]
      constructor
      · intro h4
        rcases w.2.2 u hu k with h5 | ⟨v, hv, ev⟩
        · exact h5
        · have h4' : sub σ (chT k (tt u)) = nilT := h4
          rw [← ev] at h4'
          obtain ⟨g, -, eg, -⟩ := w.2.1 v (by omega)
          exact absurd h4' (sub_ne hne (w.ne (by omega)) (by omega))
      · intro h4
        show sub σ (chT k (tt u)) = nilT
        rw [h4, sub_nil]
    obtain ⟨r, a1, a2, a3, a4, a5, a6, a7, m1, m2, m3, m4, m5⟩ := cmk hok w' ct (h := h) (by omega) (C := fun k => sub σ (chT k (tt u))) hC r0 r1 r2 hmm hroom
    rw [← subnode e hsh, ← ins_pop w hs hne hu hnl hcl (fun j => kid_in hi h100 (hkid j))] at m2 m3 m4 m5
    have c30' : ¬ (30 : Int32) ≤ nI h := (nI_ge (by omega) (by omega) : ¬ nI 30 ≤ nI h)
    have q0' : f_T_place T_count (3*N) T_places (nI u) 0 = some x0 := p0
    have q1' : f_T_place T_count (3*N) T_places (nI u) 1 = some x1 := p1
    have q2' : f_T_place T_count (3*N) T_places (nI u) 2 = some x2 := p2
    rw [if_neg c30', q0', bd_s, q0, bd_s, q1', bd_s, q1, bd_s, q2', bd_s, q2, bd_s, m1, bd_s, B68]
    rcases m5 with ⟨e1, e2⟩ | ⟨e2, v, hv, e1, e3⟩
    · rw [if_pos e1]
      exact ⟨0, a1, a2, a3, a4, a5, a6, a7, _, rfl, m2, m3, m4, Or.inl ⟨rfl, e2⟩⟩
    · have hv31 : v < 2 ^ 31 := by
        have := m3.2.1
        have := m3.2.2.2.1
        omega
      rw [if_neg (by rw [e1]; exact nI_nm1 hv31), e1]
      exact ⟨1, a1, a2, a3, a4, a5, a6, a7, _, rfl, m2, m3, m4, Or.inr ⟨rfl, e2, v, hv, rfl, e3⟩⟩
theorem cinst_loop (w : WF tt n ar) (hs : ∀ h, h < 30 → σ h = none) (hσt : ∀ h U, σ h = some U → ∃ u, u < n ∧ tt u = U) {p0 : Nat} (hp : p0 < n) (hp1 : p0 < 100) {most : Nat} (hmm : most < 2 ^ 31) (F : TS) :
    ∀ e fuel, e < fuel → ∀ (d mv : Nat) (s : TS) (T_count : Int32) (T_heads T_places T_olders T_sizes : Nat → Int32) (T_withins : Nat → Int64) (T_newest im path : Nat → Int32) (pt : Nat → Nat),
    s.2.2.2 = true → WF s.1 s.2.1 ar → CT s.1 s.2.1 N s.2.2.1 T_count T_heads T_places T_olders T_sizes T_withins T_newest → kpT (tt, n, fun _ => 0, true) s → (most ≤ N ∨ s.2.1 + cn im ≤ N) → imS tt n σ s im → (∀ x h, x < 100 → x < n → tt x [] = h + 1 → 30 ≤ h → im x = -1 → σ h = none) →
    (∀ i, i < d → path i = nI (pt i) ∧ pt i < n ∧ pt i < 100 ∧ im (pt i) = -1) → (∀ i, i + 1 < d → pt (i + 1) < pt i) → (d = 0 → im p0 ≠ -1) → (0 < d → pt 0 = p0) → bsT tt n σ s →
    runT most σ tt pt d s = F → 2 * cn im = e + d → mv + e ≤ 199 →
    ∃ (r : Int32) (T_count' : Int32) (T_heads' T_places' T_olders' T_sizes' : Nat → Int32) (T_withins' : Nat → Int64) (T_newest' im' path' : Nat → Int32),
      f_M_instance_L38 N (3*N) N N N fuel T_count T_heads T_places T_olders T_sizes T_withins T_newest im path (nI p0) (nI most) (nI d) (nI mv) = some (r, T_count', T_heads', T_places', T_olders', T_sizes', T_withins', T_newest', im', path') ∧ WF F.1 F.2.1 ar ∧ CT F.1 F.2.1 N F.2.2.1 T_count' T_heads' T_places' T_olders' T_sizes' T_withins' T_newest' ∧ kpT s F ∧ F.2.1 ≤ s.2.1 + cn im ∧
      ((r = -1 ∧ F.2.2.2 = false) ∨ (F.2.2.2 = true ∧ ∃ u, u < F.2.1 ∧ r = nI u ∧ F.1 u = sub σ (tt p0))) := by
  have hne : ∀ h U, σ h = some U → U ≠ nilT := fun h U e => by
    obtain ⟨u, hu, eu⟩ := hσt h U e
    rw [← eu]; exact w.ne hu
  intro e
  induction e with
  | zero =>
    intro fuel hf d mv s T_count T_heads T_places T_olders T_sizes T_withins T_newest im path pt hok w' ct hk hroom hi hleaf hst hdec hd0 hd1 hb hrun hms hmv
    have hd : d ≤ cn im := cn_stack (fun i hi => ⟨(hst i hi).2.2.1, (hst i hi).2.2.2⟩) hdec
    have hd' : d = 0 := by omega
    subst hd'
    obtain ⟨f, rfl⟩ : ∃ f, fuel = f + 1 := ⟨fuel - 1, by omega⟩
    have hF : s = F := hrun
    subst hF
    refine ⟨im p0, _, _, _, _, _, _, _, im, path, ?_, w', ct, kpT.refl _, by omega, ?_⟩
    · rw [f_M_instance_L38, if_neg (show ¬ (200 : Int32) ≤ nI mv from (nI_ge (by omega) (by omega) : ¬ nI 200 ≤ nI mv)), if_pos (show nI 0 ≤ (0 : Int32) by decide), gd_t (ixb_t hp1 (by omega)), nI_clamp (by omega)]
    · rcases hi p0 hp1 with h | ⟨-, u, h1, h2, h3⟩
      · exact absurd h (hd0 rfl)
      · exact Or.inr ⟨hok, u, h1, h2, h3⟩
  | succ e ih =>
    intro fuel hf d mv s T_count T_heads T_places T_olders T_sizes T_withins T_newest im path pt hok w' ct hk hroom hi hleaf hst hdec hd0 hd1 hb hrun hms hmv
    obtain ⟨f, rfl⟩ : ∃ f, fuel = f + 1 := ⟨fuel - 1, by omega⟩
    have hN := ct.2.2.2.1
    have hnN := ct.2.1
    have c200 : ¬ (200 : Int32) ≤ nI mv := (nI_ge (by omega) (by omega) : ¬ nI 200 ≤ nI mv)
    cases d with
    | zero =>
      have hF : s = F := hrun
      subst hF
      refine ⟨im p0, _, _, _, _, _, _, _, im, path, ?_, w', ct, kpT.refl _, by omega, ?_⟩
      · rw [f_M_instance_L38, if_neg c200, if_pos (show nI 0 ≤ (0 : Int32) by decide), gd_t (ixb_t hp1 (by omega)), nI_clamp (by omega)]
      · rcases hi p0 hp1 with h | ⟨-, u, h1, h2, h3⟩
        · exact absurd h (hd0 rfl)
        · exact Or.inr ⟨hok, u, h1, h2, h3⟩
    | succ d =>
      obtain ⟨hpu, hun, hu100, huim⟩ := hst d (Nat.lt_succ_self d)
      obtain ⟨u, hud⟩ : ∃ u, u = pt d := ⟨_, rfl⟩
      rw [← hud] at hpu hun hu100 huim
      have hus : u < s.2.1 := Nat.lt_of_lt_of_le hun hk.1
      have heq : ∀ x, x < n → s.1 x = tt x := fun x hx => hk.2.1 x hx
      have hdc : d + 1 ≤ cn im := cn_stack (fun i hi => ⟨(hst i hi).2.2.1, (hst i hi).2.2.2⟩) hdec
      have hcn := cn_le im
      have hcl : clT s := by
        obtain ⟨a, b, c, d⟩ := s
        exact w'.cl c d
      have hkd : ∀ k, kidI s.1 im u k → kidI tt im u k := by
        intro k h
        rcases h with h | ⟨c, h1, h2, h3⟩
        · rw [heq u hun] at h; exact Or.inl h
        · rw [heq u hun, heq c (by omega)] at h2; exact Or.inr ⟨c, h1, h2, h3⟩
      have hL : f_M_instance_L38 N (3*N) N N N (f + 1) T_count T_heads T_places T_olders T_sizes T_withins T_newest im path (nI p0) (nI most) (nI (d + 1)) (nI mv) = (f_M_placeWithoutImage T_count (3*N) T_places im (nI u)).bind fun r16 =>
          if r16 = (-1 : Int32) then f_M_instance_B94 N (3*N) N N N (f_M_instance_L38 N (3*N) N N N f) T_count T_heads T_places T_olders T_sizes T_withins T_newest im path (nI p0) (nI most) (nI (d + 1)) (nI mv) (nI u)
          else if 100 ≤ nI (d + 1) then f_M_instance_B94 N (3*N) N N N (f_M_instance_L38 N (3*N) N N N f) T_count T_heads T_places T_olders T_sizes T_withins T_newest im path (nI p0) (nI most) (nI (d + 1)) (nI mv) (nI u)
          else gd (ixb (nI (d + 1)) 100) <| nm (upd path (nI (d + 1)).toNatClampNeg r16) fun g20 => nm (nI (d + 1) + 1) fun x21 => nm (nI mv + 1) fun x22 => f_M_instance_L38 N (3*N) N N N f T_count T_heads T_places T_olders T_sizes T_withins T_newest im g20 (nI p0) (nI most) x21 x22 := by
        rw [f_M_instance_L38, if_neg c200, if_neg (show ¬ nI (d + 1) ≤ (0 : Int32) from (nI_ge (by omega) (by omega) : ¬ nI (d + 1) ≤ nI 0)), nI_pred, gd_t (ixb_t (by omega) (by omega)), nmE, nI_clamp (by omega), hpu]
      rw [hL]
      rcases pwi_eq ct (im := im) hus hu100 with ⟨g1, g2⟩ | ⟨c, k, hcu, g1, g2, g3, g4⟩
      · rw [g1, bd_s, if_pos rfl]
        unfold f_M_instance_B94
        obtain ⟨r, a1, a2, a3, a4, a5, a6, a7, im', m1, m2, m3, m4, m5⟩ := cpop w hs hne hok w' ct hk hi hun hu100 (fun h e1 e2 => hleaf u h hu100 hun e1 e2 huim) (fun k => hkd k (g2 k)) hmm (fun h => by
          rcases hroom with h1 | h1
          · omega
          · omega)
        have hkp := kp_ins most σ (u + 1) (tt u) s
        have hrun' : runT most σ tt pt d (insT most σ (u + 1) (tt u) s) = F := by rw [hud]; exact hrun
        generalize insT most σ (u + 1) (tt u) s = s1 at *
        rw [m1, bd_s]
        rcases m5 with ⟨e1, e2⟩ | ⟨e1, e2, v, hv, e3, e4⟩
        · rw [if_pos e1]
          rw [run_false d s1 e2] at hrun'
          subst hrun'
          exact ⟨-1, a1, a2, a3, a4, a5, a6, a7, im', path, rfl, m2, m3, hkp, by omega, Or.inl ⟨rfl, e2⟩⟩
        · rw [if_neg (show ¬ r = 0 by rw [e1]; decide), nmE, nmE, nI_m1, nI_1]
          have hv31 : v < 2 ^ 31 := by
            have h1 := m3.2.1
            have h2 := m3.2.2.2.1
            omega
          have hcn' : cn im' + 1 = cn im := by rw [e3]; exact cn_upd hu100 huim (nI_nm1 hv31)
          have hi' : imS tt n σ s1 im' := by rw [e3]; exact (hi.kp hkp).up hun hv e4
          have hne' : ∀ i, i < d → pt i ≠ u := by
            intro i hi
            have key : ∀ j, i + j + 1 ≤ d → pt (i + j + 1) < pt i := by
              intro j
              induction j with
              | zero => intro h; exact hdec i (by omega)
              | succ j ih2 => intro h; have := ih2 (by omega); have h3 := hdec (i + j + 1) (by omega); rw [show i + (j + 1) + 1 = i + j + 1 + 1 by omega]; omega
            have := key (d - i - 1) (by omega)
            rw [show i + (d - i - 1) + 1 = d by omega, ← hud] at this
            omega
          obtain ⟨r, b1, b2, b3, b4, b5, b6, b7, im2, path2, n1, n2, n3, n4, n5, n6⟩ := ih f (by omega) d (mv + 1) s1 a1 a2 a3 a4 a5 a6 a7 im' path pt e2 m2 m3 (hk.trans hkp) (by
              rcases hroom with h1 | h1
              · exact Or.inl h1
              · exact Or.inr (by omega)) hi' (fun x h hx hxn e5 e6 e7 => hleaf x h hx hxn e5 e6 (by
                by_cases c : x = u
                · rw [c, e3, up_s] at e7; exact absurd e7 (nI_nm1 hv31)
                · rw [e3, up_n c] at e7; exact e7)) (fun i hi => by
                obtain ⟨q1, q2, q3, q4⟩ := hst i (by omega)
                exact ⟨q1, q2, q3, by rw [e3, up_n (hne' i hi)]; exact q4⟩) (fun i hi => hdec i (by omega)) (fun h => by
                have : pt 0 = p0 := hd1 (by omega)
                have hup : u = p0 := by rw [hud, h]; exact this
                rw [e3, ← hup, up_s]; exact nI_nm1 hv31) (fun h => hd1 (by omega)) (hb.kp hkp) hrun' (by omega) (by omega)
          exact ⟨r, b1, b2, b3, b4, b5, b6, b7, im2, path2, n1, n2, n3, hkp.trans n4, by omega, n6⟩
      · rw [g1, bd_s, if_neg (nI_nm1 (by omega))]
        rw [heq c (by omega), heq u hun] at g2
        have g4' : ∀ j : Fin 3, j.val < k.val → kidI tt im u j := fun j hj => hkd j (g4 j hj)
        have hnl : ¬ (tt u [] = 0 ∨ 31 ≤ tt u []) := by
          obtain ⟨h, -, e5, e6, -⟩ := w.2.1 u hun
          rintro (h1 | h1)
          · omega
          · have := e6 (by omega) k
            rw [← g2] at this
            exact w.ne (by omega) this
        have hst' : ∀ i, i < d + 2 → (upd path (d + 1) (nI c)) i = nI ((fun i => if i = d + 1 then c else pt i) i) ∧ (fun i => if i = d + 1 then c else pt i) i < n ∧ (fun i => if i = d + 1 then c else pt i) i < 100 ∧ im ((fun i => if i = d + 1 then c else pt i) i) = -1 := by
          intro i hi
          by_cases ci : i = d + 1
          · simp only [ci, if_true, up_s]
            exact ⟨trivial, by omega, by omega, g3⟩
          · simp only [ci, if_false, up_n ci]
            exact hst i (by omega)
        have hdec' : ∀ i, i + 1 < d + 2 → (fun i => if i = d + 1 then c else pt i) (i + 1) < (fun i => if i = d + 1 then c else pt i) i := by
          intro i hi
          by_cases ci : i = d
          · simp only [ci, if_true, show ¬ d = d + 1 by omega, if_false]
            rw [← hud]; exact hcu
          · simp only [show ¬ i + 1 = d + 1 by omega, show ¬ i = d + 1 by omega, if_false]
            exact hdec i (by omega)
        have hdc2 : d + 2 ≤ cn im := cn_stack (fun i hi => ⟨(hst' i hi).2.2.1, (hst' i hi).2.2.2⟩) hdec'
        rw [if_neg (show ¬ (100 : Int32) ≤ nI (d + 1) from (nI_ge (by omega) (by omega) : ¬ nI 100 ≤ nI (d + 1))), gd_t (ixb_t (by omega) (by omega)), nmE, nmE, nmE, nI_clamp (by omega), nI_1, nI_1]
        refine ih f (by omega) (d + 2) (mv + 1) s _ _ _ _ _ _ _ im _ (fun i => if i = d + 1 then c else pt i) hok w' ct hk hroom hi hleaf hst' hdec' (fun h => by omega) (fun _ => ?_) hb ?_ (by omega) (by omega)
        · simp only [show ¬ 0 = d + 1 by omega, if_false]
          exact hd1 (by omega)
        · show runT most σ tt (fun i => if i = d + 1 then c else pt i) (d + 1) (insT most σ ((fun i => if i = d + 1 then c else pt i) (d + 1) + 1) (tt ((fun i => if i = d + 1 then c else pt i) (d + 1))) s) = F
          simp only [if_true]
          rw [run_congr (pt' := pt) (d + 1) (fun i hi => by simp only [show ¬ i = d + 1 by omega, if_false])]
          show runT most σ tt pt d (insT most σ (pt d + 1) (tt (pt d)) (insT most σ (c + 1) (tt c) s)) = F
          rw [← hud, ins_push w hs hne hun hcu g2 hnl hcl hb (fun j hj => kid_in hi hu100 (g4' j hj))]
          rw [hud]
          exact hrun
end
section
variable {tt : Nat → Tm} {n N : Nat} {ar : Nat → Int32} {sz : Nat → Nat} {σ : Nat → Option Tm} {T_count : Int32} {T_heads T_places T_olders T_sizes : Nat → Int32} {T_withins : Nat → Int64} {T_newest : Nat → Int32}
theorem cinst (w : WF tt n ar) (ct : CT tt n N sz T_count T_heads T_places T_olders T_sizes T_withins T_newest) (hs : ∀ h, h < 30 → σ h = none) (hσt : ∀ h U, σ h = some U → ∃ u, u < n ∧ tt u = U) {p0 : Nat} (hp : p0 < n) (hp1 : p0 < 100) {most : Nat} (hmm : most < 2 ^ 31) (hroom : most ≤ N ∨ n + 100 ≤ N) {im : Nat → Int32}
    (hi : imS tt n σ (tt, n, sz, true) im) (hleaf : ∀ x h, x < 100 → x < n → tt x [] = h + 1 → 30 ≤ h → im x = -1 → σ h = none) (path : Nat → Int32) {F : TS} (hF : insT most σ (p0 + 1) (tt p0) (tt, n, sz, true) = F) :
    ∃ (r : Int32) (T_count' : Int32) (T_heads' T_places' T_olders' T_sizes' : Nat → Int32) (T_withins' : Nat → Int64) (T_newest' im' path' : Nat → Int32),
      f_M_instance T_count N T_heads (3*N) T_places N T_olders N T_sizes N T_withins T_newest im path (nI p0) (nI most) = some (r, T_count', T_heads', T_places', T_olders', T_sizes', T_withins', T_newest', im', path') ∧ WF F.1 F.2.1 ar ∧ CT F.1 F.2.1 N F.2.2.1 T_count' T_heads' T_places' T_olders' T_sizes' T_withins' T_newest' ∧ kpT (tt, n, sz, true) F ∧ F.2.1 ≤ n + cn im ∧
      ((r = -1 ∧ F.2.2.2 = false) ∨ (F.2.2.2 = true ∧ ∃ u, u < F.2.1 ∧ r = nI u ∧ F.1 u = sub σ (tt p0))) := by
  have hne : ∀ h U, σ h = some U → U ≠ nilT := fun h U e => by
    obtain ⟨u, hu, eu⟩ := hσt h U e
    rw [← eu]; exact w.ne hu
  have hN := ct.2.2.2.1
  have hnN := ct.2.1
  have hcn := cn_le im
  unfold f_M_instance
  rw [if_neg (nI_pos (by omega)), if_neg (show ¬ (100 : Int32) ≤ nI p0 from (nI_ge hp1 (by omega) : ¬ nI 100 ≤ nI p0)), gd_t (ixb_t hp1 (by omega)), nI_clamp (by omega)]
  by_cases c : im p0 = -1
  · rw [if_pos c, gd_t (show ixb (0 : Int32) 100 = true by decide), nmE, clamp0]
    have hst : ∀ i, i < 1 → (upd path 0 (nI p0)) i = nI ((fun _ => p0) i) ∧ (fun _ => p0) i < n ∧ (fun _ => p0) i < 100 ∧ im ((fun _ => p0) i) = -1 := by
      intro i hi
      rw [show i = 0 by omega, up_s]
      exact ⟨rfl, hp, hp1, c⟩
    have h1 : 1 ≤ cn im := cn_stack (pt := fun _ => p0) (fun i hi => ⟨hp1, c⟩) (fun i hi => by omega)
    obtain ⟨r, b1, b2, b3, b4, b5, b6, b7, im2, path2, n1, n2, n3, n4, n5, n6⟩ := cinst_loop (N := N) w hs hσt hp hp1 hmm F (2 * cn im - 1) FU (by unfold FU; omega) 1 0 (tt, n, sz, true) T_count T_heads T_places T_olders T_sizes T_withins T_newest im (upd path 0 (nI p0)) (fun _ => p0) rfl w ct ⟨Nat.le_refl _, fun _ _ => rfl, fun h => h⟩ (hroom.imp id (fun h => Nat.le_trans (Nat.add_le_add_left hcn n) h)) hi hleaf hst (fun i hi => by omega) (fun h => by omega) (fun _ => rfl) (bs_of w hσt sz true) hF (by omega) (by omega)
    have n5' : F.2.1 ≤ n + cn im := n5
    exact ⟨r, b1, b2, b3, b4, b5, b6, b7, im2, path2, n1, n2, n3, n4, n5', n6⟩
  · rw [if_neg c, image_eq hp1, bd_s]
    rcases hi p0 hp1 with h | ⟨-, u, h1, h2, h3⟩
    · exact absurd h c
    · have hF' : F = (tt, n, sz, true) := by
        rw [← hF]
        exact ins_idem w hs hne p0 hp (p0 + 1) _ (w.cl sz true) ⟨u, h1, h3⟩
      subst hF'
      exact ⟨im p0, _, _, _, _, _, _, _, im, path, rfl, w, ct, kpT.refl _, Nat.le_add_right _ _, Or.inr ⟨rfl, u, h1, h2, h3⟩⟩
theorem img_imS {im : Nat → Int32} {p g : Nat} (hm : Mt false σ (tt p) (tt g)) (hi : IMG tt n false σ im) : imS tt n σ (tt, n, sz, true) im ∧ (∀ x h, x < 100 → x < n → tt x [] = h + 1 → 30 ≤ h → im x = -1 → σ h = none) := by
  obtain ⟨h1, h2, h3⟩ := hi
  refine ⟨fun x hx => ?_, fun x h hx hxn e h30 e2 => ?_⟩
  · rcases h1 x hx with e | ⟨a, u, b, c⟩
    · exact Or.inl e
    · exact Or.inr ⟨a, u, b, c, h2 x hx u b c⟩
  · cases hσ : σ h with
    | none => rfl
    | some U =>
      have hf := ((hm.2 h).mp (by rw [hσ]; exact fun e => by cases e)).1
      have := (h3 x h hx hxn e hf).mp e2
      rw [hσ] at this
      exact this
theorem mt_in (w : WF tt n ar) {im : Nat → Int32} {p g : Nat} (hp : p < n) (h100 : p < 100) (hm : Mt false σ (tt p) (tt g)) (hi : IMG tt n false σ im) : (∀ h, h < 30 → σ h = none) ∧ ∀ h U, σ h = some U → ∃ u, u < n ∧ tt u = U := by
  refine ⟨fun h hh => ?_, fun h U e => ?_⟩
  · cases hσ : σ h with
    | none => rfl
    | some U =>
      have hf := ((hm.2 h).mp (by rw [hσ]; exact fun e => by cases e)).1
      unfold fre at hf
      rw [if_neg (by decide)] at hf
      omega
  · obtain ⟨hf, hst⟩ := (hm.2 h).mp (by rw [e]; exact fun e => by cases e)
    obtain ⟨x, hx, ex⟩ := std_at w p hp hst
    obtain ⟨h1, h2, h3⟩ := hi
    have hne : im x ≠ -1 := fun e2 => by
      have := (h3 x h (by omega) (by omega) ex hf).mp e2
      rw [e] at this
      cases this
    rcases h1 x (by omega) with e3 | ⟨a, u, b, c⟩
    · exact absurd e3 hne
    · refine ⟨u, b, ?_⟩
      rw [h2 x (by omega) u b c]
      exact sub_some (by rw [ex]; exact e)
end
