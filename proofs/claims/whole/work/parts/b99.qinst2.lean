section
variable {tt : Nat → Tm} {n : Nat} {ar : Nat → Int32} {sz : Nat → Nat} {σ : Nat → Option Tm} {kn kv kh ks : Nat → Int32} {Q_all : Int32} {Q_kinds Q_which Q_firsts Q_seconds Q_thirds Q_nexts Q_heads Q_names Q_variables Q_holes Q_sizes Q_bound : Nat → Int32}
theorem qinst_loop {md : Bool} (w : WF tt n ar) (hs : ∀ h, σ h ≠ none → 30 ≤ h ∧ h < 38) (hσt : ∀ h U, σ h = some U → ∃ u, u < n ∧ tt u = U) (hbd : ∀ v, v < 8 → rf tt n (Q_bound v) (oT (σ (30 + v)))) {p0 : Nat} (hp : p0 < n) (hp1 : p0 < 100) (F : TS) :
    ∀ e fuel, e < fuel → ∀ (d : Nat) (s : TS) (Q_all : Int32) (Q_kinds Q_which Q_firsts Q_seconds Q_thirds Q_nexts Q_heads Q_names Q_variables Q_holes Q_sizes im ws : Nat → Int32) (pt : Nat → Nat),
    s.2.2.2 = true → WF s.1 s.2.1 ar → QR md s.1 s.2.1 s.2.2.1 kn kv kh ks Q_all Q_kinds Q_which Q_firsts Q_seconds Q_thirds Q_nexts Q_heads Q_names Q_variables Q_holes Q_sizes → kpT (tt, n, fun _ => 0, true) s → imS tt n σ s im →
    (∀ i, i < d → ws i = nI (pt i) ∧ pt i < n ∧ pt i < 100 ∧ im (pt i) = -1) → (∀ i, i + 1 < d → pt (i + 1) < pt i) → (d = 0 → im p0 ≠ -1) → (0 < d → pt 0 = p0) → bsT tt n σ s →
    runT (mdn md) σ tt pt d s = F → 2 * cn im = e + d →
    ∃ (r : Int32) (Q_all' : Int32) (Q_kinds' Q_which' Q_firsts' Q_seconds' Q_thirds' Q_nexts' Q_heads' Q_names' Q_variables' Q_holes' Q_sizes' im' ws' : Nat → Int32),
      f_Q_put_L30 Q_bound fuel Q_all Q_kinds Q_which Q_firsts Q_seconds Q_thirds Q_nexts Q_heads Q_names Q_variables Q_holes Q_sizes im ws (nI p0) (nI (mdn md)) (nI d) = some (r, Q_all', Q_kinds', Q_which', Q_firsts', Q_seconds', Q_thirds', Q_nexts', Q_heads', Q_names', Q_variables', Q_holes', Q_sizes', im', ws') ∧ WF F.1 F.2.1 ar ∧ QR md F.1 F.2.1 F.2.2.1 kn kv kh ks Q_all' Q_kinds' Q_which' Q_firsts' Q_seconds' Q_thirds' Q_nexts' Q_heads' Q_names' Q_variables' Q_holes' Q_sizes' ∧ kpT s F ∧ F.2.1 ≤ s.2.1 + cn im ∧
      ((r = -1 ∧ F.2.2.2 = false) ∨ (F.2.2.2 = true ∧ ∃ u, u < F.2.1 ∧ r = nI u ∧ F.1 u = sub σ (tt p0))) := by
  have hne : ∀ h U, σ h = some U → U ≠ nilT := fun h U e => by
    obtain ⟨u, hu, eu⟩ := hσt h U e
    rw [← eu]; exact w.ne hu
  have hs30 : ∀ h, h < 30 → σ h = none := by
    intro g hg
    cases hσ : σ g with
    | none => rfl
    | some U => have := hs g (by rw [hσ]; exact fun e => by cases e); omega
  have hend : ∀ (fuel : Nat) (s : TS) (Q_all : Int32) (Q_kinds Q_which Q_firsts Q_seconds Q_thirds Q_nexts Q_heads Q_names Q_variables Q_holes Q_sizes im ws : Nat → Int32), f_Q_put_L30 Q_bound (fuel + 1) Q_all Q_kinds Q_which Q_firsts Q_seconds Q_thirds Q_nexts Q_heads Q_names Q_variables Q_holes Q_sizes im ws (nI p0) (nI (mdn md)) (nI 0) = some (im p0, Q_all, Q_kinds, Q_which, Q_firsts, Q_seconds, Q_thirds, Q_nexts, Q_heads, Q_names, Q_variables, Q_holes, Q_sizes, im, ws) := by
    intro fuel s Q_all Q_kinds Q_which Q_firsts Q_seconds Q_thirds Q_nexts Q_heads Q_names Q_variables Q_holes Q_sizes im ws
    rw [f_Q_put_L30, if_pos (show nI 0 ≤ (0 : Int32) by decide), gd_t (ixb_t hp1 (by omega)), nI_clamp (by omega)]
  intro e
  induction e with
  | zero =>
    intro fuel hf d s Q_all Q_kinds Q_which Q_firsts Q_seconds Q_thirds Q_nexts Q_heads Q_names Q_variables Q_holes Q_sizes im ws pt hok w' qr hk hi hst hdec hd0 hd1 hb hrun hms
    have hd : d ≤ cn im := cn_stack (fun i hi => ⟨(hst i hi).2.2.1, (hst i hi).2.2.2⟩) hdec
    have hd' : d = 0 := by omega
    subst hd'
    obtain ⟨f, rfl⟩ : ∃ f, fuel = f + 1 := ⟨fuel - 1, by omega⟩
    have hF : s = F := hrun
    subst hF
    refine ⟨im p0, _, _, _, _, _, _, _, _, _, _, _, _, im, ws, hend f s _ _ _ _ _ _ _ _ _ _ _ _ _ _, w', qr, kpT.refl _, by omega, ?_⟩
    rcases hi p0 hp1 with h | ⟨-, u, h1, h2, h3⟩
    · exact absurd h (hd0 rfl)
    · exact Or.inr ⟨hok, u, h1, h2, h3⟩
  | succ e ih =>
    intro fuel hf d s Q_all Q_kinds Q_which Q_firsts Q_seconds Q_thirds Q_nexts Q_heads Q_names Q_variables Q_holes Q_sizes im ws pt hok w' qr hk hi hst hdec hd0 hd1 hb hrun hms
    obtain ⟨f, rfl⟩ : ∃ f, fuel = f + 1 := ⟨fuel - 1, by omega⟩
    have qt := qr.1
    have hn := qt.2.1
    cases d with
    | zero =>
      have hF : s = F := hrun
      subst hF
      refine ⟨im p0, _, _, _, _, _, _, _, _, _, _, _, _, im, ws, hend f s _ _ _ _ _ _ _ _ _ _ _ _ _ _, w', qr, kpT.refl _, by omega, ?_⟩
      rcases hi p0 hp1 with h | ⟨-, u, h1, h2, h3⟩
      · exact absurd h (hd0 rfl)
      · exact Or.inr ⟨hok, u, h1, h2, h3⟩
    | succ d =>
      obtain ⟨hpu, hun, hu100, huim⟩ := hst d (Nat.lt_succ_self d)
      obtain ⟨u, hud⟩ : ∃ u, u = pt d := ⟨_, rfl⟩
      rw [← hud] at hpu hun hu100 huim
      have hus : u < s.2.1 := Nat.lt_of_lt_of_le hun hk.1
      have heq : ∀ x, x < n → s.1 x = tt x := fun x hx => hk.2.1 x hx
      have hdc : d + 1 ≤ cn im := cn_stack (fun i hi => ⟨(hst i hi).2.2.1, (hst i hi).2.2.2⟩) hdec
      have hcn := cn_le im
      have hcl : clT s := by
        obtain ⟨a, b, c, d⟩ := s
        exact w'.cl c d
      have hkd : ∀ k, kidI s.1 im u k → kidI tt im u k := by
        intro k h
        rcases h with h | ⟨c, h1, h2, h3⟩
        · rw [heq u hun] at h; exact Or.inl h
        · rw [heq u hun, heq c (by omega)] at h2; exact Or.inr ⟨c, h1, h2, h3⟩
      obtain ⟨f2, x', g1, g2⟩ := due_loop (Q_bound := Q_bound) (Q_names := Q_names) (Q_variables := Q_variables) (Q_holes := Q_holes) (Q_sizes := Q_sizes) qt (im := im) hus hu100 (f_Q_put_L30 Q_bound f) ws (nI p0) (nI (mdn md)) (nI (d + 1)) 3 (Nat.le_refl _) FU (by unfold FU; omega) (-1) (Or.inl ⟨rfl, fun j hj => by omega⟩)
      rw [show (nI 3 - 1 : Int32) = 2 by decide] at g1
      have hL : f_Q_put_L30 Q_bound (f + 1) Q_all Q_kinds Q_which Q_firsts Q_seconds Q_thirds Q_nexts Q_heads Q_names Q_variables Q_holes Q_sizes im ws (nI p0) (nI (mdn md)) (nI (d + 1)) = f_Q_put_L50 Q_bound (f_Q_put_L30 Q_bound f) (f2 + 1) Q_all Q_kinds Q_which Q_firsts Q_seconds Q_thirds Q_nexts Q_heads Q_names Q_variables Q_holes Q_sizes im ws (nI p0) (nI (mdn md)) (nI (d + 1)) (nI u) x' (-1) := by
        rw [f_Q_put_L30, if_neg (show ¬ nI (d + 1) ≤ (0 : Int32) from (nI_ge (by omega) (by omega) : ¬ nI (d + 1) ≤ nI 0)), nI_pred, gd_t (ixb_t (by omega) (by omega)), nmE, nI_clamp (by omega), hpu]
        exact g1
      rw [hL, f_Q_put_L50, if_pos m1_lt]
      rcases g2 with ⟨a1, a2⟩ | ⟨c, k, hcu, a1, a2, a3, -, a4⟩
      · rw [if_pos a1]
        obtain ⟨r, b1, b2, b3, b4, b5, b6, b7, b8, b9, b10, b11, b12, m1, m2, m3, m4, m5⟩ := qpop w hs hne hok w' qr hk hi hbd hun hu100 (fun k => hkd k (a2 k (Nat.zero_le _)))
        have hkp := kp_ins (mdn md) σ (u + 1) (tt u) s
        have hrun' : runT (mdn md) σ tt pt d (insT (mdn md) σ (u + 1) (tt u) s) = F := by rw [hud]; exact hrun
        generalize insT (mdn md) σ (u + 1) (tt u) s = s1 at *
        rw [m1, bd_s, gd_t (ixb_t hu100 (by omega)), nmE, gd_t (ixb_t hu100 (by omega)), nI_clamp (by omega), up_s]
        rcases m5 with ⟨e1, e2⟩ | ⟨e2, v, hv, e3, e4⟩
        · rw [if_pos e1]
          rw [run_false d s1 e2] at hrun'
          subst hrun'
          exact ⟨-1, b1, b2, b3, b4, b5, b6, b7, b8, b9, b10, b11, b12, _, ws, rfl, m2, m3, hkp, by omega, Or.inl ⟨rfl, e2⟩⟩
        · have hv31 : v < 2 ^ 31 := by
            have h1 := m3.1.2.1
            omega
          rw [if_neg (by rw [e3]; exact nI_nm1 hv31), nmE, nI_m1]
          have hcn' : cn (upd im u r) + 1 = cn im := by rw [e3]; exact cn_upd hu100 huim (nI_nm1 hv31)
          have hi' : imS tt n σ s1 (upd im u r) := by rw [e3]; exact (hi.kp hkp).up hun hv e4
          have hne' : ∀ i, i < d → pt i ≠ u := by
            intro i hi
            have key : ∀ j, i + j + 1 ≤ d → pt (i + j + 1) < pt i := by
              intro j
              induction j with
              | zero => intro h; exact hdec i (by omega)
              | succ j ih2 => intro h; have := ih2 (by omega); have h3 := hdec (i + j + 1) (by omega); rw [show i + (j + 1) + 1 = i + j + 1 + 1 by omega]; omega
            have := key (d - i - 1) (by omega)
            rw [show i + (d - i - 1) + 1 = d by omega, ← hud] at this
            omega
          obtain ⟨r', c1, c2, c3, c4, c5, c6, c7, c8, c9, c10, c11, c12, im2, ws2, n1, n2, n3, n4, n5, n6⟩ := ih f (by omega) d s1 b1 b2 b3 b4 b5 b6 b7 b8 b9 b10 b11 b12 (upd im u r) ws pt e2 m2 m3 (hk.trans hkp) hi' (fun i hi => by
                obtain ⟨q1, q2, q3, q4⟩ := hst i (by omega)
                exact ⟨q1, q2, q3, by rw [up_n (hne' i hi)]; exact q4⟩) (fun i hi => hdec i (by omega)) (fun h => by
                have : pt 0 = p0 := hd1 (by omega)
                have hup : u = p0 := by rw [hud, h]; exact this
                rw [← hup, up_s, e3]; exact nI_nm1 hv31) (fun h => hd1 (by omega)) (hb.kp hkp) hrun' (by omega)
          exact ⟨r', c1, c2, c3, c4, c5, c6, c7, c8, c9, c10, c11, c12, im2, ws2, n1, n2, n3, hkp.trans n4, by omega, n6⟩
      · rw [if_neg (by rw [a1]; exact nI_nm1 (by omega)), a1]
        rw [heq c (by omega), heq u hun] at a2
        have a4' : ∀ j : Fin 3, j.val < k.val → kidI tt im u j := fun j hj => hkd j (a4 j (Nat.zero_le _) hj)
        have hnl : ¬ (tt u [] = 0 ∨ 31 ≤ tt u []) := by
          obtain ⟨h, -, e5, e6, -⟩ := w.2.1 u hun
          rintro (h1 | h1)
          · omega
          · have := e6 (by omega) k
            rw [← a2] at this
            exact w.ne (by omega) this
        have hst' : ∀ i, i < d + 2 → (upd ws (d + 1) (nI c)) i = nI ((fun i => if i = d + 1 then c else pt i) i) ∧ (fun i => if i = d + 1 then c else pt i) i < n ∧ (fun i => if i = d + 1 then c else pt i) i < 100 ∧ im ((fun i => if i = d + 1 then c else pt i) i) = -1 := by
          intro i hi
          by_cases ci : i = d + 1
          · simp only [ci, if_true, up_s]
            exact ⟨trivial, by omega, by omega, a3⟩
          · simp only [ci, if_false, up_n ci]
            exact hst i (by omega)
        have hdec' : ∀ i, i + 1 < d + 2 → (fun i => if i = d + 1 then c else pt i) (i + 1) < (fun i => if i = d + 1 then c else pt i) i := by
          intro i hi
          by_cases ci : i = d
          · simp only [ci, if_true, show ¬ d = d + 1 by omega, if_false]
            rw [← hud]; exact hcu
          · simp only [show ¬ i + 1 = d + 1 by omega, show ¬ i = d + 1 by omega, if_false]
            exact hdec i (by omega)
        have hdc2 : d + 2 ≤ cn im := cn_stack (fun i hi => ⟨(hst' i hi).2.2.1, (hst' i hi).2.2.2⟩) hdec'
        rw [gd_t (ixb_t (by omega) (by omega)), nmE, nmE, nI_clamp (by omega), nI_1]
        refine ih f (by omega) (d + 2) s _ _ _ _ _ _ _ _ _ _ _ _ im _ (fun i => if i = d + 1 then c else pt i) hok w' qr hk hi hst' hdec' (fun h => by omega) (fun _ => ?_) hb ?_ (by omega)
        · simp only [show ¬ 0 = d + 1 by omega, if_false]
          exact hd1 (by omega)
        · show runT (mdn md) σ tt (fun i => if i = d + 1 then c else pt i) (d + 1) (insT (mdn md) σ ((fun i => if i = d + 1 then c else pt i) (d + 1) + 1) (tt ((fun i => if i = d + 1 then c else pt i) (d + 1))) s) = F
          simp only [if_true]
          rw [run_congr (pt' := pt) (d + 1) (fun i hi => by simp only [show ¬ i = d + 1 by omega, if_false])]
          show runT (mdn md) σ tt pt d (insT (mdn md) σ (pt d + 1) (tt (pt d)) (insT (mdn md) σ (c + 1) (tt c) s)) = F
          rw [← hud, ins_push w hs30 hne hun hcu a2 hnl hcl hb (fun j hj => kid_in hi hu100 (a4' j hj))]
          rw [hud]
          exact hrun
theorem put_fill (x1 x2 : Int32) : ∀ d, d ≤ 100 → ∀ fuel, d < fuel → ∀ im ws : Nat → Int32, ∃ im', f_Q_put_L2 Q_bound fuel Q_all Q_kinds Q_which Q_firsts Q_seconds Q_thirds Q_nexts Q_heads Q_names Q_variables Q_holes Q_sizes im ws x1 x2 (nI (100 - d)) = f_Q_put_L30 Q_bound FU Q_all Q_kinds Q_which Q_firsts Q_seconds Q_thirds Q_nexts Q_heads Q_names Q_variables Q_holes Q_sizes im' (upd ws 0 x1) x1 x2 1 ∧ (∀ x, x < 100 → 100 - d ≤ x → im' x = -1) ∧ (∀ x, x < 100 - d → im' x = im x) := by
  generalize hFU : FU = G
  intro d
  induction d with
  | zero =>
    intro _ fuel hf im ws
    obtain ⟨f, rfl⟩ : ∃ f, fuel = f + 1 := ⟨fuel - 1, by omega⟩
    refine ⟨im, ?_, fun x h1 h2 => by omega, fun x _ => rfl⟩
    rw [f_Q_put_L2, if_pos (show (100 : Int32) ≤ nI (100 - 0) by decide), gd_t (show ixb (0 : Int32) 400 = true by decide), nmE, clamp0, hFU]
  | succ d ih =>
    intro hd fuel hf im ws
    obtain ⟨f, rfl⟩ : ∃ f, fuel = f + 1 := ⟨fuel - 1, by omega⟩
    obtain ⟨im', h1, h2, h3⟩ := ih (by omega) f (by omega) (upd im (100 - (d + 1)) (-1)) ws
    refine ⟨im', ?_, fun x h4 h5 => ?_, fun x h4 => ?_⟩
    · rw [f_Q_put_L2, if_neg (show ¬ (100 : Int32) ≤ nI (100 - (d + 1)) from (nI_ge (by omega) (by omega) : ¬ nI 100 ≤ _)), gd_t (ixb_t (by omega) (by omega)), nmE, nmE, nI_clamp (by omega), nI_1, show 100 - (d + 1) + 1 = 100 - d by omega]
      exact h1
    · by_cases e : x = 100 - (d + 1)
      · rw [h3 x (by omega), e, up_s]
      · exact h2 x h4 (by omega)
    · rw [h3 x (by omega), up_n (by omega)]
theorem qinst {md : Bool} (w : WF tt n ar) (qr : QR md tt n sz kn kv kh ks Q_all Q_kinds Q_which Q_firsts Q_seconds Q_thirds Q_nexts Q_heads Q_names Q_variables Q_holes Q_sizes) (hs : ∀ h, σ h ≠ none → 30 ≤ h ∧ h < 38) (hσt : ∀ h U, σ h = some U → ∃ u, u < n ∧ tt u = U) (hbd : ∀ v, v < 8 → rf tt n (Q_bound v) (oT (σ (30 + v)))) {p0 : Nat} (hp : p0 < n) (hp1 : p0 < 100) (im ws : Nat → Int32) {F : TS} (hF : insT (mdn md) σ (p0 + 1) (tt p0) (tt, n, sz, true) = F) :
    ∃ (r : Int32) (Q_all' : Int32) (Q_kinds' Q_which' Q_firsts' Q_seconds' Q_thirds' Q_nexts' Q_heads' Q_names' Q_variables' Q_holes' Q_sizes' im' ws' : Nat → Int32),
      f_Q_put Q_all Q_kinds Q_which Q_firsts Q_seconds Q_thirds Q_nexts Q_heads Q_names Q_variables Q_holes Q_sizes im Q_bound ws (nI p0) (nI (mdn md)) = some (r, Q_all', Q_kinds', Q_which', Q_firsts', Q_seconds', Q_thirds', Q_nexts', Q_heads', Q_names', Q_variables', Q_holes', Q_sizes', im', ws') ∧ WF F.1 F.2.1 ar ∧ QR md F.1 F.2.1 F.2.2.1 kn kv kh ks Q_all' Q_kinds' Q_which' Q_firsts' Q_seconds' Q_thirds' Q_nexts' Q_heads' Q_names' Q_variables' Q_holes' Q_sizes' ∧ kpT (tt, n, sz, true) F ∧ F.2.1 ≤ n + 100 ∧
      ((r = -1 ∧ F.2.2.2 = false) ∨ (F.2.2.2 = true ∧ ∃ u, u < F.2.1 ∧ r = nI u ∧ F.1 u = sub σ (tt p0))) := by
  obtain ⟨im1, l1, l2, -⟩ := put_fill (Q_bound := Q_bound) (Q_all := Q_all) (Q_kinds := Q_kinds) (Q_which := Q_which) (Q_firsts := Q_firsts) (Q_seconds := Q_seconds) (Q_thirds := Q_thirds) (Q_nexts := Q_nexts) (Q_heads := Q_heads) (Q_names := Q_names) (Q_variables := Q_variables) (Q_holes := Q_holes) (Q_sizes := Q_sizes) (nI p0) (nI (mdn md)) 100 (Nat.le_refl _) FU (by unfold FU; omega) im ws
  rw [Nat.sub_self, nI_0] at l1
  unfold f_Q_put
  rw [l1]
  have c : im1 p0 = -1 := l2 p0 hp1 (by omega)
  have hcn := cn_le im1
  have h1 : 1 ≤ cn im1 := cn_stack (pt := fun _ => p0) (fun i hi => ⟨hp1, c⟩) (fun i hi => by omega)
  obtain ⟨r, c1, c2, c3, c4, c5, c6, c7, c8, c9, c10, c11, c12, im2, ws2, n1, n2, n3, n4, n5, n6⟩ := qinst_loop w hs hσt hbd hp hp1 F (2 * cn im1 - 1) FU (by unfold FU; omega) 1 (tt, n, sz, true) Q_all Q_kinds Q_which Q_firsts Q_seconds Q_thirds Q_nexts Q_heads Q_names Q_variables Q_holes Q_sizes im1 (upd ws 0 (nI p0)) (fun _ => p0) rfl w qr ⟨Nat.le_refl _, fun _ _ => rfl, fun h => h⟩ (fun x hx => Or.inl (l2 x hx (by omega))) (fun i hi => by
      rw [show i = 0 by omega, up_s]
      exact ⟨rfl, hp, hp1, c⟩) (fun i hi => by omega) (fun h => by omega) (fun _ => rfl) (bs_of w hσt sz true) hF (by omega)
  have n5' : F.2.1 ≤ n + cn im1 := n5
  exact ⟨r, c1, c2, c3, c4, c5, c6, c7, c8, c9, c10, c11, c12, im2, ws2, n1, n2, n3, n4, by omega, n6⟩
end
