section
variable {tt : Nat → Tm} {n : Nat} {ar : Nat → Int32} {sz : Nat → Nat} {Q_all : Int32} {Q_kinds Q_which Q_firsts Q_seconds Q_thirds Q_nexts Q_heads Q_names Q_variables Q_holes Q_sizes : Nat → Int32}
theorem sub_lf {σ : Nat → Option Tm} {g : Nat} {U : Tm} (h : σ g = some U) : sub σ (lfT g) = U := sub_some h
theorem sub_lf0 {σ : Nat → Option Tm} {g : Nat} (h : σ g = none) : sub σ (lfT g) = lfT g := by
  unfold lfT
  rw [sub_mk h]
  exact congrArg (mkT g) (funext fun _ => sub_nil σ)
/-- a variable and what it becomes, both ways: a variable -/
theorem var_var (w : WF tt n ar) {τ : Nat → Option Tm} (hτ : supT τ) {t g g' : Nat} (ht : t < n) (hg : 30 ≤ g) (hg2 : g < 38) (e : tt t [] = g' + 1) (h : lfT g = sub τ (tt t)) : 30 ≤ g' ∧ g' < 38 := by
  apply Classical.byContradiction
  intro hc
  have h1 : sub τ (tt t) [] = tt t [] := sub_root (by rw [e]; exact hτ.lo hc)
  rw [← h, e] at h1
  have h2 : g + 1 = g' + 1 := h1
  omega
theorem al_loop (w : WF tt n ar) (hn : n ≤ 100) (qt : QTb tt n Q_all Q_kinds Q_which Q_firsts Q_seconds Q_thirds Q_nexts Q_heads) {p0 t0 : Nat} (hp0 : p0 < n) (ht0 : t0 < n) (hnh : ∀ h, std (tt p0) h → h < 38) :
    ∀ M, ∀ fuel, M < fuel → ∀ im ws wf th bk k, AI tt n p0 t0 im ws wf th bk k → k + 4 * cn im ≤ M → k + 3 * cn im ≤ 301 →
    ∃ r im' ws' wf' th' bk', f_Q_areAlike_L37 Q_kinds Q_which Q_firsts Q_seconds Q_thirds fuel im ws wf th bk (nI k) = some (r, im', ws', wf', th', bk') ∧
      ((r = 1 ∧ AI tt n p0 t0 im' ws' wf' th' bk' 0 ∧ (∀ v, v < 8 → th v ≠ -1 → th' v = th v) ∧ (∀ v, v < 8 → bk v ≠ -1 → bk' v = bk v) ∧ ∀ σ τ, fulT σ → fulT τ → ivB tt n σ τ im ws wf th k → cpt th' σ τ) ∨
       (r = 0 ∧ ∀ σ τ, fulT σ → fulT τ → ¬ ivB tt n σ τ im ws wf th k)) := by
  intro M
  induction M with
  | zero =>
    intro fuel hf im ws wf th bk k hI hM h3
    obtain ⟨f, rfl⟩ : ∃ f, fuel = f + 1 := ⟨fuel - 1, by omega⟩
    have hk0 : k = 0 := by omega
    rw [hk0] at hI ⊢
    refine ⟨1, im, ws, wf, th, bk, ?_, Or.inl ⟨rfl, hI, fun _ _ _ => rfl, fun _ _ _ => rfl, fun σ τ _ _ h => h.1⟩⟩
    rw [f_Q_areAlike_L37, if_pos (show nI 0 ≤ 0 by decide)]
  | succ M ih =>
    intro fuel hf im ws wf th bk k hI hM h3
    obtain ⟨f, rfl⟩ : ∃ f, fuel = f + 1 := ⟨fuel - 1, by omega⟩
    cases k with
    | zero =>
      refine ⟨1, im, ws, wf, th, bk, ?_, Or.inl ⟨rfl, hI, fun _ _ _ => rfl, fun _ _ _ => rfl, fun σ τ _ _ h => h.1⟩⟩
      rw [f_Q_areAlike_L37, if_pos (show nI 0 ≤ 0 by decide)]
    | succ k =>
      obtain ⟨iA, iS, iC, iT, iR⟩ := hI
      obtain ⟨p, t, hp, ht, ep, et, hstd⟩ := iS k (by omega)
      obtain ⟨g, hg, eg, hleaf, hari⟩ := w.2.1 p hp
      obtain ⟨g', hg', eg', -, -⟩ := w.2.1 t ht
      obtain ⟨ek, ew⟩ := qt.2.2.2.1 p hp g eg
      obtain ⟨ek', ew'⟩ := qt.2.2.2.1 t ht g' eg'
      have hg38 : g < 38 := hnh g (hstd g ⟨[], eg⟩)
      have hpop : ∀ σ τ, ivB tt n σ τ im ws wf th (k + 1) → tt t = sub σ (tt p) ∧ tt p = sub τ (tt t) := fun σ τ h => h.2.2 k p t (by omega) hp ht ep et
      have hσpop : ∀ σ τ, ivB tt n σ τ im ws wf th (k + 1) → ivB tt n σ τ im ws wf th k := fun σ τ h => ⟨h.1, h.2.1, fun i p t hi => h.2.2 i p t (by omega)⟩
      have hL : f_Q_areAlike_L37 Q_kinds Q_which Q_firsts Q_seconds Q_thirds (f + 1) im ws wf th bk (nI (k + 1)) = if im p = -1 then
          (if nI (kd g) = nI (kd g') then (if nI (kd g) = 0 then (if nI (wh g) = nI (wh g') then f_Q_areAlike_B140 Q_kinds Q_which Q_firsts Q_seconds Q_thirds (f_Q_areAlike_L37 Q_kinds Q_which Q_firsts Q_seconds Q_thirds f) (upd im p (nI t)) ws wf th bk (nI k) (nI p) (nI t) else some (0, upd im p (nI t), ws, wf, th, bk))
            else f_Q_areAlike_B140 Q_kinds Q_which Q_firsts Q_seconds Q_thirds (f_Q_areAlike_L37 Q_kinds Q_which Q_firsts Q_seconds Q_thirds f) (upd im p (nI t)) ws wf th bk (nI k) (nI p) (nI t)) else some (0, upd im p (nI t), ws, wf, th, bk))
          else if im p = nI t then f_Q_areAlike_L37 Q_kinds Q_which Q_firsts Q_seconds Q_thirds f im ws wf th bk (nI k) else some (0, im, ws, wf, th, bk) := by
        rw [f_Q_areAlike_L37, if_neg (show ¬ nI (k + 1) ≤ (0 : Int32) from (nI_ge (by omega) (by omega) : ¬ nI (k + 1) ≤ nI 0)), nmE, nI_m1]
        simp (disch := omega) only [ixb_t, gd_tt]
        simp (disch := omega) only [nI_clamp, nmE]
        rw [ep, et]
        simp (disch := omega) only [ixb_t, gd_tt]
        simp (disch := omega) only [nI_clamp, nmE]
        rw [ek, ek', ew, ew']
      rw [hL]
      by_cases e : im p = -1
      case neg =>
        rw [if_neg e]
        rcases iA p (by omega) with e0 | ⟨-, -, u, hu, eu⟩
        · exact absurd e0 e
        by_cases eut : u = t
        · subst eut
          rw [if_pos eu]
          have hd : dnA im ws wf k p u := Or.inl eu
          have hI' : AI tt n p0 t0 im ws wf th bk k := by
            refine ⟨iA, fun i hi => iS i (by omega), fun x u2 h1 h2 h4 g2 h5 => ?_, iT, ?_⟩
            · obtain ⟨a1, a2⟩ := iC x u2 h1 h2 h4 g2 h5
              refine ⟨fun h6 => ?_, a2⟩
              obtain ⟨a3, a4⟩ := a1 h6
              refine ⟨a3, fun j hj => ?_⟩
              obtain ⟨c, d, b1, b2, b3, b4, b5⟩ := a4 j hj
              exact ⟨c, d, b1, b2, b3, b4, dnA_pop (by omega) (by omega) (by omega) (by omega) ep et (Nat.le_refl k) (ivX.refl im) (fun i _ => ⟨rfl, rfl⟩) hd b5⟩
            · exact dnA_pop (by omega) (by omega) (by omega) (by omega) ep et (Nat.le_refl k) (ivX.refl im) (fun i _ => ⟨rfl, rfl⟩) hd iR
          obtain ⟨r, im1, ws1, wf1, th1, bk1, h1, h2⟩ := ih f (by omega) im ws wf th bk k hI' (by omega) (by omega)
          refine ⟨r, im1, ws1, wf1, th1, bk1, h1, ?_⟩
          rcases h2 with ⟨a1, a2, a3, a3', a4⟩ | ⟨a1, a2⟩
          · exact Or.inl ⟨a1, a2, a3, a3', fun σ τ hσ hτ h => a4 σ τ hσ hτ (hσpop σ τ h)⟩
          · exact Or.inr ⟨a1, fun σ τ hσ hτ h => a2 σ τ hσ hτ (hσpop σ τ h)⟩
        · rw [eu, if_neg (fun e2 => eut (nI_inj (by omega) (by omega) e2))]
          refine ⟨0, im, ws, wf, th, bk, rfl, Or.inr ⟨rfl, fun σ τ hσ hτ h => ?_⟩⟩
          have h1 := (h.2.1 p u (by omega) hu eu).1
          exact eut (w.1 u hu t ht (h1.trans (hpop σ τ h).1.symm))
      rw [if_pos e]
      have hXp : ivX im (upd im p (nI t)) := by
        intro x hx
        exact up_n (fun e2 => hx (by rw [e2, e]))
      have iA' : ∀ x, x < 100 → upd im p (nI t) x = -1 ∨ (x < n ∧ (∀ h, std (tt x) h → std (tt p0) h) ∧ ∃ u, u < n ∧ upd im p (nI t) x = nI u) := by
        intro x hx
        by_cases e2 : x = p
        · rw [e2, up_s]; exact Or.inr ⟨hp, hstd, t, ht, rfl⟩
        · rw [up_n e2]; exact iA x hx
      have hcn := cn_upd (v := nI t) (by omega) e (nI_nm1 (show t < 2 ^ 31 by omega))
      have hivS : ∀ σ τ, ivB tt n σ τ im ws wf th (k + 1) → ∀ x u, x < 100 → u < n → upd im p (nI t) x = nI u → tt u = sub σ (tt x) ∧ tt x = sub τ (tt u) := by
        intro σ τ h x u hx hu e2
        by_cases e3 : x = p
        · rw [e3, up_s] at e2
          rw [e3, ← nI_inj (by omega) (by omega) e2]
          exact hpop σ τ h
        · rw [up_n e3] at e2
          exact h.2.1 x u hx hu e2
      by_cases c30 : g < 30
      · have kg : kd g = 0 := by unfold kd; rw [if_pos c30]
        have wg : wh g = g := by unfold wh; rw [if_pos c30]
        have hno : g' ≠ g → ∀ σ τ, fulT σ → fulT τ → ¬ ivB tt n σ τ im ws wf th (k + 1) := by
          intro hne σ τ hσ hτ h
          have h1 : sub σ (tt p) [] = tt p [] := sub_root (by rw [eg]; exact hσ.sup.lo (by omega))
          rw [← (hpop σ τ h).1, eg, eg'] at h1
          omega
        by_cases egg : g' = g
        · rw [egg, if_pos rfl, kg, if_pos nI_0, if_pos rfl]
          obtain ⟨m, hm3, hm, hmn⟩ := hari c30
          have hgt : tt t [] = g + 1 := by rw [eg', egg]
          obtain ⟨ws', wf', l1, l2, l3⟩ := apush w qt hp ht c30 hm3 eg hmn (f_Q_areAlike_L37 Q_kinds Q_which Q_firsts Q_seconds Q_thirds f) (upd im p (nI t)) th bk (k := k) (by omega) 3 (Nat.le_refl _) FU (by unfold FU; omega) ws wf
          rw [Nat.sub_self, show min 0 m = 0 by omega, Nat.add_zero, nI_0] at l1
          rw [Nat.sub_self, show min 0 m = 0 by omega, Nat.add_zero] at l2
          have hB : f_Q_areAlike_B140 Q_kinds Q_which Q_firsts Q_seconds Q_thirds (f_Q_areAlike_L37 Q_kinds Q_which Q_firsts Q_seconds Q_thirds f) (upd im p (nI t)) ws wf th bk (nI k) (nI p) (nI t) = f_Q_areAlike_L37 Q_kinds Q_which Q_firsts Q_seconds Q_thirds f (upd im p (nI t)) ws' wf' th bk (nI (k + m)) := by
            unfold f_Q_areAlike_B140
            rw [gd_t (ixb_t (by omega) (by omega)), nI_clamp (by omega), ek, kg, if_neg (by decide)]
            exact l1
          rw [hB]
          have hnew : ∀ j : Fin 3, chT j (tt p) ≠ nilT → ∃ c d, c < p ∧ d < t ∧ tt c = chT j (tt p) ∧ tt d = chT j (tt t) ∧ ws' (k + j.val) = nI c ∧ wf' (k + j.val) = nI d ∧ k + j.val < k + m := by
            intro j hj
            have hjm : j.val < m := Nat.lt_of_not_le (fun h => hj ((hmn j).mpr h))
            obtain ⟨r1, r2⟩ := l3 j (by omega) hjm
            rcases r1 with ⟨-, a⟩ | ⟨c, c1, c2, c3⟩
            · exact absurd a hj
            · rcases r2 with ⟨-, b⟩ | ⟨d, d1, d2, d3⟩
              · exact absurd ((arity_eq w hp ht eg hgt j).mpr b) hj
              · exact ⟨c, d, c1, d1, c3, d3, c2, d2, by omega⟩
          have hdp : dnA (upd im p (nI t)) ws' wf' (k + m) p t := Or.inl (up_s _ _ _)
          have hst : ∀ i, i < k → ws' i = ws i ∧ wf' i = wf i := fun i hi => l2 i hi
          have hI' : AI tt n p0 t0 (upd im p (nI t)) ws' wf' th bk (k + m) := by
            refine ⟨iA', fun i hi => ?_, fun x u hx hu h1 g2 h4 => ?_, iT, ?_⟩
            · by_cases hik : i < k
              · obtain ⟨a, b⟩ := hst i hik
                rw [a, b]
                exact iS i (by omega)
              · have hj3 : i - k < 3 := by omega
                have hne : chT ⟨i - k, hj3⟩ (tt p) ≠ nilT := fun e5 => by
                  have e6 : m ≤ i - k := (hmn ⟨i - k, hj3⟩).mp e5
                  omega
                obtain ⟨c, d, c1, d1, c2, d2, c3, d3, -⟩ := hnew ⟨i - k, hj3⟩ hne
                have e7 : k + (⟨i - k, hj3⟩ : Fin 3).val = i := by show k + (i - k) = i; omega
                rw [e7] at c3 d3
                exact ⟨c, d, by omega, by omega, c3, d3, fun h hh => hstd h (by rw [c2] at hh; exact std_ch hh)⟩
            · by_cases e2 : x = p
              · rw [e2, up_s] at h1
                have e3 : t = u := nI_inj (by omega) (by omega) h1
                rw [e2, eg] at h4
                rw [e2, ← e3]
                have e5 : g = g2 := by omega
                subst e5
                refine ⟨fun _ => ⟨hgt, fun j hj => ?_⟩, fun h => by omega⟩
                obtain ⟨c, d, c1, d1, c2, d2, c3, d3, c4⟩ := hnew j hj
                exact ⟨c, d, c1, by omega, c2, d2, Or.inr ⟨k + j.val, c4, c3, d3⟩⟩
              · rw [up_n e2] at h1
                obtain ⟨a1, a2⟩ := iC x u hx hu h1 g2 h4
                refine ⟨fun h6 => ?_, a2⟩
                obtain ⟨a3, a4⟩ := a1 h6
                refine ⟨a3, fun j hj => ?_⟩
                obtain ⟨c, d, b1, b2, b3, b4, b5⟩ := a4 j hj
                exact ⟨c, d, b1, b2, b3, b4, dnA_pop (by omega) (by omega) (by omega) (by omega) ep et (by omega) hXp hst hdp b5⟩
            · exact dnA_pop (by omega) (by omega) (by omega) (by omega) ep et (by omega) hXp hst hdp iR
          have hiv : ∀ σ τ, fulT σ → fulT τ → ivB tt n σ τ im ws wf th (k + 1) → ivB tt n σ τ (upd im p (nI t)) ws' wf' th (k + m) := by
            intro σ τ hσ hτ h
            refine ⟨h.1, hivS σ τ h, fun i p' t' h4 h5 h6 h7 h8 => ?_⟩
            by_cases hik : i < k
            · obtain ⟨a, b⟩ := hst i hik
              rw [a] at h7
              rw [b] at h8
              exact h.2.2 i p' t' (by omega) h5 h6 h7 h8
            · have hj3 : i - k < 3 := by omega
              have hne : chT ⟨i - k, hj3⟩ (tt p) ≠ nilT := fun e5 => by
                have e6 : m ≤ i - k := (hmn ⟨i - k, hj3⟩).mp e5
                omega
              obtain ⟨c, d, c1, d1, c2, d2, c3, d3, -⟩ := hnew ⟨i - k, hj3⟩ hne
              have e7 : k + (⟨i - k, hj3⟩ : Fin 3).val = i := by show k + (i - k) = i; omega
              rw [e7] at c3 d3
              have e8 : c = p' := nI_inj (by omega) (by omega) (c3.symm.trans h7)
              have e9 : d = t' := nI_inj (by omega) (by omega) (d3.symm.trans h8)
              obtain ⟨q1, q2⟩ := hpop σ τ h
              rw [← e8, ← e9, c2, d2]
              refine ⟨?_, ?_⟩
              · rw [q1]; exact sub_ch (by rw [eg]; exact hσ.sup.lo (by omega)) _
              · have : chT ⟨i - k, hj3⟩ (tt p) = chT ⟨i - k, hj3⟩ (sub τ (tt t)) := by rw [← q2]
                rw [this]
                exact sub_ch (by rw [hgt]; exact hτ.sup.lo (by omega)) _
          obtain ⟨r, im1, ws1, wf1, th1, bk1, h1, h2⟩ := ih f (by omega) (upd im p (nI t)) ws' wf' th bk (k + m) hI' (by omega) (by omega)
          refine ⟨r, im1, ws1, wf1, th1, bk1, h1, ?_⟩
          rcases h2 with ⟨a1, a2, a3, a3', a4⟩ | ⟨a1, a2⟩
          · exact Or.inl ⟨a1, a2, a3, a3', fun σ τ hσ hτ h => a4 σ τ hσ hτ (hiv σ τ hσ hτ h)⟩
          · exact Or.inr ⟨a1, fun σ τ hσ hτ h => a2 σ τ hσ hτ (hiv σ τ hσ hτ h)⟩
        · refine ⟨0, upd im p (nI t), ws, wf, th, bk, ?_, Or.inr ⟨rfl, hno egg⟩⟩
          rw [kg]
          by_cases c2 : kd g' = 0
          · have hg30 : g' < 30 := by
              apply Classical.byContradiction
              intro hc
              unfold kd at c2
              rw [if_neg hc] at c2
              split at c2 <;> omega
            have wg' : wh g' = g' := by unfold wh; rw [if_pos hg30]
            rw [c2, if_pos rfl, if_pos nI_0, wg, wg', if_neg (fun e2 => egg (nI_inj (by omega) (by omega) e2).symm)]
          · have := kd_lt g'
            rw [if_neg (fun e2 => c2 (nI_inj (by omega) (by omega) e2).symm)]
      · -- a variable
        have kg : kd g = 1 := by unfold kd; rw [if_neg c30, if_pos hg38]
        have wg : wh g = g - 30 := by unfold wh; rw [if_neg c30, if_pos hg38]
        have hlp : tt p = lfT g := leaf_lf w hp eg (by omega)
        by_cases cg : 30 ≤ g' ∧ g' < 38
        case neg =>
          refine ⟨0, upd im p (nI t), ws, wf, th, bk, ?_, Or.inr ⟨rfl, fun σ τ hσ hτ h => ?_⟩⟩
          · have hkne : kd g' ≠ 1 := by
              unfold kd
              split
              · omega
              · split <;> omega
            have := kd_lt g'
            rw [kg, if_neg (fun e2 => hkne (nI_inj (by omega) (by omega) e2).symm)]
          · have := (hpop σ τ h).2
            rw [hlp] at this
            exact cg (var_var w hτ.sup ht (by omega) hg38 eg' this)
        have kg' : kd g' = 1 := by unfold kd; rw [if_neg (by omega), if_pos (by omega)]
        have wg' : wh g' = g' - 30 := by unfold wh; rw [if_neg (by omega), if_pos (by omega)]
        have hlt : tt t = lfT g' := leaf_lf w ht eg' (by omega)
        obtain ⟨v, hv⟩ : ∃ v, v = g - 30 := ⟨_, rfl⟩
        obtain ⟨z, hz⟩ : ∃ z, z = g' - 30 := ⟨_, rfl⟩
        have egv : g = 30 + v := by omega
        have egz : g' = 30 + z := by omega
        have h238 : ∀ th bk : Nat → Int32, f_Q_areAlike_L238 Q_kinds Q_which Q_firsts Q_seconds Q_thirds (f_Q_areAlike_L37 Q_kinds Q_which Q_firsts Q_seconds Q_thirds f) FU (upd im p (nI t)) ws wf th bk (nI k) (nI p) (nI t) 0 = f_Q_areAlike_L37 Q_kinds Q_which Q_firsts Q_seconds Q_thirds f (upd im p (nI t)) ws wf th bk (nI k) := by
          intro th bk
          obtain ⟨F, hF⟩ : ∃ F, FU = F + 1 := ⟨FU - 1, by unfold FU; omega⟩
          rw [hF, f_Q_areAlike_L238, if_neg (by decide), gd_t (ixb_t (by omega) (by omega)), nI_clamp (by omega), ek, kg, if_neg (by decide)]
        have hB : f_Q_areAlike_B140 Q_kinds Q_which Q_firsts Q_seconds Q_thirds (f_Q_areAlike_L37 Q_kinds Q_which Q_firsts Q_seconds Q_thirds f) (upd im p (nI t)) ws wf th bk (nI k) (nI p) (nI t) = if th v = -1 ∧ bk z = -1 then f_Q_areAlike_L37 Q_kinds Q_which Q_firsts Q_seconds Q_thirds f (upd im p (nI t)) ws wf (upd th v (nI z)) (upd bk z (nI v)) (nI k)
            else if th v = nI z ∧ bk z = nI v then f_Q_areAlike_L37 Q_kinds Q_which Q_firsts Q_seconds Q_thirds f (upd im p (nI t)) ws wf th bk (nI k) else some (0, upd im p (nI t), ws, wf, th, bk) := by
          have h209 : ∀ th bk : Nat → Int32, f_Q_areAlike_B209 Q_kinds Q_which Q_firsts Q_seconds Q_thirds (f_Q_areAlike_L37 Q_kinds Q_which Q_firsts Q_seconds Q_thirds f) (upd im p (nI t)) ws wf th bk (nI k) (nI p) (nI t) (nI v) (nI z) = if th v = nI z ∧ bk z = nI v then f_Q_areAlike_L37 Q_kinds Q_which Q_firsts Q_seconds Q_thirds f (upd im p (nI t)) ws wf th bk (nI k) else some (0, upd im p (nI t), ws, wf, th, bk) := by
            intro th bk
            unfold f_Q_areAlike_B209
            rw [gd_t (ixb_t (by omega) (by omega)), nI_clamp (by omega), gd_t (ixb_t (by omega) (by omega)), nI_clamp (by omega), h238]
            by_cases d1 : th v = nI z
            · by_cases d2 : bk z = nI v
              · rw [if_pos d1, if_pos d2, if_pos ⟨d1, d2⟩]
              · rw [if_pos d1, if_neg d2, if_neg (fun h => d2 h.2)]
            · rw [if_neg d1, if_neg (fun h => d1 h.1)]
          unfold f_Q_areAlike_B140
          simp (disch := omega) only [ixb_t, gd_tt]
          simp (disch := omega) only [nI_clamp, nmE]
          rw [ek, kg, if_pos (by decide), ew, ew', wg, wg', ← hv, ← hz]
          simp (disch := omega) only [ixb_t, gd_tt]
          simp (disch := omega) only [nI_clamp, nmE]
          rw [h209, h209]
          by_cases d1 : th v = -1
          · by_cases d2 : bk z = -1
            · rw [if_pos d1, if_pos d2, if_pos (show upd th v (nI z) v = nI z ∧ upd bk z (nI v) z = nI v from ⟨up_s _ _ _, up_s _ _ _⟩), if_pos (show th v = -1 ∧ bk z = -1 from ⟨d1, d2⟩)]
            · rw [if_pos d1, if_neg d2, if_neg (show ¬ (th v = -1 ∧ bk z = -1) from fun h => d2 h.2)]
          · rw [if_neg d1, if_neg (show ¬ (th v = -1 ∧ bk z = -1) from fun h => d1 h.1)]
        rw [kg, kg', if_pos rfl, if_neg (by decide), hB]
        have hdp : dnA (upd im p (nI t)) ws wf k p t := Or.inl (up_s _ _ _)
        -- the row with this pair in it
        have hI' : ∀ th' bk' : Nat → Int32, thO th' bk' → (∀ i, i < 8 → th i ≠ -1 → th' i = th i) → th' v = nI z → AI tt n p0 t0 (upd im p (nI t)) ws wf th' bk' k := by
          intro th' bk' hO hext hvz
          refine ⟨iA', fun i hi => iS i (by omega), fun x u hx hu h1 g2 h4 => ?_, hO, ?_⟩
          · by_cases e2 : x = p
            · rw [e2, up_s] at h1
              have e3 : t = u := nI_inj (by omega) (by omega) h1
              rw [e2, eg] at h4
              have e5 : g = g2 := by omega
              subst e5
              refine ⟨fun h => by omega, fun _ => ⟨hg38, z, by omega, by rw [← e3, eg', egz], by rw [← hv]; exact hvz⟩⟩
            · rw [up_n e2] at h1
              obtain ⟨a1, a2⟩ := iC x u hx hu h1 g2 h4
              refine ⟨fun h6 => ?_, fun h6 => ?_⟩
              · obtain ⟨a3, a4⟩ := a1 h6
                refine ⟨a3, fun j hj => ?_⟩
                obtain ⟨c, d, b1, b2, b3, b4, b5⟩ := a4 j hj
                exact ⟨c, d, b1, b2, b3, b4, dnA_pop (by omega) (by omega) (by omega) (by omega) ep et (Nat.le_refl k) hXp (fun i _ => ⟨rfl, rfl⟩) hdp b5⟩
              · obtain ⟨a3, y, a4, a5, a6⟩ := a2 h6
                exact ⟨a3, y, a4, a5, by rw [hext (g2 - 30) (by omega) (by rw [a6]; exact nI_nm1 (by omega))]; exact a6⟩
          · exact dnA_pop (by omega) (by omega) (by omega) (by omega) ep et (Nat.le_refl k) hXp (fun i _ => ⟨rfl, rfl⟩) hdp iR
        have hvals : ∀ σ τ, fulT σ → fulT τ → ivB tt n σ τ im ws wf th (k + 1) → σ (30 + v) = some (lfT (30 + z)) ∧ τ (30 + z) = some (lfT (30 + v)) := by
          intro σ τ hσ hτ h
          obtain ⟨q1, q2⟩ := hpop σ τ h
          rw [hlp, hlt, egv, egz] at q1 q2
          cases hs1 : σ (30 + v) with
          | none => exact absurd hs1 ((hσ _).mpr ⟨by omega, by omega⟩)
          | some U =>
            rw [sub_lf hs1] at q1
            cases hs2 : τ (30 + z) with
            | none => exact absurd hs2 ((hτ _).mpr ⟨by omega, by omega⟩)
            | some V =>
              rw [sub_lf hs2] at q2
              exact ⟨by rw [q1], by rw [q2]⟩
        by_cases d1 : th v = -1 ∧ bk z = -1
        · rw [if_pos d1]
          have hO : thO (upd th v (nI z)) (upd bk z (nI v)) := by
            refine ⟨fun i hi => ?_, fun i hi => ?_⟩
            · by_cases c : i = v
              · rw [c, up_s]; exact Or.inr ⟨z, by omega, rfl, up_s _ _ _⟩
              · rw [up_n c]
                rcases iT.1 i hi with a | ⟨x, a1, a2, a3⟩
                · exact Or.inl a
                · refine Or.inr ⟨x, a1, a2, ?_⟩
                  rw [up_n (fun h => by rw [h, d1.2] at a3; exact nI_nm1 (by omega) a3.symm)]; exact a3
            · by_cases c : i = z
              · rw [c, up_s]; exact Or.inr ⟨v, by omega, rfl, up_s _ _ _⟩
              · rw [up_n c]
                rcases iT.2 i hi with a | ⟨x, a1, a2, a3⟩
                · exact Or.inl a
                · refine Or.inr ⟨x, a1, a2, ?_⟩
                  rw [up_n (fun h => by rw [h, d1.1] at a3; exact nI_nm1 (by omega) a3.symm)]; exact a3
          have hext : ∀ i, i < 8 → th i ≠ -1 → upd th v (nI z) i = th i := fun i hi h => up_n (fun e2 => h (by rw [e2]; exact d1.1))
          have hext2 : ∀ i, i < 8 → bk i ≠ -1 → upd bk z (nI v) i = bk i := fun i hi h => up_n (fun e2 => h (by rw [e2]; exact d1.2))
          have hiv : ∀ σ τ, fulT σ → fulT τ → ivB tt n σ τ im ws wf th (k + 1) → ivB tt n σ τ (upd im p (nI t)) ws wf (upd th v (nI z)) k := by
            intro σ τ hσ hτ h
            refine ⟨fun i x hi hx e2 => ?_, hivS σ τ h, (hσpop σ τ h).2.2⟩
            by_cases c : i = v
            · rw [c, up_s] at e2
              rw [c, ← nI_inj (by omega) (by omega) e2]
              exact hvals σ τ hσ hτ h
            · rw [up_n c] at e2
              exact h.1 i x hi hx e2
          obtain ⟨r, im1, ws1, wf1, th1, bk1, h1, h2⟩ := ih f (by omega) (upd im p (nI t)) ws wf _ _ k (hI' _ _ hO hext (up_s _ _ _)) (by omega) (by omega)
          refine ⟨r, im1, ws1, wf1, th1, bk1, h1, ?_⟩
          rcases h2 with ⟨a1, a2, a3, a3', a4⟩ | ⟨a1, a2⟩
          · exact Or.inl ⟨a1, a2, fun i hi h => (a3 i hi (by rw [hext i hi h]; exact h)).trans (hext i hi h), fun i hi h => (a3' i hi (by rw [hext2 i hi h]; exact h)).trans (hext2 i hi h), fun σ τ hσ hτ h => a4 σ τ hσ hτ (hiv σ τ hσ hτ h)⟩
          · exact Or.inr ⟨a1, fun σ τ hσ hτ h => a2 σ τ hσ hτ (hiv σ τ hσ hτ h)⟩
        rw [if_neg d1]
        by_cases d2 : th v = nI z ∧ bk z = nI v
        · rw [if_pos d2]
          have hiv : ∀ σ τ, ivB tt n σ τ im ws wf th (k + 1) → ivB tt n σ τ (upd im p (nI t)) ws wf th k := fun σ τ h => ⟨h.1, hivS σ τ h, (hσpop σ τ h).2.2⟩
          obtain ⟨r, im1, ws1, wf1, th1, bk1, h1, h2⟩ := ih f (by omega) (upd im p (nI t)) ws wf th bk k (hI' _ _ iT (fun _ _ _ => rfl) d2.1) (by omega) (by omega)
          refine ⟨r, im1, ws1, wf1, th1, bk1, h1, ?_⟩
          rcases h2 with ⟨a1, a2, a3, a3', a4⟩ | ⟨a1, a2⟩
          · exact Or.inl ⟨a1, a2, a3, a3', fun σ τ hσ hτ h => a4 σ τ hσ hτ (hiv σ τ h)⟩
          · exact Or.inr ⟨a1, fun σ τ hσ hτ h => a2 σ τ hσ hτ (hiv σ τ h)⟩
        · rw [if_neg d2]
          refine ⟨0, upd im p (nI t), ws, wf, th, bk, rfl, Or.inr ⟨rfl, fun σ τ hσ hτ h => ?_⟩⟩
          obtain ⟨q1, q2⟩ := hvals σ τ hσ hτ h
          by_cases d3 : th v = -1
          · rcases iT.2 z (by omega) with a | ⟨x, a1, a2, a3⟩
            · exact d1 ⟨d3, a⟩
            · have := (h.1 x z a1 (by omega) a3).2
              rw [q2] at this
              have e9 := lfT_inj (Option.some.inj this)
              have e10 : v = x := by omega
              rw [← e10, d3] at a3
              exact nI_nm1 (by omega) a3.symm
          · rcases iT.1 v (by omega) with a | ⟨x, a1, a2, a3⟩
            · exact d3 a
            · have := (h.1 v x (by omega) a1 a2).1
              rw [q1] at this
              have e9 := lfT_inj (Option.some.inj this)
              have e10 : z = x := by omega
              rw [← e10] at a2 a3
              exact d2 ⟨a2, a3⟩
end
