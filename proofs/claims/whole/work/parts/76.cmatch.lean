def ivA (n : Nat) (im : Nat → Int32) : Prop := ∀ x, x < 100 → im x = -1 ∨ (x < n ∧ ∃ u, u < n ∧ im x = nI u)
def ivS (tt : Nat → Tm) (n : Nat) (σ : Nat → Option Tm) (im : Nat → Int32) : Prop := ∀ x, x < 100 → ∀ u, u < n → im x = nI u → tt u = sub σ (tt x)
def ivX (im im' : Nat → Int32) : Prop := ∀ x, im x ≠ -1 → im' x = im x
def ivP (tt : Nat → Tm) (n : Nat) (im im' : Nat → Int32) : Prop := ∀ (Φ : Nat → Prop), (∀ s c (k : Fin 3), s < n → c < n → Φ s → tt c = chT k (tt s) → Φ c) → (∀ x, x < 100 → im x ≠ -1 → Φ x) → (∀ x, x < 100 → im' x ≠ -1 → Φ x)
theorem ivX.refl (im : Nat → Int32) : ivX im im := fun _ _ => rfl
theorem ivX.trans {a b c : Nat → Int32} (h1 : ivX a b) (h2 : ivX b c) : ivX a c := fun x hx => by
  have e := h1 x hx
  rw [h2 x (by rw [e]; exact hx), e]
theorem fill_loop (v : Int32) : ∀ d, ∀ fuel, d < fuel → ∀ (A : Nat → Int32), d ≤ 100 → ∃ A', f_JA_fill_L5 100 fuel A v (nI (100 - d)) (nI 100) = some A' ∧ (∀ x, x < 100 → 100 - d ≤ x → A' x = v) ∧ (∀ x, x < 100 - d → A' x = A x) := by
  intro d
  induction d with
  | zero =>
    intro fuel hf A _
    obtain ⟨f, rfl⟩ : ∃ f, fuel = f + 1 := ⟨fuel - 1, by omega⟩
    refine ⟨A, ?_, fun x h1 h2 => by omega, fun x _ => rfl⟩
    rw [f_JA_fill_L5, if_pos (show nI 100 ≤ nI (100 - 0) by decide)]
  | succ d ih =>
    intro fuel hf A hd
    obtain ⟨f, rfl⟩ : ∃ f, fuel = f + 1 := ⟨fuel - 1, by omega⟩
    obtain ⟨A', h1, h2, h3⟩ := ih f (by omega) (upd A (100 - (d + 1)) v) (by omega)
    refine ⟨A', ?_, fun x h4 h5 => ?_, fun x h4 => ?_⟩
    · rw [f_JA_fill_L5, if_neg (nI_ge (by omega) (by omega))]
      simp (disch := omega) only [nmE, nI_1, ixb_t, gd_tt, nI_clamp]
      rw [show 100 - (d + 1) + 1 = 100 - d by omega]
      exact h1
    · by_cases e : x = 100 - (d + 1)
      · rw [h3 x (by omega), e, up_s]
      · exact h2 x h4 (by omega)
    · rw [h3 x (by omega), up_n (by omega)]
theorem fill_eq (A : Nat → Int32) : ∃ A', f_JA_fill 100 A (-1) = some A' ∧ ∀ x, x < 100 → A' x = -1 := by
  obtain ⟨A', h1, h2, -⟩ := fill_loop (-1) 100 FU (by unfold FU; omega) A (by omega)
  rw [show 100 - 100 = 0 from rfl, nI_0] at h1
  refine ⟨A', ?_, fun x hx => h2 x hx (by omega)⟩
  unfold f_JA_fill
  rw [nmE]
  exact h1
theorem pair_new {im : Nat → Int32} {c d : Nat} (hc : c < 100) (hd : d < 2 ^ 31) (e : im c = -1) : f_M_pair im (nI c) (nI d) = some (1, upd im c (nI d)) := by
  unfold f_M_pair
  rw [if_neg (nI_pos (by omega)), if_neg (show ¬ (100 : Int32) ≤ nI c from (nI_ge hc (by omega) : ¬ nI 100 ≤ nI c)), if_neg (nI_nm1 hd)]
  simp (disch := omega) only [nmE, ixb_t, gd_tt, nI_clamp, f_M_pair_B34, up_s, if_true]
  rw [if_pos e]
theorem pair_old {im : Nat → Int32} {c d d' : Nat} (hc : c < 100) (hd : d < 2 ^ 31) (hd' : d' < 2 ^ 31) (e : im c = nI d') : f_M_pair im (nI c) (nI d) = some (if d' = d then 1 else 0, im) := by
  unfold f_M_pair
  rw [if_neg (nI_pos (by omega)), if_neg (show ¬ (100 : Int32) ≤ nI c from (nI_ge hc (by omega) : ¬ nI 100 ≤ nI c)), if_neg (nI_nm1 hd)]
  simp (disch := omega) only [nmE, ixb_t, gd_tt, nI_clamp, f_M_pair_B34]
  rw [if_neg (by rw [e]; exact nI_nm1 hd'), e]
  by_cases c1 : d' = d
  · rw [if_pos c1, if_pos (by rw [c1])]
  · rw [if_neg c1, if_neg (fun e2 => c1 (nI_inj hd' hd e2))]
/-- a step of a match has been gone: what stands in s has its images -/
def clo (tt : Nat → Tm) (n : Nat) (fh : Bool) (s u : Nat) (im : Nat → Int32) : Prop :=
  (¬ hasF fh (tt s) → s = u) ∧ (hasF fh (tt s) → ∀ g, g < 30 → tt s [] = g + 1 → tt u [] = g + 1 ∧ ∀ j : Fin 3, chT j (tt s) ≠ nilT → ∃ c d, c < s ∧ d < n ∧ tt c = chT j (tt s) ∧ tt d = chT j (tt u) ∧ im c = nI d)
section
variable {tt : Nat → Tm} {n N : Nat} {ar : Nat → Int32} {sz : Nat → Nat} {T_count : Int32} {T_heads T_places T_olders T_sizes : Nat → Int32} {T_withins : Nat → Int64} {T_newest : Nat → Int32} {fh : Bool}
theorem agr_loop (w : WF tt n ar) (ct : CT tt n N sz T_count T_heads T_places T_olders T_sizes T_withins T_newest) {s u g : Nat} (hs : s < 100) (hsn : s < n) (hu : u < n) (e1 : tt s [] = g + 1) (e2 : tt u [] = g + 1) : ∀ d, d ≤ 3 → ∀ fuel, d < fuel → ∀ im, ivA n im → im s ≠ -1 →
    ∃ im', (f_M_agrees_L60 T_count N T_heads (3*N) T_places N T_withins fuel im (nI s) (nI u) (nI (3 - d)) = some (1, im') ∧ ivA n im' ∧ ivX im im' ∧ (∀ x, s ≤ x → im' x = im x) ∧ ivP tt n im im' ∧
        (∀ j : Fin 3, 3 - d ≤ j.val → chT j (tt s) ≠ nilT → ∃ c d, c < s ∧ d < n ∧ tt c = chT j (tt s) ∧ tt d = chT j (tt u) ∧ im' c = nI d) ∧
        (∀ σ, (∀ j, chT j (tt u) = sub σ (chT j (tt s))) → ivS tt n σ im → ivS tt n σ im')) ∨
      (f_M_agrees_L60 T_count N T_heads (3*N) T_places N T_withins fuel im (nI s) (nI u) (nI (3 - d)) = some (0, im') ∧ ∀ σ, (∀ j, chT j (tt u) = sub σ (chT j (tt s))) → ¬ ivS tt n σ im) := by
  have hN := ct.2.2.2.1
  have hnN := ct.2.1
  intro d
  induction d with
  | zero =>
    intro _ fuel hf im hA _
    obtain ⟨f, rfl⟩ : ∃ f, fuel = f + 1 := ⟨fuel - 1, by omega⟩
    refine ⟨im, Or.inl ⟨?_, hA, ivX.refl im, fun x _ => rfl, fun Φ _ h => h, fun j hj => by have := j.isLt; omega, fun σ _ h => h⟩⟩
    rw [f_M_agrees_L60, if_pos (show (3 : Int32) ≤ nI (3 - 0) by decide)]
  | succ d ih =>
    intro hd fuel hf im hA hms
    obtain ⟨f, rfl⟩ : ∃ f, fuel = f + 1 := ⟨fuel - 1, by omega⟩
    obtain ⟨k, hk⟩ : ∃ k : Fin 3, k.val = 3 - (d + 1) := ⟨⟨3 - (d + 1), by omega⟩, rfl⟩
    have hk3 := k.isLt
    rw [← hk, f_M_agrees_L60, if_neg (show ¬ (3 : Int32) ≤ nI k.val from (nI_ge hk3 (by omega) : ¬ nI 3 ≤ nI k.val)), place_v ct hsn hk3, bd_s]
    have hkd : k.val + 1 = 3 - d := by omega
    rcases ct.2.2.2.2.2.2.1 s hsn k with ⟨p1, p2⟩ | ⟨c, hc, p1, p2⟩
    · rw [p1, if_pos rfl, nmE, nI_1, hkd]
      obtain ⟨im', h⟩ := ih (by omega) f (by omega) im hA hms
      refine ⟨im', ?_⟩
      rcases h with ⟨a1, a2, a3, a4, a5, a6, a7⟩ | h
      · refine Or.inl ⟨a1, a2, a3, a4, a5, fun j hj hne => ?_, a7⟩
        by_cases e : j.val = k.val
        · exact absurd (by rw [show j = k from Fin.ext e, p2]) hne
        · exact a6 j (by omega) hne
      · exact Or.inr h
    · have hne : chT k (tt s) ≠ nilT := by rw [← p2]; exact w.ne (by omega)
      have hneu : chT k (tt u) ≠ nilT := fun e => hne ((arity_eq w hsn hu e1 e2 k).mpr e)
      rcases ct.2.2.2.2.2.2.1 u hu k with ⟨q1, q2⟩ | ⟨v, hv, q1, q2⟩
      · exact absurd q2 hneu
      · rw [p1, if_neg (nI_nm1 (by omega)), place_v ct hu hk3, bd_s, q1]
        rcases hA c (by omega) with hm | ⟨-, x, hx, hm⟩
        · rw [pair_new (by omega) (by omega) hm, bd_s]
          have hA1 : ivA n (upd im c (nI v)) := by
            intro y hy
            by_cases e : y = c
            · rw [e, up_s]; exact Or.inr ⟨by omega, v, by omega, rfl⟩
            · rw [up_n e]; exact hA y hy
          obtain ⟨im', h⟩ := ih (by omega) f (by omega) _ hA1 (by rw [up_n (by omega)]; exact hms)
          refine ⟨im', ?_⟩
          have hS : ∀ σ, (∀ j, chT j (tt u) = sub σ (chT j (tt s))) → ivS tt n σ im → ivS tt n σ (upd im c (nI v)) := by
            intro σ hσ hi y hy z hz ez
            by_cases e : y = c
            · rw [e, up_s] at ez
              have : v = z := nI_inj (by omega) (by omega) ez
              rw [← this, e, q2, p2]
              exact hσ k
            · rw [up_n e] at ez
              exact hi y hy z hz ez
          simp only [show ¬ ((1 : Int32) = 0) by decide, if_false, nmE, nI_1, hkd]
          rcases h with ⟨a1, a2, a3, a4, a5, a6, a7⟩ | ⟨a1, a2⟩
          · refine Or.inl ⟨a1, a2, ?_, fun x hx => ?_, ?_, fun j hj hne2 => ?_, fun σ h1 h2 => a7 σ h1 (hS σ h1 h2)⟩
            · intro y hy
              have : y ≠ c := fun e => hy (by rw [e, hm])
              have e3 : upd im c (nI v) y = im y := up_n this
              rw [a3 y (by rw [e3]; exact hy), e3]
            · rw [a4 x hx, up_n (by omega)]
            · intro Φ hΦ h0
              refine a5 Φ hΦ (fun y hy hyn => ?_)
              by_cases e : y = c
              · rw [e]
                exact hΦ s c k hsn (by omega) (h0 s hs hms) p2
              · rw [up_n e] at hyn
                exact h0 y hy hyn
            · by_cases e : j.val = k.val
              · have ej : j = k := Fin.ext e
                rw [ej]
                refine ⟨c, v, hc, by omega, p2, q2, ?_⟩
                rw [a3 c (by rw [up_s]; exact nI_nm1 (by omega)), up_s]
              · exact a6 j (by omega) hne2
          · exact Or.inr ⟨a1, fun σ h1 h2 => a2 σ h1 (hS σ h1 h2)⟩
        · rw [pair_old (by omega) (by omega) (by omega) hm, bd_s]
          by_cases e : x = v
          · obtain ⟨im', h⟩ := ih (by omega) f (by omega) im hA hms
            refine ⟨im', ?_⟩
            simp only [e, if_true, show ¬ ((1 : Int32) = 0) by decide, if_false, nmE, nI_1, hkd]
            rcases h with ⟨a1, a2, a3, a4, a5, a6, a7⟩ | h
            · refine Or.inl ⟨a1, a2, a3, a4, a5, fun j hj hne2 => ?_, a7⟩
              by_cases e5 : j.val = k.val
              · have ej : j = k := Fin.ext e5
                rw [ej]
                refine ⟨c, v, hc, by omega, p2, q2, ?_⟩
                rw [a3 c (by rw [hm]; exact nI_nm1 (by omega)), hm, e]
              · exact a6 j (by omega) hne2
            · exact Or.inr h
          · refine ⟨im, Or.inr ⟨?_, fun σ hσ hi => ?_⟩⟩
            · simp only [e, if_false, if_true]
            · have h5 := hi c (by omega) x hx hm
              rw [p2, ← hσ k, ← q2] at h5
              exact e (w.1 x hx v (by omega) h5)
theorem agr_eq (w : WF tt n ar) (ct : CT tt n N sz T_count T_heads T_places T_olders T_sizes T_withins T_newest) {s u : Nat} (hs : s < 100) (hsn : s < n) (hu : u < n) {im : Nat → Int32} (hA : ivA n im) (hms : im s = nI u) :
    ∃ im', (f_M_agrees T_count N T_heads (3*N) T_places N T_withins im (nI s) (nI u) (bitsOf fh) = some (1, im') ∧ ivA n im' ∧ ivX im im' ∧ (∀ x, s ≤ x → im' x = im x) ∧ ivP tt n im im' ∧ clo tt n fh s u im' ∧
        (∀ σ, (∀ h, σ h ≠ none → fre fh h) → ivS tt n σ im → ivS tt n σ im')) ∨
      (f_M_agrees T_count N T_heads (3*N) T_places N T_withins im (nI s) (nI u) (bitsOf fh) = some (0, im') ∧ ∀ σ, (∀ h, σ h ≠ none → fre fh h) → ¬ ivS tt n σ im) := by
  have hN := ct.2.2.2.1
  have hnN := ct.2.1
  have hms1 : im s ≠ -1 := by rw [hms]; exact nI_nm1 (by omega)
  obtain ⟨ho1, ho0⟩ := holds_t ct hsn fh
  obtain ⟨g, hg, eg, -, -⟩ := w.2.1 s hsn
  obtain ⟨g', hg', eg', -, -⟩ := w.2.1 u hu
  unfold f_M_agrees
  by_cases hF : hasF fh (tt s)
  · rw [ho1 hF, bd_s, if_neg (show ¬ ((1 : Int32) = 0) by decide), head_t ct hsn eg, bd_s]
    by_cases c : g < 30
    · rw [if_pos (show nI g < (30 : Int32) from (nI_lt c (by omega) : _ < nI 30)), head_t ct hu eg', bd_s]
      by_cases e : g = g'
      · rw [if_pos (by rw [e])]
        obtain ⟨im', h⟩ := agr_loop w ct hs hsn hu eg (by rw [eg', e]) 3 (by omega) FU (by unfold FU; omega) im hA hms1
        rw [show 3 - 3 = 0 from rfl, nI_0] at h
        refine ⟨im', ?_⟩
        have hsub : ∀ σ, (∀ h, σ h ≠ none → fre fh h) → ivS tt n σ im → (∀ j, chT j (tt u) = sub σ (chT j (tt s))) := by
          intro σ hσ hi j
          rw [hi s hs u hu hms]
          exact sub_ch (by rw [eg]; exact rtS_lo hσ (fun hf => by have := fre_lt hf; omega)) j
        rcases h with ⟨a1, a2, a3, a4, a5, a6, a7⟩ | ⟨a1, a2⟩
        · refine Or.inl ⟨a1, a2, a3, a4, a5, ⟨fun h => absurd hF h, fun _ g2 _ e5 => ⟨by rw [eg', ← e]; omega, fun j hj => a6 j (by omega) hj⟩⟩, fun σ hσ hi => a7 σ (hsub σ hσ hi) hi⟩
        · exact Or.inr ⟨a1, fun σ hσ hi => a2 σ (hsub σ hσ hi) hi⟩
      · rw [if_neg (fun e2 => e (nI_inj (by omega) (by omega) e2))]
        refine ⟨im, Or.inr ⟨rfl, fun σ hσ hi => ?_⟩⟩
        have h1 := hi s hs u hu hms
        have h2 : sub σ (tt s) [] = tt s [] := sub_root (by rw [eg]; exact rtS_lo hσ (fun hf => by have := fre_lt hf; omega))
        rw [← h1, eg, eg'] at h2
        omega
    · rw [if_neg (show ¬ nI g < (30 : Int32) from (nI_nlt (by omega) (by omega) : ¬ _ < nI 30))]
      exact ⟨im, Or.inl ⟨rfl, hA, ivX.refl im, fun x _ => rfl, fun Φ _ h => h, ⟨fun h => absurd hF h, fun _ g2 h2 e5 => by omega⟩, fun σ _ h => h⟩⟩
  · rw [ho0 hF, bd_s, if_pos rfl]
    by_cases e : s = u
    · rw [if_pos (by rw [e])]
      exact ⟨im, Or.inl ⟨rfl, hA, ivX.refl im, fun x _ => rfl, fun Φ _ h => h, ⟨fun _ => e, fun h => absurd h hF⟩, fun σ _ h => h⟩⟩
    · rw [if_neg (fun e2 => e (nI_inj (by omega) (by omega) e2))]
      refine ⟨im, Or.inr ⟨rfl, fun σ hσ hi => ?_⟩⟩
      have h1 := hi s hs u hu hms
      rw [sub_id (fun g3 hg3 => rtS_lo hσ (fun hf => hF ⟨g3, hf, hg3⟩))] at h1
      exact e (w.1 u hu s hsn h1).symm
theorem settle_loop (w : WF tt n ar) (ct : CT tt n N sz T_count T_heads T_places T_olders T_sizes T_withins T_newest) : ∀ m, m ≤ 100 → ∀ fuel, m < fuel → ∀ im, ivA n im →
    ∃ im', (f_M_settle_L3 T_count N T_heads (3*N) T_places N T_withins fuel im (bitsOf fh) (nI m - 1) = some (1, im') ∧ ivA n im' ∧ ivX im im' ∧ (∀ x, m ≤ x → im' x = im x) ∧ ivP tt n im im' ∧ (∀ s u, s < m → u < n → im' s = nI u → clo tt n fh s u im') ∧
        (∀ σ, (∀ h, σ h ≠ none → fre fh h) → ivS tt n σ im → ivS tt n σ im')) ∨
      (f_M_settle_L3 T_count N T_heads (3*N) T_places N T_withins fuel im (bitsOf fh) (nI m - 1) = some (0, im') ∧ ∀ σ, (∀ h, σ h ≠ none → fre fh h) → ¬ ivS tt n σ im) := by
  have hN := ct.2.2.2.1
  have hnN := ct.2.1
  intro m
  induction m with
  | zero =>
    intro _ fuel hf im hA
    obtain ⟨f, rfl⟩ : ∃ f, fuel = f + 1 := ⟨fuel - 1, by omega⟩
    refine ⟨im, Or.inl ⟨?_, hA, ivX.refl im, fun x _ => rfl, fun Φ _ h => h, fun s u h => by omega, fun σ _ h => h⟩⟩
    rw [f_M_settle_L3, if_pos (show nI 0 - 1 < 0 by decide)]
  | succ m ih =>
    intro hm fuel hf im hA
    obtain ⟨f, rfl⟩ : ∃ f, fuel = f + 1 := ⟨fuel - 1, by omega⟩
    rw [nI_pred, f_M_settle_L3, if_neg (nI_pos (by omega))]
    simp (disch := omega) only [ixb_t, gd_tt, nI_clamp, nmE]
    rw [← Int32.sub_eq_add_neg]
    rcases hA m (by omega) with e | ⟨hmn, u, hu, e⟩
    · rw [if_pos e]
      obtain ⟨im', h⟩ := ih (by omega) f (by omega) im hA
      refine ⟨im', ?_⟩
      rcases h with ⟨a1, a2, a3, a4, a5, a6, a7⟩ | h
      · refine Or.inl ⟨a1, a2, a3, fun x hx => a4 x (by omega), a5, fun s u h1 h2 h3 => ?_, a7⟩
        by_cases e2 : s = m
        · rw [e2, a4 m (by omega), e] at h3
          exact absurd h3.symm (nI_nm1 (by omega))
        · exact a6 s u (by omega) h2 h3
      · exact Or.inr h
    · rw [if_neg (by rw [e]; exact nI_nm1 (by omega)), e]
      obtain ⟨im1, h⟩ := agr_eq (fh := fh) w ct (by omega) hmn hu hA e
      rcases h with ⟨a1, a2, a3, a4, a5, a6, a7⟩ | ⟨a1, a2⟩
      · rw [a1, bd_s]
        simp only [show ¬ ((1 : Int32) = 0) by decide, if_false]
        obtain ⟨im', h⟩ := ih (by omega) f (by omega) im1 a2
        refine ⟨im', ?_⟩
        rcases h with ⟨b1, b2, b3, b4, b5, b6, b7⟩ | ⟨b1, b2⟩
        · refine Or.inl ⟨b1, b2, a3.trans b3, fun x hx => ?_, fun Φ h1 h2 => b5 Φ h1 (a5 Φ h1 h2), fun s u' h1 h2 h3 => ?_, fun σ h1 h2 => b7 σ h1 (a7 σ h1 h2)⟩
          · rw [b4 x (by omega), a4 x (by omega)]
          · by_cases e2 : s = m
            · rw [e2, b4 m (by omega), a4 m (by omega), e] at h3
              have e3 : u = u' := nI_inj (by omega) (by omega) h3
              rw [e2, ← e3]
              refine ⟨a6.1, fun c1 g c2 c3 => ?_⟩
              obtain ⟨d1, d2⟩ := a6.2 c1 g c2 c3
              refine ⟨d1, fun j hj => ?_⟩
              obtain ⟨c, d, d3, d4, d5, d6, d7⟩ := d2 j hj
              exact ⟨c, d, d3, d4, d5, d6, by rw [b3 c (by rw [d7]; exact nI_nm1 (by omega)), d7]⟩
            · exact b6 s u' (by omega) h2 h3
        · exact Or.inr ⟨b1, fun σ h1 h2 => b2 σ h1 (a7 σ h1 h2)⟩
      · rw [a1, bd_s]
        refine ⟨im1, Or.inr ⟨?_, a2⟩⟩
        rw [if_pos rfl]
end
