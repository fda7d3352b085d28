section
variable {tt : Nat → Tm} {n n0 : Nat} {ar : Nat → Int32} {sz : Nat → Nat} {Q_all : Int32} {Q_kinds Q_which Q_firsts Q_seconds Q_thirds Q_nexts Q_heads Q_names Q_variables Q_holes Q_sizes Q_places Q_image Q_bound Q_waits Q_waitsFor : Nat → Int32} {fh : Bool}
noncomputable def im2 (tt : Nat → Tm) (n : Nat) (fh : Bool) (im : Nat → Int32) : Nat → Int32 := fun x => @ite _ (x < n ∧ ¬ hasF fh (tt x)) (Classical.propDecidable _) (nI x) (im x)
theorem im2_f {im : Nat → Int32} {x : Nat} (h : hasF fh (tt x)) : im2 tt n fh im x = im x := if_neg (fun h2 => h2.2 h)
theorem im2_n {im : Nat → Int32} {x : Nat} (hx : x < n) (h : ¬ hasF fh (tt x)) : im2 tt n fh im x = nI x := if_pos ⟨hx, h⟩
theorem qm_end (w : WF tt n ar) (hn0 : n0 ≤ n) (h100 : n0 ≤ 100) (hn : n ≤ 101100) {p0 t0 : Nat} (hp0 : p0 < n0) (ht0 : t0 < n) {im bd ws wf : Nat → Int32} (hI : QI tt n n0 fh p0 t0 im bd ws wf 0) :
    ∃ σ, Mt fh σ (tt p0) (tt t0) ∧ ∀ v, v < 8 → rf tt n (bd v) (oT (σ (loF fh + v))) := by
  obtain ⟨iA, iB, iB2, iS, iC, iR⟩ := hI
  have dn0 : ∀ c d, c < 100 → c < n → d < n → dnQ tt fh im ws wf 0 c d → im2 tt n fh im c = nI d := by
    intro c d hc1 hc hd h
    rcases h with ⟨h1, h2⟩ | h | ⟨i, hi, -⟩
    · rw [im2_n hc h1, h2]
    · rcases iA c hc1 with e | ⟨-, e, -⟩
      · rw [e] at h
        exact absurd h.symm (nI_nm1 (by omega))
      · rw [im2_f e, h]
    · omega
  have hA : ivA n (im2 tt n fh im) := by
    intro x hx
    by_cases c : x < n ∧ ¬ hasF fh (tt x)
    · rw [im2_n c.1 c.2]; exact Or.inr ⟨c.1, x, c.1, rfl⟩
    · have e : im2 tt n fh im x = im x := if_neg c
      rw [e]
      rcases iA x hx with e2 | ⟨h1, -, -, h4⟩
      · exact Or.inl e2
      · exact Or.inr ⟨by omega, h4⟩
  have hcl : ∀ s u, s < 100 → u < n → im2 tt n fh im s = nI u → clo tt n fh s u (im2 tt n fh im) := by
    intro s u hs hu e
    have hsn : s < n := by
      rcases hA s hs with h | ⟨h, -⟩
      · exact absurd (h.symm.trans e).symm (nI_nm1 (by omega))
      · exact h
    refine ⟨fun hF => ?_, fun hF g hg eg => ?_⟩
    · rw [im2_n hsn hF] at e
      exact nI_inj (by omega) (by omega) e
    · rw [im2_f hF] at e
      obtain ⟨a1, a2⟩ := iC s u hs hu e g hg eg
      refine ⟨a1, fun j hj => ?_⟩
      obtain ⟨c, d, b1, b2, b3, b4, b5⟩ := a2 j hj
      exact ⟨c, d, b1, b2, b3, b4, dn0 c d (by omega) (by omega) b2 b5⟩
  have himg := clo_img w hn hA hcl
  have hroot := dn0 p0 t0 (by omega) (by omega) ht0 iR
  have hlf : ∀ h, lfx tt n fh (im2 tt n fh im) h ↔ (fre fh h ∧ ∃ x, x < 100 ∧ x < n0 ∧ tt x [] = h + 1 ∧ im x ≠ -1) := by
    intro h
    constructor
    · rintro ⟨x, h1, h2, h3, h4, h5⟩
      rw [im2_f ⟨h, h4, [], h3⟩] at h5
      refine ⟨h4, x, h1, ?_, h3, h5⟩
      rcases iA x h1 with e | ⟨e, -⟩
      · exact absurd e h5
      · exact e
    · rintro ⟨h4, x, h1, h2, h3, h5⟩
      exact ⟨x, h1, by omega, h3, h4, by rw [im2_f ⟨h, h4, [], h3⟩]; exact h5⟩
  refine ⟨sgm tt n fh (im2 tt n fh im), ⟨(himg.2.1 p0 (by omega) t0 ht0 hroot).symm, fun h => ⟨fun hne => ?_, fun hh => ?_⟩⟩, fun v hv => ?_⟩
  · obtain ⟨h4, x, h1, h2, h3, h5⟩ := (hlf h).mp (sgm_dom.mp hne)
    refine ⟨h4, ?_⟩
    rcases iA x h1 with e | ⟨-, -, e, -⟩
    · exact absurd e h5
    · exact e h ⟨[], h3⟩
  · exact clo_dom w hn hA hcl hh.1 p0 (by omega) (by rw [hroot]; exact nI_nm1 (by omega)) hh.2
  · by_cases c : lfx tt n fh (im2 tt n fh im) (loF fh + v)
    · obtain ⟨h4, x, h1, h2, h3, h5⟩ := (hlf _).mp c
      rw [iB2 x v h1 hv h3 h5]
      rcases iA x h1 with e | ⟨-, hF, -, u, hu, e⟩
      · exact absurd e h5
      · rw [sgm_some w (by omega) h1 (by omega) h3 h4 (show im2 tt n fh im x = nI u by rw [im2_f hF, e]), e]
        exact Or.inr ⟨u, hu, rfl, rfl⟩
    · have e : sgm tt n fh (im2 tt n fh im) (loF fh + v) = none := Classical.byContradiction (fun hc => c (sgm_dom.mp hc))
      rw [e]
      refine Or.inl ⟨?_, rfl⟩
      rcases iB v hv with b | ⟨x, b1, b2, b3, b4⟩
      · exact b
      · refine absurd ((hlf _).mpr ⟨?_, x, b1, b2, b3, b4⟩) c
        rcases iA x b1 with e2 | ⟨-, hF, -⟩
        · exact absurd e2 b4
        · obtain ⟨i, hi1, hi2⟩ := hF
          have hlo : 30 ≤ loF fh + v := by unfold loF; cases fh <;> simp <;> omega
          rw [leaf_std w (by omega) b3 hlo hi2] at hi1
          exact hi1
theorem qm_L27 (qt : QTb tt n Q_all Q_kinds Q_which Q_firsts Q_seconds Q_thirds Q_nexts Q_heads) (x1 x2 x3 : Int32) (bd ws wf : Nat → Int32) : ∀ d, d ≤ 100 → ∀ fuel, d < fuel → ∀ im : Nat → Int32, ∃ im', f_Q_matches_L27 Q_kinds Q_which Q_firsts Q_seconds Q_thirds Q_variables Q_holes Q_places fuel im bd ws wf x1 x2 x3 (nI (100 - d)) =
      f_Q_matches_L65 Q_kinds Q_which Q_firsts Q_seconds Q_thirds Q_variables Q_holes Q_places FU im' bd (upd ws 0 x1) (upd wf 0 x2) x3 1 ∧ (∀ x, x < 100 → 100 - d ≤ x → im' x = -1) ∧ (∀ x, x < 100 - d → im' x = im x) := by
  generalize hFU : FU = F
  intro d
  induction d with
  | zero =>
    intro _ fuel hf im
    obtain ⟨f, rfl⟩ : ∃ f, fuel = f + 1 := ⟨fuel - 1, by omega⟩
    refine ⟨im, ?_, fun x h1 h2 => by omega, fun x _ => rfl⟩
    rw [f_Q_matches_L27, if_pos (show (100 : Int32) ≤ nI (100 - 0) by decide), hFU]
    have h0 : ixb (0 : Int32) 400 = true := by decide
    have h1 : (0 : Int32).toNatClampNeg = 0 := by decide
    rw [gd_t h0, nmE, gd_t h0, nmE, h1]
  | succ d ih =>
    intro hd fuel hf im
    obtain ⟨f, rfl⟩ : ∃ f, fuel = f + 1 := ⟨fuel - 1, by omega⟩
    obtain ⟨im', h1, h2, h3⟩ := ih (by omega) f (by omega) (upd im (100 - (d + 1)) (-1))
    refine ⟨im', ?_, fun x h4 h5 => ?_, fun x h4 => ?_⟩
    · rw [f_Q_matches_L27, if_neg (show ¬ (100 : Int32) ≤ nI (100 - (d + 1)) from (nI_ge (by omega) (by omega) : ¬ nI 100 ≤ _)), gd_t (ixb_t (by omega) (by omega)), nmE, nmE, nI_clamp (by omega), nI_1, show 100 - (d + 1) + 1 = 100 - d by omega]
      exact h1
    · by_cases e : x = 100 - (d + 1)
      · rw [h3 x (by omega), e, up_s]
      · exact h2 x h4 (by omega)
    · rw [h3 x (by omega), up_n (by omega)]
theorem qm_L3 (x1 x2 x3 : Int32) (im ws wf : Nat → Int32) : ∀ d, d ≤ 8 → ∀ fuel, d < fuel → ∀ bd : Nat → Int32, ∃ bd', f_Q_matches_L3 Q_kinds Q_which Q_firsts Q_seconds Q_thirds Q_variables Q_holes Q_places fuel im bd ws wf x1 x2 x3 (nI (8 - d)) =
      f_Q_matches_L27 Q_kinds Q_which Q_firsts Q_seconds Q_thirds Q_variables Q_holes Q_places FU im bd' ws wf x1 x2 x3 0 ∧ (∀ x, x < 8 → 8 - d ≤ x → bd' x = -1) ∧ (∀ x, x < 8 - d → bd' x = bd x) := by
  generalize hFU : FU = F
  intro d
  induction d with
  | zero =>
    intro _ fuel hf bd
    obtain ⟨f, rfl⟩ : ∃ f, fuel = f + 1 := ⟨fuel - 1, by omega⟩
    refine ⟨bd, ?_, fun x h1 h2 => by omega, fun x _ => rfl⟩
    rw [f_Q_matches_L3, if_pos (show (8 : Int32) ≤ nI (8 - 0) by decide), hFU]
  | succ d ih =>
    intro hd fuel hf bd
    obtain ⟨f, rfl⟩ : ∃ f, fuel = f + 1 := ⟨fuel - 1, by omega⟩
    obtain ⟨bd', h1, h2, h3⟩ := ih (by omega) f (by omega) (upd bd (8 - (d + 1)) (-1))
    refine ⟨bd', ?_, fun x h4 h5 => ?_, fun x h4 => ?_⟩
    · rw [f_Q_matches_L3, if_neg (show ¬ (8 : Int32) ≤ nI (8 - (d + 1)) from (nI_ge (by omega) (by omega) : ¬ nI 8 ≤ _)), gd_t (ixb_t (by omega) (by omega)), nmE, nmE, nI_clamp (by omega), nI_1, show 8 - (d + 1) + 1 = 8 - d by omega]
      exact h1
    · by_cases e : x = 8 - (d + 1)
      · rw [h3 x (by omega), e, up_s]
      · exact h2 x h4 (by omega)
    · rw [h3 x (by omega), up_n (by omega)]
theorem qmatches_eq (w : WF tt n ar) (hn0 : n0 ≤ n) (h100 : n0 ≤ 100) (qt : QTb tt n Q_all Q_kinds Q_which Q_firsts Q_seconds Q_thirds Q_nexts Q_heads) (hq : QK tt n0 sz Q_names Q_variables Q_holes Q_sizes) (har : ∀ h, h < 30 → Q_places h = ar h) (fh : Bool) {p0 t0 : Nat} (hp0 : p0 < n0) (ht0 : t0 < n) (Q_image Q_bound Q_waits Q_waitsFor : Nat → Int32) :
    (∃ im bd ws wf σ, f_Q_matches Q_kinds Q_which Q_firsts Q_seconds Q_thirds Q_variables Q_holes Q_places Q_image Q_bound Q_waits Q_waitsFor (nI p0) (nI t0) (zI fh) = some (1, im, bd, ws, wf) ∧ Mt fh σ (tt p0) (tt t0) ∧ ∀ v, v < 8 → rf tt n (bd v) (oT (σ (loF fh + v)))) ∨
    (∃ im bd ws wf, f_Q_matches Q_kinds Q_which Q_firsts Q_seconds Q_thirds Q_variables Q_holes Q_places Q_image Q_bound Q_waits Q_waitsFor (nI p0) (nI t0) (zI fh) = some (0, im, bd, ws, wf) ∧ ∀ σ, ¬ Mt fh σ (tt p0) (tt t0)) := by
  have hn := qt.2.1
  obtain ⟨bd1, l1, l2, -⟩ := qm_L3 (Q_kinds := Q_kinds) (Q_which := Q_which) (Q_firsts := Q_firsts) (Q_seconds := Q_seconds) (Q_thirds := Q_thirds) (Q_variables := Q_variables) (Q_holes := Q_holes) (Q_places := Q_places) (nI p0) (nI t0) (zI fh) Q_image Q_waits Q_waitsFor 8 (by omega) FU (by unfold FU; omega) Q_bound
  obtain ⟨im1, k1, k2, -⟩ := qm_L27 (Q_variables := Q_variables) (Q_holes := Q_holes) (Q_places := Q_places) qt (nI p0) (nI t0) (zI fh) bd1 Q_waits Q_waitsFor 100 (by omega) FU (by unfold FU; omega) Q_image
  have e8 : nI (8 - 8) = 0 := by decide
  have e100 : nI (100 - 100) = 0 := by decide
  rw [e8] at l1
  rw [e100] at k1
  have hI : QI tt n n0 fh p0 t0 im1 bd1 (upd Q_waits 0 (nI p0)) (upd Q_waitsFor 0 (nI t0)) 1 := by
    refine ⟨fun x hx => Or.inl (k2 x hx (by omega)), fun v hv => Or.inl (l2 v hv (by omega)), fun x v hx _ _ h => absurd (k2 x hx (by omega)) h, fun i hi => ?_, fun x u hx hu h => ?_, ?_⟩
    · rw [show i = 0 by omega, up_s, up_s]
      exact ⟨p0, t0, hp0, ht0, rfl, rfl, fun h hh => hh⟩
    · rw [k2 x hx (by omega)] at h
      exact absurd h.symm (nI_nm1 (by omega))
    · exact Or.inr (Or.inr ⟨0, by omega, up_s _ _ _, up_s _ _ _⟩)
  obtain ⟨im', bd', ws', wf', h⟩ := qm_loop (fh := fh) w hn0 h100 qt hq har hp0 ht0 401 FU (by unfold FU; omega) im1 bd1 _ _ 1 hI (by have := cn_le im1; omega) (by have := cn_le im1; omega)
  have e1 : nI 1 = 1 := by decide
  rw [e1] at h
  unfold f_Q_matches
  rw [l1, k1]
  rcases h with ⟨a1, a2⟩ | ⟨a1, a2⟩
  · obtain ⟨σ, s1, s2⟩ := qm_end w hn0 h100 hn hp0 ht0 a2
    exact Or.inl ⟨im', bd', ws', wf', σ, a1, s1, s2⟩
  · refine Or.inr ⟨im', bd', ws', wf', a1, fun σ hσ => a2 σ (fun h hh => ((hσ.2 h).mp hh).1) ⟨fun x hx u hu e => ?_, fun i p t hi hp ht ep et => ?_⟩⟩
    · rw [k2 x hx (by omega)] at e
      exact absurd e.symm (nI_nm1 (by omega))
    · rw [show i = 0 by omega, up_s] at ep et
      rw [← nI_inj (by omega) (by omega) ep, ← nI_inj (by omega) (by omega) et]
      exact hσ.1.symm
end
