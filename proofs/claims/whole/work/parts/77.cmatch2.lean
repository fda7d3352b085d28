def lfx (tt : Nat → Tm) (n : Nat) (fh : Bool) (im : Nat → Int32) (h : Nat) : Prop := ∃ x, x < 100 ∧ x < n ∧ tt x [] = h + 1 ∧ fre fh h ∧ im x ≠ -1
noncomputable def sgm (tt : Nat → Tm) (n : Nat) (fh : Bool) (im : Nat → Int32) (h : Nat) : Option Tm := @dite _ (lfx tt n fh im h) (Classical.propDecidable _) (fun e => some (tt (im (Classical.choose e)).toNatClampNeg)) (fun _ => none)
def oT : Option Tm → Tm
  | none => nilT
  | some U => U
/-- the row of images is that of a match -/
def IMG (tt : Nat → Tm) (n : Nat) (fh : Bool) (σ : Nat → Option Tm) (im : Nat → Int32) : Prop :=
  ivA n im ∧ ivS tt n σ im ∧ (∀ x h, x < 100 → x < n → tt x [] = h + 1 → fre fh h → (im x = -1 ↔ σ h = none))
section
variable {tt : Nat → Tm} {n N : Nat} {ar : Nat → Int32} {sz : Nat → Nat} {T_count : Int32} {T_heads T_places T_olders T_sizes : Nat → Int32} {T_withins : Nat → Int64} {T_newest M_images : Nat → Int32} {fh : Bool} {im : Nat → Int32}
theorem sgm_some (w : WF tt n ar) {x h u : Nat} (hu : u < 2 ^ 31) (h1 : x < 100) (h2 : x < n) (h3 : tt x [] = h + 1) (h4 : fre fh h) (h5 : im x = nI u) : sgm tt n fh im h = some (tt u) := by
  have e : lfx tt n fh im h := ⟨x, h1, h2, h3, h4, by rw [h5]; exact nI_nm1 hu⟩
  unfold sgm
  rw [dif_pos e]
  obtain ⟨a1, a2, a3, a4, a5⟩ := Classical.choose_spec e
  rw [leaf_uni w a2 h2 a3 h3 (fre_lt h4).1, h5, nI_clamp hu]
theorem sgm_dom {h : Nat} : sgm tt n fh im h ≠ none ↔ lfx tt n fh im h := by
  unfold sgm
  by_cases e : lfx tt n fh im h
  · rw [dif_pos e]; simp [e]
  · rw [dif_neg e]; simp [e]
theorem std_at (w : WF tt n ar) {h : Nat} : ∀ p, p < n → std (tt p) h → ∃ x, x ≤ p ∧ tt x [] = h + 1 := by
  intro p
  induction p using Nat.strongRecOn with
  | ind p ih =>
    intro hp hs
    rcases std_or hs with e | ⟨k, e⟩
    · exact ⟨p, Nat.le_refl p, e⟩
    · rcases w.2.2 p hp k with e0 | ⟨v, hv, ev⟩
      · rw [e0] at e; exact absurd e (std_nil h)
      · rw [← ev] at e
        obtain ⟨x, h1, h2⟩ := ih v hv (by omega) e
        exact ⟨x, by omega, h2⟩
theorem clo_sub (w : WF tt n ar) (hn : n ≤ 101100) (hA : ivA n im) (hcl : ∀ s u, s < 100 → u < n → im s = nI u → clo tt n fh s u im) : ivS tt n (sgm tt n fh im) im := by
  intro s
  induction s using Nat.strongRecOn with
  | ind s ih =>
    intro hs u hu e
    have hsn : s < n := by
      rcases hA s hs with h | ⟨h, -⟩
      · exact absurd (h.symm.trans e).symm (nI_nm1 (by omega))
      · exact h
    have hσ : ∀ h, sgm tt n fh im h ≠ none → fre fh h := fun h hh => by
      obtain ⟨x, -, -, -, h4, -⟩ := sgm_dom.mp hh
      exact h4
    obtain ⟨c1, c2⟩ := hcl s u hs hu e
    obtain ⟨g, hg, eg, -, -⟩ := w.2.1 s hsn
    by_cases hF : hasF fh (tt s)
    · by_cases hg30 : g < 30
      · obtain ⟨d1, d2⟩ := c2 hF g hg30 eg
        have hr : rtS (sgm tt n fh im) (tt s []) = none := by rw [eg]; exact rtS_lo hσ (fun hf => by have := fre_lt hf; omega)
        refine Tm_ext (by rw [sub_root hr, d1, eg]) (fun k => ?_)
        rw [sub_ch hr]
        by_cases hk : chT k (tt s) = nilT
        · rw [hk, sub_nil]
          exact (arity_eq w hsn hu eg d1 k).mp hk
        · obtain ⟨c, d, e1, e2, e3, e4, e5⟩ := d2 k hk
          rw [← e3, ← e4]
          exact ih c e1 (by omega) d e2 e5
      · obtain ⟨i, hi, hi2⟩ := hF
        have : i = g := leaf_std w hsn eg (by omega) hi2
        rw [this] at hi
        exact (sub_some (by rw [eg]; exact sgm_some w (by omega) hs hsn eg hi e)).symm
    · rw [← c1 hF, sub_id (fun g3 hg3 => rtS_lo hσ (fun hf => hF ⟨g3, hf, hg3⟩))]
theorem clo_dom (w : WF tt n ar) (hn : n ≤ 101100) (hA : ivA n im) (hcl : ∀ s u, s < 100 → u < n → im s = nI u → clo tt n fh s u im) {h : Nat} (hf : fre fh h) : ∀ s, s < 100 → im s ≠ -1 → std (tt s) h → sgm tt n fh im h ≠ none := by
  intro s
  induction s using Nat.strongRecOn with
  | ind s ih =>
    intro hs hne hst
    rcases hA s hs with e | ⟨hsn, u, hu, e⟩
    · exact absurd e hne
    · obtain ⟨c1, c2⟩ := hcl s u hs hu e
      obtain ⟨g, hg, eg, -, -⟩ := w.2.1 s hsn
      rcases std_or hst with e1 | ⟨k, e1⟩
      · exact sgm_dom.mpr ⟨s, hs, hsn, e1, hf, hne⟩
      · have hg30 : g < 30 := by
          apply Classical.byContradiction
          intro hc
          rw [leaf_nil w hsn eg (by omega) k] at e1
          exact std_nil h e1
        obtain ⟨d1, d2⟩ := c2 ⟨h, hf, hst⟩ g hg30 eg
        obtain ⟨c, d, f1, f2, f3, f4, f5⟩ := d2 k (fun e2 => by rw [e2] at e1; exact std_nil h e1)
        rw [← f3] at e1
        exact ih c f1 (by omega) (by rw [f5]; exact nI_nm1 (by omega)) e1
theorem clo_img (w : WF tt n ar) (hn : n ≤ 101100) (hA : ivA n im) (hcl : ∀ s u, s < 100 → u < n → im s = nI u → clo tt n fh s u im) : IMG tt n fh (sgm tt n fh im) im := by
  refine ⟨hA, clo_sub w hn hA hcl, fun x h h1 h2 h3 h4 => ⟨fun e => ?_, fun e => ?_⟩⟩
  · apply Classical.byContradiction
    intro hc
    obtain ⟨y, a1, a2, a3, a4, a5⟩ := sgm_dom.mp hc
    rw [leaf_uni w a2 h2 a3 h3 (fre_lt h4).1] at a5
    exact a5 e
  · apply Classical.byContradiction
    intro hc
    exact sgm_dom.mpr ⟨x, h1, h2, h3, h4, hc⟩ e
theorem matches_eq (w : WF tt n ar) (ct : CT tt n N sz T_count T_heads T_places T_olders T_sizes T_withins T_newest) (fh : Bool) {p t : Nat} (hp : p < n) (hp100 : p < 100) (ht : t < n) (M_images : Nat → Int32) :
    (∃ im σ, f_M_matches T_count N T_heads (3*N) T_places N T_withins M_images (nI p) (nI t) (bitsOf fh) = some (1, im) ∧ Mt fh σ (tt p) (tt t) ∧ IMG tt n fh σ im) ∨
    (∃ im, f_M_matches T_count N T_heads (3*N) T_places N T_withins M_images (nI p) (nI t) (bitsOf fh) = some (0, im) ∧ ∀ σ, ¬ Mt fh σ (tt p) (tt t)) := by
  have hN := ct.2.2.2.1
  have hnN := ct.2.1
  obtain ⟨g, hg, eg, -, -⟩ := w.2.1 p hp
  obtain ⟨g', hg', eg', -, -⟩ := w.2.1 t ht
  have main : (∃ im σ, f_M_matches_B32 T_count N T_heads (3*N) T_places N T_withins M_images (nI p) (nI t) (bitsOf fh) = some (1, im) ∧ Mt fh σ (tt p) (tt t) ∧ IMG tt n fh σ im) ∨ (∃ im, f_M_matches_B32 T_count N T_heads (3*N) T_places N T_withins M_images (nI p) (nI t) (bitsOf fh) = some (0, im) ∧ ∀ σ, ¬ Mt fh σ (tt p) (tt t)) := by
    obtain ⟨A, hf, hA⟩ := fill_eq M_images
    have hA1 : ivA n (upd A p (nI t)) := by
      intro x hx
      by_cases e : x = p
      · rw [e, up_s]; exact Or.inr ⟨hp, t, ht, rfl⟩
      · rw [up_n e]; exact Or.inl (hA x hx)
    have hS1 : ∀ σ, Mt fh σ (tt p) (tt t) → ivS tt n σ (upd A p (nI t)) := by
      intro σ hσ x hx u hu e
      by_cases e1 : x = p
      · rw [e1, up_s] at e
        rw [e1, hσ.1, nI_inj (by omega) (by omega) e]
      · rw [up_n e1, hA x hx] at e
        exact absurd e.symm (nI_nm1 (by omega))
    obtain ⟨im, h⟩ := settle_loop (fh := fh) w ct 100 (by omega) FU (by unfold FU; omega) _ hA1
    rw [show (nI 100 - 1 : Int32) = 99 by decide] at h
    unfold f_M_matches_B32 f_M_settle
    rw [hf, bd_s, pair_new hp100 (by omega) (hA p hp100), bd_s]
    simp only [show ¬ ((1 : Int32) = 0) by decide, if_false]
    rcases h with ⟨a1, a2, a3, a4, a5, a6, a7⟩ | ⟨a1, a2⟩
    · have himg := clo_img w (by omega) a2 (fun s u h1 h2 h3 => a6 s u h1 h2 h3)
      have hpe : im p = nI t := by rw [a3 p (by rw [up_s]; exact nI_nm1 (by omega)), up_s]
      refine Or.inl ⟨im, _, ?_, ⟨(himg.2.1 p hp100 t ht hpe).symm, fun h => ⟨fun hne => ?_, fun hh => ?_⟩⟩, himg⟩
      · rw [a1, bd_s]
        simp only [show ¬ ((1 : Int32) = 0) by decide, if_false]
      · obtain ⟨x, b1, b2, b3, b4, b5⟩ := sgm_dom.mp hne
        refine ⟨b4, ?_⟩
        have := a5 (fun s => ∀ g, std (tt s) g → std (tt p) g) (fun s c k _ _ h1 h2 g hg => h1 g (by rw [h2] at hg; exact std_ch hg)) (fun y hy hy2 g hg => by
          by_cases e : y = p
          · rw [e] at hg; exact hg
          · rw [up_n e, hA y hy] at hy2; exact absurd rfl hy2) x b1 b5
        exact this h ⟨[], b3⟩
      · exact clo_dom w (by omega) a2 (fun s u h1 h2 h3 => a6 s u h1 h2 h3) hh.1 p hp100 (by rw [hpe]; exact nI_nm1 (by omega)) hh.2
    · refine Or.inr ⟨im, ?_, fun σ hσ => a2 σ (fun h hh => ((hσ.2 h).mp hh).1) (hS1 σ hσ)⟩
      rw [a1, bd_s]
      simp only [if_true]
  unfold f_M_matches
  rw [head_t ct hp eg, bd_s]
  by_cases c : 30 ≤ g
  · rw [if_pos (show (30 : Int32) ≤ nI g from ((nI_leI (by omega) (by omega)).mpr c : nI 30 ≤ _))]
    exact main
  · rw [if_neg (show ¬ (30 : Int32) ≤ nI g from (nI_ge (by omega) (by omega) : ¬ nI 30 ≤ _)), head_t ct ht eg', bd_s]
    by_cases e : g = g'
    · rw [if_pos (by rw [e])]
      exact main
    · rw [if_neg (fun e2 => e (nI_inj (by omega) (by omega) e2))]
      refine Or.inr ⟨M_images, rfl, fun σ hσ => ?_⟩
      have h2 : sub σ (tt p) [] = tt p [] := sub_root (by rw [eg]; exact rtS_lo (fun h hh => ((hσ.2 h).mp hh).1) (fun hf => by have := fre_lt hf; omega))
      rw [hσ.1, eg, eg'] at h2
      omega
theorem imageOfLeaf_eq (w : WF tt n ar) (ct : CT tt n N sz T_count T_heads T_places T_olders T_sizes T_withins T_newest) (hn : n ≤ 100) {σ : Nat → Option Tm} {p h : Nat} {T : Tm} (hp : p < n) (hm : Mt fh σ (tt p) T) (hi : IMG tt n fh σ M_images) (hf : fre fh h) :
    ∃ r, f_M_imageOfLeaf T_count N T_heads (3*N) T_places N T_olders T_newest M_images (nI h) = some r ∧ rf tt n r (oT (σ h)) := by
  have hN := ct.2.2.2.1
  have hnN := ct.2.1
  have hh := fre_lt hf
  have r0 : rf tt n (-1) nilT := Or.inl ⟨rfl, rfl⟩
  unfold f_M_imageOfLeaf f_T_seekLeaf
  rw [bucket_eq, bd_s]
  by_cases c : ∃ u, u < n ∧ tt u = mkT h (fun _ => nilT)
  · obtain ⟨u, hu, eu⟩ := c
    rw [seek_in (C := fun _ => nilT) w ct (by omega) r0 r0 r0 hu eu]
    simp only [bd_s]
    unfold f_M_image
    rw [if_neg (nI_pos (by omega)), if_neg (show ¬ (100 : Int32) ≤ nI u from (nI_ge (by omega) (by omega) : ¬ nI 100 ≤ nI u))]
    simp (disch := omega) only [ixb_t, gd_tt, nI_clamp, bd_s]
    refine ⟨_, rfl, ?_⟩
    have hr : tt u [] = h + 1 := by rw [eu]; rfl
    rcases hi.1 u (by omega) with e | ⟨-, v, hv, e⟩
    · rw [(hi.2.2 u h (by omega) hu hr hf).mp e, e]
      exact r0
    · have hs : σ h ≠ none := fun e2 => by
        have := (hi.2.2 u h (by omega) hu hr hf).mpr e2
        rw [this] at e
        exact nI_nm1 (by omega) e.symm
      cases es : σ h with
      | none => exact absurd es hs
      | some U =>
        refine Or.inr ⟨v, hv, e, ?_⟩
        rw [hi.2.1 u (by omega) v hv e]
        exact sub_some (by rw [hr]; exact es)
  · rw [seek_out (C := fun _ => nilT) w ct (by omega) r0 r0 r0 (fun u hu e => c ⟨u, hu, e⟩)]
    simp only [bd_s]
    unfold f_M_image
    rw [if_pos m1_lt]
    refine ⟨_, rfl, ?_⟩
    cases es : σ h with
    | none => exact r0
    | some U =>
      obtain ⟨-, hst⟩ := (hm.2 h).mp (by rw [es]; simp)
      obtain ⟨x, hx, ex⟩ := std_at w p hp hst
      refine absurd ⟨x, by omega, ?_⟩ c
      exact Tm_ext ex (fun k => by rw [leaf_nil w (by omega) ex hh.1 k]; rfl)
end
