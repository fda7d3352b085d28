def covT (th : Nat → Int32) (T : Tm) : Prop := ∀ h, 30 ≤ h → std T h → h < 38 ∧ th (h - 30) ≠ -1
/-- alike under the rows -/
def okA (th bk : Nat → Int32) (A B : Tm) : Prop := B = sub (sgT th) A ∧ A = sub (sgT bk) B ∧ covT th A ∧ covT bk B
def extR (th th' : Nat → Int32) : Prop := ∀ v, v < 8 → th v ≠ -1 → th' v = th v
theorem extR.trans {a b c : Nat → Int32} (h1 : extR a b) (h2 : extR b c) : extR a c := fun v hv h => (h2 v hv (by rw [h1 v hv h]; exact h)).trans (h1 v hv h)
theorem sgT_ext {th th' : Nat → Int32} (hx : extR th th') {T : Tm} (hc : covT th T) : sub (sgT th') T = sub (sgT th) T := by
  refine sub_congr (fun g hg => ?_)
  by_cases c : 30 ≤ g ∧ g < 38
  · have h1 := (hc g c.1 hg).2
    unfold sgT
    rw [hx (g - 30) (by omega) h1]
  · rw [(sgT_sup th').lo c, (sgT_sup th).lo c]
theorem covT.ext {th th' : Nat → Int32} (hx : extR th th') {T : Tm} (hc : covT th T) : covT th' T := fun h h1 h2 => by
  obtain ⟨a, b⟩ := hc h h1 h2
  exact ⟨a, by rw [hx (h - 30) (by omega) b]; exact b⟩
theorem okA.ext {th th' bk bk' : Nat → Int32} (h1 : extR th th') (h2 : extR bk bk') {A B : Tm} (h : okA th bk A B) : okA th' bk' A B := by
  obtain ⟨a1, a2, a3, a4⟩ := h
  exact ⟨by rw [sgT_ext h1 a3]; exact a1, by rw [sgT_ext h2 a4]; exact a2, a3.ext h1, a4.ext h2⟩
section
variable {tt : Nat → Tm} {n : Nat} {ar : Nat → Int32} {sz : Nat → Nat} {Q_all : Int32} {Q_kinds Q_which Q_firsts Q_seconds Q_thirds Q_nexts Q_heads Q_names Q_variables Q_holes Q_sizes : Nat → Int32}
theorem al_end (w : WF tt n ar) (hn : n ≤ 100) {p0 t0 : Nat} (hp0 : p0 < n) (ht0 : t0 < n) {im ws wf th bk : Nat → Int32} (hI : AI tt n p0 t0 im ws wf th bk 0) : okA th bk (tt p0) (tt t0) := by
  obtain ⟨iA, -, iC, iT, iR⟩ := hI
  have key : ∀ x, x < 100 → ∀ u, u < n → im x = nI u → okA th bk (tt x) (tt u) := by
    intro x
    induction x using Nat.strongRecOn with
    | _ x ih =>
      intro hx u hu e
      have hxn : x < n := by
        rcases iA x hx with h | ⟨h, -⟩
        · exact absurd (h.symm.trans e).symm (nI_nm1 (by omega))
        · exact h
      obtain ⟨g, hg, eg, -, -⟩ := w.2.1 x hxn
      obtain ⟨a1, a2⟩ := iC x u hx hu e g eg
      by_cases c30 : g < 30
      · obtain ⟨b1, b2⟩ := a1 c30
        have hr1 : rtS (sgT th) (tt x []) = none := by rw [eg]; exact (sgT_sup th).lo (by omega)
        have hr2 : rtS (sgT bk) (tt u []) = none := by rw [b1]; exact (sgT_sup bk).lo (by omega)
        have hch : ∀ k, chT k (tt x) = nilT ∧ chT k (tt u) = nilT ∨ okA th bk (chT k (tt x)) (chT k (tt u)) := by
          intro k
          by_cases hk : chT k (tt x) = nilT
          · exact Or.inl ⟨hk, (arity_eq w hxn hu eg b1 k).mp hk⟩
          · obtain ⟨c, d, d1, d2, d3, d4, d5⟩ := b2 k hk
            rcases d5 with d5 | ⟨i, hi, -⟩
            · rw [← d3, ← d4]
              exact Or.inr (ih c d1 (by omega) d d2 d5)
            · omega
        refine ⟨Tm_ext (by rw [sub_root hr1, b1, eg]) (fun k => ?_), Tm_ext (by rw [sub_root hr2, b1, eg]) (fun k => ?_), fun h h1 h2 => ?_, fun h h1 h2 => ?_⟩
        · rw [sub_ch hr1]
          rcases hch k with ⟨e1, e2⟩ | e1
          · rw [e1, e2, sub_nil]
          · exact e1.1
        · rw [sub_ch hr2]
          rcases hch k with ⟨e1, e2⟩ | e1
          · rw [e1, e2, sub_nil]
          · exact e1.2.1
        · rcases std_or h2 with e1 | ⟨k, e1⟩
          · omega
          · rcases hch k with ⟨e2, -⟩ | e2
            · rw [e2] at e1; exact absurd e1 (std_nil h)
            · exact e2.2.2.1 h h1 e1
        · rcases std_or h2 with e1 | ⟨k, e1⟩
          · omega
          · rcases hch k with ⟨-, e2⟩ | e2
            · rw [e2] at e1; exact absurd e1 (std_nil h)
            · exact e2.2.2.2 h h1 e1
      · obtain ⟨g38, z, hz, ez, ev⟩ := a2 (by omega)
        have hbk : bk z = nI (g - 30) := by
          rcases iT.1 (g - 30) (by omega) with h | ⟨y, y1, y2, y3⟩
          · rw [h] at ev; exact absurd ev.symm (nI_nm1 (by omega))
          · have : y = z := nI_inj (by omega) (by omega) (y2.symm.trans ev)
            rw [← this]; exact y3
        have hlx : tt x = lfT g := leaf_lf w hxn eg (by omega)
        have hlu : tt u = lfT (30 + z) := leaf_lf w hu ez (by omega)
        have s1 := sgT_some (th := th) (v := g - 30) (by omega) hz ev
        have s2 := sgT_some (th := bk) (v := z) (w := g - 30) hz (by omega) hbk
        rw [show 30 + (g - 30) = g by omega] at s1 s2
        refine ⟨by rw [hlx, hlu, sub_lf s1], by rw [hlx, hlu, sub_lf s2], fun h h1 h2 => ?_, fun h h1 h2 => ?_⟩
        · have : h = g := leaf_std w hxn eg (by omega) h2
          rw [this]
          exact ⟨g38, by rw [ev]; exact nI_nm1 (by omega)⟩
        · have : h = 30 + z := leaf_std w hu ez (by omega) h2
          rw [this, show 30 + z - 30 = z by omega]
          exact ⟨by omega, by rw [hbk]; exact nI_nm1 (by omega)⟩
  rcases iR with h | ⟨i, hi, -⟩
  · exact key p0 (by omega) t0 ht0 h
  · omega
theorem al_fill (x1 x2 : Int32) (ws wf th bk : Nat → Int32) : ∀ d, d ≤ 100 → ∀ fuel, d < fuel → ∀ im : Nat → Int32, ∃ im', f_Q_areAlike_L2 Q_kinds Q_which Q_firsts Q_seconds Q_thirds fuel im ws wf th bk x1 x2 (nI (100 - d)) = f_Q_areAlike_L37 Q_kinds Q_which Q_firsts Q_seconds Q_thirds FU im' (upd ws 0 x1) (upd wf 0 x2) th bk 1 ∧ (∀ x, x < 100 → 100 - d ≤ x → im' x = -1) ∧ (∀ x, x < 100 - d → im' x = im x) := by
  generalize hFU : FU = G
  intro d
  induction d with
  | zero =>
    intro _ fuel hf im
    obtain ⟨f, rfl⟩ : ∃ f, fuel = f + 1 := ⟨fuel - 1, by omega⟩
    refine ⟨im, ?_, fun x h1 h2 => by omega, fun x _ => rfl⟩
    rw [f_Q_areAlike_L2, if_pos (show (100 : Int32) ≤ nI (100 - 0) by decide), gd_t (show ixb (0 : Int32) 400 = true by decide), nmE, gd_t (show ixb (0 : Int32) 400 = true by decide), nmE, clamp0, hFU]
  | succ d ih =>
    intro hd fuel hf im
    obtain ⟨f, rfl⟩ : ∃ f, fuel = f + 1 := ⟨fuel - 1, by omega⟩
    obtain ⟨im', h1, h2, h3⟩ := ih (by omega) f (by omega) (upd im (100 - (d + 1)) (-1))
    refine ⟨im', ?_, fun x h4 h5 => ?_, fun x h4 => ?_⟩
    · rw [f_Q_areAlike_L2, if_neg (show ¬ (100 : Int32) ≤ nI (100 - (d + 1)) from (nI_ge (by omega) (by omega) : ¬ nI 100 ≤ _)), gd_t (ixb_t (by omega) (by omega)), nmE, nmE, nI_clamp (by omega), nI_1, show 100 - (d + 1) + 1 = 100 - d by omega]
      exact h1
    · by_cases e : x = 100 - (d + 1)
      · rw [h3 x (by omega), e, up_s]
      · exact h2 x h4 (by omega)
    · rw [h3 x (by omega), up_n (by omega)]
theorem alike_eq (w : WF tt n ar) (hn : n ≤ 100) (qt : QTb tt n Q_all Q_kinds Q_which Q_firsts Q_seconds Q_thirds Q_nexts Q_heads) {p0 t0 : Nat} (hp0 : p0 < n) (ht0 : t0 < n) (hnh : ∀ h, std (tt p0) h → h < 38) (im ws wf : Nat → Int32) {th bk : Nat → Int32} (hO : thO th bk) :
    ∃ r im' ws' wf' th' bk', f_Q_areAlike Q_kinds Q_which Q_firsts Q_seconds Q_thirds im ws wf th bk (nI p0) (nI t0) = some (r, im', ws', wf', th', bk') ∧
      ((r = 1 ∧ thO th' bk' ∧ extR th th' ∧ extR bk bk' ∧ okA th' bk' (tt p0) (tt t0) ∧ ∀ σ τ, fulT σ → fulT τ → cpt th σ τ → tt t0 = sub σ (tt p0) → tt p0 = sub τ (tt t0) → cpt th' σ τ) ∨
       (r = 0 ∧ ∀ σ τ, fulT σ → fulT τ → cpt th σ τ → tt t0 = sub σ (tt p0) → ¬ tt p0 = sub τ (tt t0))) := by
  obtain ⟨im1, l1, l2, -⟩ := al_fill (Q_kinds := Q_kinds) (Q_which := Q_which) (Q_firsts := Q_firsts) (Q_seconds := Q_seconds) (Q_thirds := Q_thirds) (nI p0) (nI t0) ws wf th bk 100 (Nat.le_refl _) FU (by unfold FU; omega) im
  rw [Nat.sub_self, nI_0] at l1
  have l2' : ∀ x, x < 100 → im1 x = -1 := fun x hx => l2 x hx (by omega)
  have hI : AI tt n p0 t0 im1 (upd ws 0 (nI p0)) (upd wf 0 (nI t0)) th bk 1 := by
    refine ⟨fun x hx => Or.inl (l2' x hx), fun i hi => ?_, fun x u hx hu e => ?_, hO, Or.inr ⟨0, by omega, up_s _ _ _, up_s _ _ _⟩⟩
    · rw [show i = 0 by omega, up_s, up_s]
      exact ⟨p0, t0, hp0, ht0, rfl, rfl, fun _ h => h⟩
    · rw [l2' x hx] at e
      exact absurd e.symm (nI_nm1 (by omega))
  have hcn := cn_le im1
  obtain ⟨r, im2, ws2, wf2, th2, bk2, h1, h2⟩ := al_loop w hn qt hp0 ht0 hnh 401 FU (by unfold FU; omega) im1 _ _ th bk 1 hI (by omega) (by omega)
  unfold f_Q_areAlike
  rw [l1]
  have hiv : ∀ σ τ, cpt th σ τ → tt t0 = sub σ (tt p0) → tt p0 = sub τ (tt t0) → ivB tt n σ τ im1 (upd ws 0 (nI p0)) (upd wf 0 (nI t0)) th 1 := by
    intro σ τ c1 c2 c3
    refine ⟨c1, fun x u hx hu e => ?_, fun i p t hi hp ht e1 e2 => ?_⟩
    · rw [l2' x hx] at e
      exact absurd e.symm (nI_nm1 (by omega))
    · rw [show i = 0 by omega, up_s] at e1 e2
      rw [← nI_inj (by omega) (by omega) e1, ← nI_inj (by omega) (by omega) e2]
      exact ⟨c2, c3⟩
  refine ⟨r, im2, ws2, wf2, th2, bk2, h1, ?_⟩
  rcases h2 with ⟨a1, a2, a3, a3', a4⟩ | ⟨a1, a2⟩
  · exact Or.inl ⟨a1, a2.2.2.2.1, a3, a3', al_end w hn hp0 ht0 a2, fun σ τ hσ hτ c1 c2 c3 => a4 σ τ hσ hτ (hiv σ τ c1 c2 c3)⟩
  · exact Or.inr ⟨a1, fun σ τ hσ hτ c1 c2 c3 => a2 σ τ hσ hτ (hiv σ τ c1 c2 c3)⟩
end
