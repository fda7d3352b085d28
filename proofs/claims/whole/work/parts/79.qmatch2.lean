def dnQ (tt : Nat → Tm) (fh : Bool) (im ws wf : Nat → Int32) (k c d : Nat) : Prop := (¬ hasF fh (tt c) ∧ c = d) ∨ im c = nI d ∨ ∃ i, i < k ∧ ws i = nI c ∧ wf i = nI d
def QI (tt : Nat → Tm) (n n0 : Nat) (fh : Bool) (p0 t0 : Nat) (im bd ws wf : Nat → Int32) (k : Nat) : Prop :=
  (∀ x, x < 100 → im x = -1 ∨ (x < n0 ∧ hasF fh (tt x) ∧ (∀ h, std (tt x) h → std (tt p0) h) ∧ ∃ u, u < n ∧ im x = nI u)) ∧
  (∀ v, v < 8 → bd v = -1 ∨ ∃ x, x < 100 ∧ x < n0 ∧ tt x [] = loF fh + v + 1 ∧ im x ≠ -1) ∧
  (∀ x v, x < 100 → v < 8 → tt x [] = loF fh + v + 1 → im x ≠ -1 → bd v = im x) ∧
  (∀ i, i < k → ∃ p t, p < n0 ∧ t < n ∧ ws i = nI p ∧ wf i = nI t ∧ (∀ h, std (tt p) h → std (tt p0) h)) ∧
  (∀ x u, x < 100 → u < n → im x = nI u → ∀ g, g < 30 → tt x [] = g + 1 → tt u [] = g + 1 ∧ ∀ j : Fin 3, chT j (tt x) ≠ nilT → ∃ c d, c < x ∧ d < n ∧ tt c = chT j (tt x) ∧ tt d = chT j (tt u) ∧ dnQ tt fh im ws wf k c d) ∧
  dnQ tt fh im ws wf k p0 t0
def ivQ (tt : Nat → Tm) (n n0 : Nat) (σ : Nat → Option Tm) (im ws wf : Nat → Int32) (k : Nat) : Prop :=
  ivS tt n σ im ∧ ∀ i p t, i < k → p < n0 → t < n → ws i = nI p → wf i = nI t → tt t = sub σ (tt p)
section
variable {tt : Nat → Tm} {n n0 : Nat} {ar : Nat → Int32} {sz : Nat → Nat} {Q_all : Int32} {Q_kinds Q_which Q_firsts Q_seconds Q_thirds Q_nexts Q_heads Q_names Q_variables Q_holes Q_sizes Q_places Q_image Q_bound Q_waits Q_waitsFor : Nat → Int32} {fh : Bool}
theorem dnQ_pop {im ws wf : Nat → Int32} {k p t c d : Nat} (hp : p < 2 ^ 31) (ht : t < 2 ^ 31) (hc : c < 2 ^ 31) (hd : d < 2 ^ 31) (hw : ws k = nI p) (hf : wf k = nI t) {im' ws' wf' : Nat → Int32} {k' : Nat} (hk : k ≤ k') (hX : ivX im im') (hs : ∀ i, i < k → ws' i = ws i ∧ wf' i = wf i) (hdone : dnQ tt fh im' ws' wf' k' p t)
    (h : dnQ tt fh im ws wf (k + 1) c d) : dnQ tt fh im' ws' wf' k' c d := by
  rcases h with h | h | ⟨i, h1, h2, h3⟩
  · exact Or.inl h
  · exact Or.inr (Or.inl (by rw [hX c (by rw [h]; exact nI_nm1 hd), h]))
  · by_cases e : i = k
    · rw [e] at h2 h3
      have e1 : p = c := nI_inj hp hc (hw.symm.trans h2)
      have e2 : t = d := nI_inj ht hd (hf.symm.trans h3)
      rw [← e1, ← e2]
      exact hdone
    · obtain ⟨a, b⟩ := hs i (by omega)
      exact Or.inr (Or.inr ⟨i, by omega, by rw [a, h2], by rw [b, h3]⟩)
theorem qm_loop (w : WF tt n ar) (hn0 : n0 ≤ n) (h100 : n0 ≤ 100) (qt : QTb tt n Q_all Q_kinds Q_which Q_firsts Q_seconds Q_thirds Q_nexts Q_heads) (hq : QK tt n0 sz Q_names Q_variables Q_holes Q_sizes) (har : ∀ h, h < 30 → Q_places h = ar h) {p0 t0 : Nat} (hp0 : p0 < n0) (ht0 : t0 < n) :
    ∀ M, ∀ fuel, M < fuel → ∀ im bd ws wf k, QI tt n n0 fh p0 t0 im bd ws wf k → k + 4 * cn im ≤ M → k + 3 * cn im ≤ 301 →
    ∃ im' bd' ws' wf', (f_Q_matches_L65 Q_kinds Q_which Q_firsts Q_seconds Q_thirds Q_variables Q_holes Q_places fuel im bd ws wf (zI fh) (nI k) = some (1, im', bd', ws', wf') ∧ QI tt n n0 fh p0 t0 im' bd' ws' wf' 0) ∨
      (f_Q_matches_L65 Q_kinds Q_which Q_firsts Q_seconds Q_thirds Q_variables Q_holes Q_places fuel im bd ws wf (zI fh) (nI k) = some (0, im', bd', ws', wf') ∧ ∀ σ, (∀ h, σ h ≠ none → fre fh h) → ¬ ivQ tt n n0 σ im ws wf k) := by
  have hn := qt.2.1
  intro M
  induction M with
  | zero =>
    intro fuel hf im bd ws wf k hI hM h3
    obtain ⟨f, rfl⟩ : ∃ f, fuel = f + 1 := ⟨fuel - 1, by omega⟩
    have hk0 : k = 0 := by omega
    rw [hk0] at hI ⊢
    refine ⟨im, bd, ws, wf, Or.inl ⟨?_, hI⟩⟩
    rw [f_Q_matches_L65, if_pos (show nI 0 ≤ 0 by decide)]
  | succ M ih =>
    intro fuel hf im bd ws wf k hI hM h3
    obtain ⟨f, rfl⟩ : ∃ f, fuel = f + 1 := ⟨fuel - 1, by omega⟩
    cases k with
    | zero =>
      refine ⟨im, bd, ws, wf, Or.inl ⟨?_, hI⟩⟩
      rw [f_Q_matches_L65, if_pos (show nI 0 ≤ 0 by decide)]
    | succ k =>
      obtain ⟨iA, iB, iB2, iS, iC, iR⟩ := hI
      obtain ⟨p, t, hp, ht, ep, et, hstd⟩ := iS k (by omega)
      obtain ⟨g, hg, eg, hleaf, hari⟩ := w.2.1 p (by omega)
      obtain ⟨g', hg', eg', -, -⟩ := w.2.1 t ht
      obtain ⟨ek, ew⟩ := qt.2.2.2.1 p (by omega) g eg
      obtain ⟨ek', ew'⟩ := qt.2.2.2.1 t ht g' eg'
      have hpop : ∀ σ, ivQ tt n n0 σ im ws wf (k + 1) → tt t = sub σ (tt p) := fun σ hσ => hσ.2 k p t (by omega) hp ht ep et
      have hB : f_Q_matches_L65 Q_kinds Q_which Q_firsts Q_seconds Q_thirds Q_variables Q_holes Q_places (f + 1) im bd ws wf (zI fh) (nI (k + 1)) =
          f_Q_matches_B112 Q_kinds Q_which Q_firsts Q_seconds Q_thirds Q_variables Q_holes Q_places (f_Q_matches_L65 Q_kinds Q_which Q_firsts Q_seconds Q_thirds Q_variables Q_holes Q_places f) im bd ws wf (zI fh) (nI k) (nI p) (nI t) (if fh = true then Q_holes p else Q_variables p) := by
        rw [f_Q_matches_L65, if_neg (nI_nle (by omega) (by omega)), nmE, nI_m1]
        simp (disch := omega) only [ixb_t, gd_tt, nI_clamp, nmE]
        rw [ep, et]
        simp (disch := omega) only [ixb_t, gd_tt, nI_clamp, nmE]
        cases fh
        · rw [if_pos (show zI false = 0 from rfl), if_neg (by decide)]
        · rw [if_neg (show ¬ zI true = 0 by decide), if_pos rfl]
      rw [hB]
      unfold f_Q_matches_B112
      generalize hFU : FU = F
      -- a pop that leaves the row of images as it is
      have hplain : dnQ tt fh im ws wf k p t → QI tt n n0 fh p0 t0 im bd ws wf k := by
        intro hd
        refine ⟨iA, iB, iB2, fun i hi => iS i (by omega), fun x u h1 h2 h4 g2 h5 h6 => ?_, ?_⟩
        · obtain ⟨a1, a2⟩ := iC x u h1 h2 h4 g2 h5 h6
          refine ⟨a1, fun j hj => ?_⟩
          obtain ⟨c, d, b1, b2, b3, b4, b5⟩ := a2 j hj
          exact ⟨c, d, b1, b2, b3, b4, dnQ_pop (by omega) (by omega) (by omega) (by omega) ep et (Nat.le_refl k) (ivX.refl im) (fun i _ => ⟨rfl, rfl⟩) hd b5⟩
        · exact dnQ_pop (by omega) (by omega) (by omega) (by omega) ep et (Nat.le_refl k) (ivX.refl im) (fun i _ => ⟨rfl, rfl⟩) hd iR
      have hσpop : ∀ σ, ivQ tt n n0 σ im ws wf (k + 1) → ivQ tt n n0 σ im ws wf k := fun σ hσ => ⟨hσ.1, fun i p t hi => hσ.2 i p t (by omega)⟩
      by_cases hF : hasF fh (tt p)
      · rw [if_neg (fun e => (qfree hq hp).mp e hF)]
        simp (disch := omega) only [ixb_t, gd_tt]
        simp (disch := omega) only [nI_clamp, nmE]
        rcases iA p (by omega) with e | ⟨-, -, -, u, hu, e⟩
        · rw [if_pos e, ek, ek']
          have hXp : ivX im (upd im p (nI t)) := by
            intro x hx
            exact up_n (fun e2 => hx (by rw [e2, e]))
          have iA' : ∀ x, x < 100 → upd im p (nI t) x = -1 ∨ (x < n0 ∧ hasF fh (tt x) ∧ (∀ h, std (tt x) h → std (tt p0) h) ∧ ∃ u, u < n ∧ upd im p (nI t) x = nI u) := by
            intro x hx
            by_cases e2 : x = p
            · rw [e2, up_s]; exact Or.inr ⟨hp, hF, hstd, t, ht, rfl⟩
            · rw [up_n e2]; exact iA x hx
          have hcn := cn_upd (v := nI t) (by omega) e (nI_nm1 (show t < 2 ^ 31 by omega))
          have hivS : ∀ σ, ivQ tt n n0 σ im ws wf (k + 1) → ivS tt n σ (upd im p (nI t)) := by
            intro σ hσ x hx u hu e2
            by_cases e3 : x = p
            · rw [e3, up_s] at e2
              rw [e3, ← nI_inj (by omega) (by omega) e2]
              exact hpop σ hσ
            · rw [up_n e3] at e2
              exact hσ.1 x hx u hu e2
          by_cases c30 : g < 30
          · have kg : kd g = 0 := by unfold kd; rw [if_pos c30]
            have wg : wh g = g := by unfold wh; rw [if_pos c30]
            rw [kg, if_pos nI_0]
            have hgf : ∀ σ : Nat → Option Tm, (∀ h, σ h ≠ none → fre fh h) → rtS σ (tt p []) = none := fun σ hσ => by rw [eg]; exact rtS_lo hσ (fun hf => by have := fre_lt hf; omega)
            by_cases egg : g' = g
            · rw [egg, kg, if_pos nI_0, ew', ew, egg, if_pos rfl]
              obtain ⟨m, hm3, hm, hmn⟩ := hari c30
              obtain ⟨ws', wf', l1, l2, l3⟩ := push_loop (Q_variables := Q_variables) (Q_holes := Q_holes) (Q_places := Q_places) qt (show p < n by omega) ht c30 hm3 eg (by rw [har g c30]; exact hm) (f_Q_matches_L65 Q_kinds Q_which Q_firsts Q_seconds Q_thirds Q_variables Q_holes Q_places f) (upd im p (nI t)) bd (zI fh) m (Nat.le_refl m) F (by rw [← hFU]; unfold FU; omega) ws wf k (by omega)
              rw [Nat.sub_self, Nat.add_zero, nI_0] at l1
              rw [l1]
              -- the new pairs
              have hnew : ∀ j : Fin 3, chT j (tt p) ≠ nilT → ∃ c d, c < p ∧ d < t ∧ tt c = chT j (tt p) ∧ tt d = chT j (tt t) ∧ ws' (k + j.val) = nI c ∧ wf' (k + j.val) = nI d ∧ k + j.val < k + m := by
                intro j hj
                have hjm : j.val < m := Nat.lt_of_not_le (fun h => hj ((hmn j).mpr h))
                obtain ⟨r1, r2⟩ := l3 j (by omega) hjm
                rcases r1 with ⟨-, a⟩ | ⟨c, c1, c2, c3⟩
                · exact absurd a hj
                · rcases r2 with ⟨-, b⟩ | ⟨d, d1, d2, d3⟩
                  · exact absurd ((arity_eq w (by omega) ht eg (by rw [eg', egg]) j).mpr b) hj
                  · exact ⟨c, d, c1, d1, c3, d3, c2, d2, by omega⟩
              have hdp : dnQ tt fh (upd im p (nI t)) ws' wf' (k + m) p t := Or.inr (Or.inl (up_s _ _ _))
              have hst : ∀ i, i < k → ws' i = ws i ∧ wf' i = wf i := fun i hi => l2 i (by omega)
              have hI' : QI tt n n0 fh p0 t0 (upd im p (nI t)) bd ws' wf' (k + m) := by
                refine ⟨iA', fun v hv => ?_, fun x v hx hv h1 h2 => ?_, fun i hi => ?_, fun x u hx hu h1 g2 h2 h4 => ?_, ?_⟩
                · rcases iB v hv with b | ⟨x, b1, b2, b3, b4⟩
                  · exact Or.inl b
                  · exact Or.inr ⟨x, b1, b2, b3, by rw [hXp x b4]; exact b4⟩
                · by_cases e2 : x = p
                  · rw [e2, eg] at h1
                    unfold loF at h1
                    cases fh <;> simp at h1 <;> omega
                  · rw [up_n e2] at h2 ⊢
                    exact iB2 x v hx hv h1 h2
                · by_cases hik : i < k
                  · obtain ⟨a, b⟩ := hst i hik
                    rw [a, b]
                    exact iS i (by omega)
                  · have hj3 : i - k < 3 := by omega
                    have hne : chT ⟨i - k, hj3⟩ (tt p) ≠ nilT := fun e5 => by
                      have e6 : m ≤ i - k := (hmn ⟨i - k, hj3⟩).mp e5
                      omega
                    obtain ⟨c, d, c1, d1, c2, d2, c3, d3, -⟩ := hnew ⟨i - k, hj3⟩ hne
                    have e7 : k + (⟨i - k, hj3⟩ : Fin 3).val = i := by show k + (i - k) = i; omega
                    rw [e7] at c3 d3
                    exact ⟨c, d, by omega, by omega, c3, d3, fun h hh => hstd h (by rw [c2] at hh; exact std_ch hh)⟩
                · by_cases e2 : x = p
                  · rw [e2, up_s] at h1
                    have e3 : t = u := nI_inj (by omega) (by omega) h1
                    rw [e2, eg] at h4
                    rw [e2, ← e3]
                    refine ⟨by rw [eg', egg]; omega, fun j hj => ?_⟩
                    obtain ⟨c, d, c1, d1, c2, d2, c3, d3, c4⟩ := hnew j hj
                    exact ⟨c, d, c1, by omega, c2, d2, Or.inr (Or.inr ⟨k + j.val, c4, c3, d3⟩)⟩
                  · rw [up_n e2] at h1
                    obtain ⟨a1, a2⟩ := iC x u hx hu h1 g2 h2 h4
                    refine ⟨a1, fun j hj => ?_⟩
                    obtain ⟨c, d, b1, b2, b3, b4, b5⟩ := a2 j hj
                    exact ⟨c, d, b1, b2, b3, b4, dnQ_pop (by omega) (by omega) (by omega) (by omega) ep et (by omega) hXp hst hdp b5⟩
                · exact dnQ_pop (by omega) (by omega) (by omega) (by omega) ep et (by omega) hXp hst hdp iR
              obtain ⟨im1, bd1, ws1, wf1, h⟩ := ih f (by omega) (upd im p (nI t)) bd ws' wf' (k + m) hI' (by omega) (by omega)
              refine ⟨im1, bd1, ws1, wf1, ?_⟩
              rcases h with h | ⟨h1, h2⟩
              · exact Or.inl h
              · refine Or.inr ⟨h1, fun σ hσ hi => h2 σ hσ ⟨hivS σ hi, fun i p' t' h4 h5 h6 h7 h8 => ?_⟩⟩
                by_cases hik : i < k
                · obtain ⟨a, b⟩ := hst i hik
                  rw [a] at h7
                  rw [b] at h8
                  exact hi.2 i p' t' (by omega) h5 h6 h7 h8
                · have hj3 : i - k < 3 := by omega
                  have hne : chT ⟨i - k, hj3⟩ (tt p) ≠ nilT := fun e5 => by
                    have e6 : m ≤ i - k := (hmn ⟨i - k, hj3⟩).mp e5
                    omega
                  obtain ⟨c, d, c1, d1, c2, d2, c3, d3, -⟩ := hnew ⟨i - k, hj3⟩ hne
                  have e7 : k + (⟨i - k, hj3⟩ : Fin 3).val = i := by show k + (i - k) = i; omega
                  rw [e7] at c3 d3
                  have e8 : c = p' := nI_inj (by omega) (by omega) (c3.symm.trans h7)
                  have e9 : d = t' := nI_inj (by omega) (by omega) (d3.symm.trans h8)
                  rw [← e8, ← e9, c2, d2, hpop σ hi]
                  exact sub_ch (hgf σ hσ) _
            · -- another head
              have hno : ∀ σ : Nat → Option Tm, (∀ h, σ h ≠ none → fre fh h) → ¬ ivQ tt n n0 σ im ws wf (k + 1) := by
                intro σ hσ hi
                have h1 := hpop σ hi
                have h2 := sub_root (hgf σ hσ)
                rw [← h1, eg, eg'] at h2
                omega
              by_cases c30' : g' < 30
              · have kg' : kd g' = 0 := by unfold kd; rw [if_pos c30']
                have wg' : wh g' = g' := by unfold wh; rw [if_pos c30']
                rw [kg', if_pos nI_0, ew', ew, wg, wg', if_neg (fun e2 => egg (nI_inj (by omega) (by omega) e2))]
                exact ⟨im, bd, ws, wf, Or.inr ⟨rfl, hno⟩⟩
              · have kg' : ¬ nI (kd g') = 0 := by
                  have := kd_lt g'
                  refine nI_ne0 ?_ (by omega)
                  unfold kd
                  rw [if_neg c30']
                  split <;> omega
                rw [if_neg kg']
                exact ⟨im, bd, ws, wf, Or.inr ⟨rfl, hno⟩⟩
          · -- a leaf that gives way
            obtain ⟨i, hi1, hi2⟩ := hF
            have eig : i = g := leaf_std w (by omega) eg (by omega) hi2
            rw [eig] at hi1
            obtain ⟨f1, f2, f3⟩ := fre_wh hi1
            have := kd_lt g
            rw [if_neg (nI_ne0 (by omega) (by omega)), ew]
            simp (disch := omega) only [ixb_t, gd_tt, nI_clamp, nmE]
            have hdp : dnQ tt fh (upd im p (nI t)) ws wf k p t := Or.inr (Or.inl (up_s _ _ _))
            have hI' : QI tt n n0 fh p0 t0 (upd im p (nI t)) (upd bd (wh g) (nI t)) ws wf k := by
              refine ⟨iA', fun v hv => ?_, fun x v hx hv h1 h2 => ?_, fun i hi => iS i (by omega), fun x u hx hu h1 g2 h2 h4 => ?_, ?_⟩
              · by_cases ev : v = wh g
                · exact Or.inr ⟨p, by omega, hp, by rw [ev, ← f2]; exact eg, by rw [up_s]; exact nI_nm1 (by omega)⟩
                · rw [up_n ev]
                  rcases iB v hv with b | ⟨x, b1, b2, b3, b4⟩
                  · exact Or.inl b
                  · exact Or.inr ⟨x, b1, b2, b3, by rw [hXp x b4]; exact b4⟩
              · by_cases e2 : x = p
                · rw [e2, eg] at h1
                  rw [e2, up_s, show v = wh g by omega, up_s]
                · have h2' := h2
                  rw [up_n e2] at h2' ⊢
                  have ev : v ≠ wh g := by
                    intro ev
                    rw [ev, ← f2] at h1
                    rcases iA x hx with a | ⟨a, -⟩
                    · exact h2' a
                    · exact e2 (leaf_uni w (by omega) (by omega) h1 eg (by omega))
                  rw [up_n ev]
                  exact iB2 x v hx hv h1 h2'
              · by_cases e2 : x = p
                · rw [e2, eg] at h4
                  omega
                · rw [up_n e2] at h1
                  obtain ⟨a1, a2⟩ := iC x u hx hu h1 g2 h2 h4
                  refine ⟨a1, fun j hj => ?_⟩
                  obtain ⟨c, d, b1, b2, b3, b4, b5⟩ := a2 j hj
                  exact ⟨c, d, b1, b2, b3, b4, dnQ_pop (by omega) (by omega) (by omega) (by omega) ep et (Nat.le_refl k) hXp (fun i _ => ⟨rfl, rfl⟩) hdp b5⟩
              · exact dnQ_pop (by omega) (by omega) (by omega) (by omega) ep et (Nat.le_refl k) hXp (fun i _ => ⟨rfl, rfl⟩) hdp iR
            obtain ⟨im1, bd1, ws1, wf1, h⟩ := ih f (by omega) _ _ ws wf k hI' (by omega) (by omega)
            refine ⟨im1, bd1, ws1, wf1, ?_⟩
            rcases h with h | ⟨h1, h2⟩
            · exact Or.inl h
            · exact Or.inr ⟨h1, fun σ hσ hi => h2 σ hσ ⟨hivS σ hi, (hσpop σ hi).2⟩⟩
        · rw [if_neg (by rw [e]; exact nI_nm1 (by omega)), e]
          by_cases eut : u = t
          · rw [if_pos (by rw [eut])]
            obtain ⟨im1, bd1, ws1, wf1, h⟩ := ih f (by omega) im bd ws wf k (hplain (Or.inr (Or.inl (by rw [e, eut])))) (by omega) (by omega)
            refine ⟨im1, bd1, ws1, wf1, ?_⟩
            rcases h with h | ⟨h1, h2⟩
            · exact Or.inl h
            · exact Or.inr ⟨h1, fun σ hσ hi => h2 σ hσ (hσpop σ hi)⟩
          · rw [if_neg (fun e2 => eut (nI_inj (by omega) (by omega) e2))]
            refine ⟨im, bd, ws, wf, Or.inr ⟨rfl, fun σ hσ hi => ?_⟩⟩
            have h1 := hi.1 p (by omega) u hu e
            exact eut (w.1 u hu t ht (h1.trans (hpop σ hi).symm))
      · rw [if_pos ((qfree hq hp).mpr hF)]
        by_cases ept : p = t
        · rw [if_pos (by rw [ept])]
          obtain ⟨im1, bd1, ws1, wf1, h⟩ := ih f (by omega) im bd ws wf k (hplain (Or.inl ⟨hF, ept⟩)) (by omega) (by omega)
          refine ⟨im1, bd1, ws1, wf1, ?_⟩
          rcases h with h | ⟨h1, h2⟩
          · exact Or.inl h
          · exact Or.inr ⟨h1, fun σ hσ hi => h2 σ hσ (hσpop σ hi)⟩
        · rw [if_neg (fun e2 => ept (nI_inj (by omega) (by omega) e2))]
          refine ⟨im, bd, ws, wf, Or.inr ⟨rfl, fun σ hσ hi => ?_⟩⟩
          have h1 := hpop σ hi
          rw [sub_id (fun g3 hg3 => rtS_lo hσ (fun hf => hF ⟨g3, hf, hg3⟩))] at h1
          exact ept (w.1 p (by omega) t ht h1.symm)
end
