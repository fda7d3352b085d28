section
variable {tt : Nat → Tm} {n N m : Nat} {ar : Nat → Int32} {sz : Nat → Nat} {cc pc : Nat → Nat} {pp : Nat → Nat → Nat} {T_count : Int32} {T_heads T_places T_olders T_sizes : Nat → Int32} {T_withins : Nat → Int64} {T_newest : Nat → Int32} {Q_all Q_thrown : Int32} {Q_kinds Q_which Q_firsts Q_seconds Q_thirds Q_nexts Q_heads Q_names Q_variables Q_holes Q_sizes : Nat → Int32}
variable {S_count : Int32} {S_premises S_premiseCounts S_conclusions : Nat → Int32} {Q_statements : Int32} {Q_premises Q_counts Q_conclusions : Nat → Int32} {H_kind H_subject H_count : Int32} {H_statementRow H_firstRow H_secondRow : Nat → Int32} {Q_hitKind Q_hits : Int32} {Q_hitOf Q_hitOne Q_hitTwo Q_hitTerms : Nat → Int32} {O_out : Nat → Int64}
variable {Q_places : Nat → Int32}
variable {tt0 : Nat → Tm} {n0 kk : Nat} {od : Nat → Nat} {sz0 : Nat → Nat} {σ : Nat → Option Tm}
theorem shrink_loop {k : Nat} : ∀ d, ∀ fuel, d < fuel → ∀ Q_heads, k + d ≤ 101100 → chnQ (k + d) Q_kinds Q_which Q_firsts Q_seconds Q_thirds Q_nexts Q_heads →
    ∃ Q_heads', f_Q_shrink_L0 Q_kinds Q_which Q_firsts Q_seconds Q_thirds Q_nexts fuel (nI (k + d)) Q_heads (nI k) = some (nI k, Q_heads') ∧ chnQ k Q_kinds Q_which Q_firsts Q_seconds Q_thirds Q_nexts Q_heads' := by
  intro d
  induction d with
  | zero =>
    intro fuel hf Q_heads hm hch
    obtain ⟨f, rfl⟩ : ∃ f, fuel = f + 1 := ⟨fuel - 1, by omega⟩
    refine ⟨Q_heads, ?_, hch⟩
    rw [f_Q_shrink_L0, if_pos ((nI_leI (by omega) (by omega)).mpr (by omega))]
    rfl
  | succ d ih =>
    intro fuel hf Q_heads hm hch
    obtain ⟨f, rfl⟩ : ∃ f, fuel = f + 1 := ⟨fuel - 1, by omega⟩
    obtain ⟨j, hj, ej⟩ := hdQ_in (Q_kinds (k + d)) (Q_which (k + d)) (Q_firsts (k + d)) (Q_seconds (k + d)) (Q_thirds (k + d))
    have hhd : f_Q_head Q_kinds Q_which Q_firsts Q_seconds Q_thirds (nI (k + d)) = some (nI j) := by
      unfold f_Q_head
      rw [gd_t (ixb_t (by omega) (by omega)), gd_t (ixb_t (by omega) (by omega)), gd_t (ixb_t (by omega) (by omega)), gd_t (ixb_t (by omega) (by omega)), gd_t (ixb_t (by omega) (by omega)), nI_clamp (by omega), headOf_eq, bd_s, ej]
    rw [f_Q_shrink_L0, if_neg (nI_ge (by omega) (by omega)), show k + (d + 1) = (k + d) + 1 by omega, nI_pred, nmE, hhd, bd_s, gd_t (ixb_t (by omega) (by omega)), gd_t (ixb_t (by omega) (by omega)), nmE, nI_clamp (by omega), nI_clamp (by omega)]
    have hch1 : chnQ ((k + d) + 1) Q_kinds Q_which Q_firsts Q_seconds Q_thirds Q_nexts Q_heads := hch
    refine ih f (by omega) _ (by omega) ⟨fun b hb => ?_, fun t ht => hch1.2 t (by omega)⟩
    by_cases e : b = j
    · rw [e, up_s, hch1.2 (k + d) (by omega)]
      exact congrArg oI (lst_congr (fun u hu => by show decide (_ = hdQ _ _ _ _ _) = _; rw [ej]))
    · rw [up_n e, hch1.1 b hb, lst_succ, if_neg]
      simp only [decide_eq_true_eq]
      show ¬ hdQ _ _ _ _ _ = _
      rw [ej]
      exact fun e2 => e (nI_inj (by omega) (by omega) e2).symm
theorem shrink_eq (qt : QTb tt n Q_all Q_kinds Q_which Q_firsts Q_seconds Q_thirds Q_nexts Q_heads) {k : Nat} (hk : k ≤ n) : ∃ Q_heads', f_Q_shrink Q_all Q_kinds Q_which Q_firsts Q_seconds Q_thirds Q_nexts Q_heads (nI k) = some (nI k, Q_heads') ∧ QTb tt k (nI k) Q_kinds Q_which Q_firsts Q_seconds Q_thirds Q_nexts Q_heads' := by
  obtain ⟨h1, h2, h3, h4, h5⟩ := qt
  obtain ⟨d, rfl⟩ : ∃ d, n = k + d := ⟨n - k, by omega⟩
  obtain ⟨hd', l1, l2⟩ := shrink_loop (Q_kinds := Q_kinds) (Q_which := Q_which) (Q_firsts := Q_firsts) (Q_seconds := Q_seconds) (Q_thirds := Q_thirds) (Q_nexts := Q_nexts) d FU (by unfold FU; omega) Q_heads h2 h3
  refine ⟨hd', ?_, rfl, by omega, l2, fun t ht => h4 t (by omega), fun t ht => h5 t (by omega)⟩
  unfold f_Q_shrink
  rw [h1]
  exact l1
theorem QTb.congr {tt' : Nat → Tm} (qt : QTb tt n Q_all Q_kinds Q_which Q_firsts Q_seconds Q_thirds Q_nexts Q_heads) (h : ∀ u, u < n → tt' u = tt u) : QTb tt' n Q_all Q_kinds Q_which Q_firsts Q_seconds Q_thirds Q_nexts Q_heads := by
  obtain ⟨h1, h2, h3, h4, h5⟩ := qt
  refine ⟨h1, h2, h3, fun t ht g e => ?_, fun t ht => ?_⟩
  · rw [h t ht] at e; exact h4 t ht g e
  · rw [h t ht]
    obtain ⟨a, b, c⟩ := h5 t ht
    exact ⟨rf_congr (fun u hu => h u (by omega)) a, rf_congr (fun u hu => h u (by omega)) b, rf_congr (fun u hu => h u (by omega)) c⟩
theorem QK.congr {tt' : Nat → Tm} (hq : QK tt n sz Q_names Q_variables Q_holes Q_sizes) (h : ∀ u, u < n → tt' u = tt u) : QK tt' n sz Q_names Q_variables Q_holes Q_sizes := fun t ht => by
  rw [h t ht]; exact hq t ht
/-- what a variable becomes stands in the table -/
theorem sub_in (w : WF tt n ar) (hs : ∀ g, g < 30 → σ g = none) {h : Nat} {U : Tm} (e : σ h = some U) : ∀ p, p < n → ∀ t, t < n → tt t = sub σ (tt p) → std (tt p) h → ∃ u, u < n ∧ tt u = U := by
  intro p
  induction p using Nat.strongRecOn with
  | _ p ih =>
    intro hp t ht et hst
    obtain ⟨g, hg, eg, -, -⟩ := w.2.1 p hp
    by_cases c30 : 30 ≤ g
    · have e1 : h = g := leaf_std w hp eg c30 hst
      refine ⟨t, ht, ?_⟩
      rw [et]
      exact sub_some (by rw [eg, ← e1]; exact e)
    · have hr : rtS σ (tt p []) = none := by rw [eg]; exact hs g (by omega)
      rcases std_or hst with e1 | ⟨k, e1⟩
      · have : h = g := by omega
        rw [this, hs g (by omega)] at e; cases e
      · rcases w.2.2 p hp k with e2 | ⟨v, hv, ev⟩
        · rw [e2] at e1; exact absurd e1 (std_nil h)
        · have hne : chT k (tt p) ≠ nilT := by rw [← ev]; exact w.ne (by omega)
          have hgt : tt t [] = g + 1 := by rw [et, sub_root hr, eg]
          rcases w.2.2 t ht k with e3 | ⟨u, hu, eu⟩
          · exact absurd ((arity_eq w hp ht eg hgt k).mpr e3) hne
          · refine ih v hv (by omega) u (by omega) ?_ (by rw [ev]; exact e1)
            rw [eu, ev, et, sub_ch hr]
theorem mt_in2 (w : WF tt n ar) {p g : Nat} (hp : p < n) (hg : g < n) (hm : Mt false σ (tt p) (tt g)) : (∀ h, σ h ≠ none → 30 ≤ h ∧ h < 38) ∧ ∀ h U, σ h = some U → ∃ u, u < n ∧ tt u = U := by
  have h1 : ∀ h, σ h ≠ none → 30 ≤ h ∧ h < 38 := by
    intro h hne
    have := ((hm.2 h).mp hne).1
    unfold fre at this
    rw [if_neg (by decide)] at this
    exact this
  refine ⟨h1, fun h U e => ?_⟩
  refine sub_in w (fun g hg => ?_) e p hp g hg hm.1.symm ((hm.2 h).mp (by rw [e]; exact fun e => by cases e)).2
  cases hσ : σ g with
  | none => rfl
  | some V => have := h1 g (by rw [hσ]; exact fun e => by cases e); omega
theorem takes_loop (w0 : WF tt0 n0 ar) (hn0 : n0 ≤ 100) (S : RS tt0 n0 m cc pc pp S_count S_premises S_premiseCounts S_conclusions Q_statements Q_premises Q_counts Q_conclusions) {l s nb : Nat} (hl : l ≤ 1000) (hs : s < m) (hnb : nb ≤ 100900) (Q_places Q_goals Q_looked Q_order wf Q_bound : Nat → Int32) (tr : Int32) {kn kv kh ks : Nat → Int32} :
    ∀ d, d ≤ pc s → ∀ fuel, d < fuel → ∀ (tt : Nat → Tm) (n : Nat) (Q_all : Int32) (Q_kinds Q_which Q_firsts Q_seconds Q_thirds Q_nexts Q_heads im ws news : Nat → Int32),
    WF tt n ar → QTb tt n Q_all Q_kinds Q_which Q_firsts Q_seconds Q_thirds Q_nexts Q_heads → (∀ u, u < n0 → tt u = tt0 u) → n0 ≤ n → nb ≤ n → newI tt0 n0 σ nb (tt, n, fun _ => 0, true) → (∀ h, σ h ≠ none → 30 ≤ h ∧ h < 38) → (∀ h U, σ h = some U → ∃ u, u < n ∧ tt u = U) → (∀ v, v < 8 → rf tt n (Q_bound v) (oT (σ (30 + v)))) →
    (∀ i, i < pc s - d → ∃ u, u < n ∧ news (4 * l + i) = nI u ∧ tt u = sub σ (tt0 (pp s i))) →
    ∃ (tt' : Nat → Tm) (n' : Nat) (Q_all' : Int32) (Q_kinds' Q_which' Q_firsts' Q_seconds' Q_thirds' Q_nexts' Q_heads' im' ws' news' : Nat → Int32),
      f_Q_takes_L54 Q_places Q_conclusions Q_premises Q_counts Q_goals Q_looked Q_order fuel Q_all tr Q_kinds Q_which Q_firsts Q_seconds Q_thirds Q_nexts Q_heads kn kv kh ks im Q_bound ws wf news (nI l) (nI s) (nI (pc s - d)) = some (1, Q_all', tr, Q_kinds', Q_which', Q_firsts', Q_seconds', Q_thirds', Q_nexts', Q_heads', kn, kv, kh, ks, im', Q_bound, ws', wf, news') ∧
      WF tt' n' ar ∧ QTb tt' n' Q_all' Q_kinds' Q_which' Q_firsts' Q_seconds' Q_thirds' Q_nexts' Q_heads' ∧ n ≤ n' ∧ n' ≤ nb + n0 ∧ (∀ u, u < n → tt' u = tt u) ∧ (∀ i, i < pc s → ∃ u, u < n' ∧ news' (4 * l + i) = nI u ∧ tt' u = sub σ (tt0 (pp s i))) ∧ (∀ i, i < 4 * l → news' i = news i) := by
  have hm := S.2.2.1
  have h4 := (S.2.2.2 s hs).2.1.2.2
  have hcq := (S.2.2.2 s hs).2.1.2.1
  intro d
  induction d with
  | zero =>
    intro _ fuel hf tt n Q_all Q_kinds Q_which Q_firsts Q_seconds Q_thirds Q_nexts Q_heads im ws news w qt hx hn hnbn hnew hσ1 hσ2 hbd hnews
    obtain ⟨f, rfl⟩ : ∃ f, fuel = f + 1 := ⟨fuel - 1, by omega⟩
    refine ⟨tt, n, Q_all, Q_kinds, Q_which, Q_firsts, Q_seconds, Q_thirds, Q_nexts, Q_heads, im, ws, news, ?_, w, qt, Nat.le_refl _, new_le (s := (tt, n, fun _ => 0, true)) w hnew, fun _ _ => rfl, hnews, fun _ _ => rfl⟩
    rw [f_Q_takes_L54, gd_t (ixb_t (by omega) (by omega)), nI_clamp (by omega), hcq, if_pos ((nI_leI (by omega) (by omega)).mpr (by omega))]
  | succ d ih =>
    intro hd fuel hf tt n Q_all Q_kinds Q_which Q_firsts Q_seconds Q_thirds Q_nexts Q_heads im ws news w qt hx hn hnbn hnew hσ1 hσ2 hbd hnews
    obtain ⟨f, rfl⟩ : ∃ f, fuel = f + 1 := ⟨fuel - 1, by omega⟩
    obtain ⟨j, hj⟩ : ∃ j, j = pc s - (d + 1) := ⟨_, rfl⟩
    have hjc : j < pc s := by omega
    have hpn := ((S.2.2.2 s hs).2.2 j hjc).2.2.1
    rw [← hj] at hnews ⊢
    have hqr : QR true tt n (fun _ => 0) kn kv kh ks Q_all Q_kinds Q_which Q_firsts Q_seconds Q_thirds Q_nexts Q_heads kn kv kh ks := ⟨qt, fun _ => ⟨rfl, rfl, rfl, rfl⟩, fun h => absurd h (by decide)⟩
    obtain ⟨F, hF⟩ : ∃ F, insT (mdn true) σ (pp s j + 1) (tt (pp s j)) (tt, n, fun _ => 0, true) = F := ⟨_, rfl⟩
    obtain ⟨r, b1, b2, b3, b4, b5, b6, b7, b8, b9, b10, b11, b12, im2, ws2, y1, y2, y3, y4, -, y6⟩ := qinst (md := true) (Q_bound := Q_bound) w hqr hσ1 hσ2 hbd (show pp s j < n by omega) (by omega) im ws (F := F) hF
    have hnew' : newI tt n0 σ nb (tt, n, fun _ => 0, true) := fun v h1 h2 => by
      obtain ⟨x, h3, h4⟩ := hnew v h1 h2
      exact ⟨x, h3, by rw [hx x h3]; exact h4⟩
    have hnF : newI tt n0 σ nb F := by
      rw [← hF]
      exact newI_ins w (pp s j) (by omega) hpn (pp s j + 1) _ hnew'
    have hle := new_le y2 hnF
    have hok : F.2.2.2 = true := by
      cases e : F.2.2.2 with
      | true => rfl
      | false =>
        have := fail_ins (most := mdn true) (σ := σ) (pp s j + 1) (tt (pp s j)) (tt, n, fun _ => 0, true) rfl (by rw [hF]; exact e)
        rw [hF] at this
        have e2 : mdn true = 101100 := rfl
        omega
    rcases y6 with ⟨-, e⟩ | ⟨-, u, hu2, e1, e2⟩
    · rw [hok] at e; exact absurd e (by decide)
    obtain ⟨e9, e10, e11, e12⟩ := y3.2.1 rfl
    subst e9 e10 e11 e12
    have hFx : ∀ v, v < n → F.1 v = tt v := y4.2.1
    have hFn : n ≤ F.2.1 := y4.1
    have hnF0 : newI tt0 n0 σ nb (F.1, F.2.1, fun _ => 0, true) := fun v h1 h2 => by
      obtain ⟨x, h3, h5⟩ := hnF v h1 h2
      exact ⟨x, h3, by rw [← hx x h3]; exact h5⟩
    obtain ⟨tt', n', c1, c2, c3, c4, c5, c6, c7, c8, im3, ws3, nw3, g1, g2, g3, g4, g5, g6, g7, g8⟩ := ih (by omega) f (by omega) F.1 F.2.1 b1 b2 b3 b4 b5 b6 b7 b8 im2 ws2 (upd news (4 * l + j) r) y2 y3.1 (fun v hv => by rw [hFx v (by omega)]; exact hx v hv) (by omega) (by omega) hnF0 hσ1 (fun h U e => by
        obtain ⟨v, h1, h2⟩ := hσ2 h U e
        exact ⟨v, by omega, by rw [hFx v h1]; exact h2⟩) (fun v hv => rf_mono hFn (rf_congr hFx (hbd v hv))) (fun i hi => by
        by_cases c : i = j
        · rw [c, up_s]
          exact ⟨u, hu2, e1, by rw [e2, hx _ hpn]⟩
        · rw [up_n (by omega)]
          obtain ⟨v, h1, h2, h3⟩ := hnews i (by omega)
          exact ⟨v, by omega, h2, by rw [hFx v h1]; exact h3⟩)
    refine ⟨tt', n', c1, c2, c3, c4, c5, c6, c7, c8, im3, ws3, nw3, ?_, g2, g3, by omega, g5, fun v hv => by rw [g6 v (by omega)]; exact hFx v hv, g7, fun i hi => by rw [g8 i hi, up_n (by omega)]⟩
    rw [f_Q_takes_L54, gd_t (ixb_t (by omega) (by omega)), nI_clamp (by omega), hcq, if_neg (nI_ge (by omega) (by omega)), qpremise_eq S hs hjc, bd_s]
    rw [show nI (mdn true) = (101100 : Int32) by decide] at y1
    rw [y1, bd_s, nI_4x, nI_add, gd_t (ixb_t (by omega) (by omega)), nmE, nmE, nI_clamp (by omega), nI_1]
    rw [show pc s - d = j + 1 by omega] at g1
    exact g1
end
