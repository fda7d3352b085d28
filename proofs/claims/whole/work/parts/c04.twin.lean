section
variable {tt : Nat → Tm} {n N m : Nat} {ar : Nat → Int32} {sz : Nat → Nat} {cc pc : Nat → Nat} {pp : Nat → Nat → Nat} {T_count : Int32} {T_heads T_places T_olders T_sizes : Nat → Int32} {T_withins : Nat → Int64} {T_newest : Nat → Int32} {Q_all Q_thrown : Int32} {Q_kinds Q_which Q_firsts Q_seconds Q_thirds Q_nexts Q_heads Q_names Q_variables Q_holes Q_sizes : Nat → Int32}
variable {S_count : Int32} {S_premises S_premiseCounts S_conclusions : Nat → Int32} {Q_statements : Int32} {Q_premises Q_counts Q_conclusions : Nat → Int32} {H_kind H_subject H_count : Int32} {H_statementRow H_firstRow H_secondRow : Nat → Int32} {Q_hitKind Q_hits : Int32} {Q_hitOf Q_hitOne Q_hitTwo Q_hitTerms : Nat → Int32} {O_out : Nat → Int64}
variable {Q_places : Nat → Int32}
variable {M_images Q_image Q_waits Q_waitsFor Q_there Q_back : Nat → Int32}
def TWs (tt : Nat → Tm) (cc pc : Nat → Nat) (pp : Nat → Nat → Nat) (s o : Nat) (σ τ : Nat → Option Tm) : Prop :=
  (tt (cc o) = sub σ (tt (cc s)) ∧ tt (cc s) = sub τ (tt (cc o))) ∧ ∀ k, k < pc s → tt (pp o k) = sub σ (tt (pp s k)) ∧ tt (pp s k) = sub τ (tt (pp o k))
def TW (tt : Nat → Tm) (cc pc : Nat → Nat) (pp : Nat → Nat → Nat) (s o : Nat) : Prop := pc s = pc o ∧ ∃ σ τ, supT σ ∧ supT τ ∧ TWs tt cc pc pp s o σ τ
noncomputable def fullS (σ : Nat → Option Tm) : Nat → Option Tm := fun h => if 30 ≤ h ∧ h < 38 then (match σ h with | some U => some U | none => some (lfT h)) else none
theorem fullS_ful (σ : Nat → Option Tm) : fulT (fullS σ) := by
  intro h
  unfold fullS
  by_cases c : 30 ≤ h ∧ h < 38
  · rw [if_pos c]
    refine ⟨fun _ => c, fun _ => ?_⟩
    cases σ h <;> exact fun e => by cases e
  · rw [if_neg c]
    exact ⟨fun e => absurd rfl e, fun e => absurd e c⟩
theorem fullS_sub (w : WF tt n ar) {σ : Nat → Option Tm} (hs : supT σ) : ∀ x, x < n → sub (fullS σ) (tt x) = sub σ (tt x) := by
  intro x
  induction x using Nat.strongRecOn with
  | _ x ih =>
    intro hx
    obtain ⟨g, hg, eg, -, -⟩ := w.2.1 x hx
    by_cases c : 30 ≤ g ∧ g < 38
    · have hl := leaf_lf w hx eg c.1
      cases hσ : σ g with
      | none =>
        rw [hl, sub_lf0 hσ]
        exact sub_lf (by unfold fullS; rw [if_pos c, hσ])
      | some U =>
        rw [hl, sub_lf hσ]
        exact sub_lf (by unfold fullS; rw [if_pos c, hσ])
    · have r1 : rtS σ (tt x []) = none := by rw [eg]; exact hs.lo c
      have r2 : rtS (fullS σ) (tt x []) = none := by rw [eg]; exact (fullS_ful σ).sup.lo c
      refine Tm_ext (by rw [sub_root r1, sub_root r2]) (fun k => ?_)
      rw [sub_ch r1, sub_ch r2]
      rcases w.2.2 x hx k with e | ⟨v, hv, ev⟩
      · rw [e, sub_nil, sub_nil]
      · rw [← ev]; exact ih v hv (by omega)
theorem tw_full (w : WF tt n ar) (S : RS tt n m cc pc pp S_count S_premises S_premiseCounts S_conclusions Q_statements Q_premises Q_counts Q_conclusions) {s o : Nat} (hs : s < m) (ho : o < m) (hpc : pc s = pc o) {σ τ : Nat → Option Tm} (h1 : supT σ) (h2 : supT τ) (h : TWs tt cc pc pp s o σ τ) : TWs tt cc pc pp s o (fullS σ) (fullS τ) := by
  have c1 := (S.2.2.2 s hs).1.2.2.1
  have c2 := (S.2.2.2 o ho).1.2.2.1
  refine ⟨⟨by rw [fullS_sub w h1 _ c1]; exact h.1.1, by rw [fullS_sub w h2 _ c2]; exact h.1.2⟩, fun k hk => ?_⟩
  have c3 := ((S.2.2.2 s hs).2.2 k hk).2.2.1
  have c4 := ((S.2.2.2 o ho).2.2 k (by omega)).2.2.1
  exact ⟨by rw [fullS_sub w h1 _ c3]; exact (h.2 k hk).1, by rw [fullS_sub w h2 _ c4]; exact (h.2 k hk).2⟩
theorem nohole (w : WF tt n ar) {t : Nat} (ht : t < n) (h : ¬ hasF true (tt t)) : ∀ g, std (tt t) g → g < 38 := by
  intro g hg
  apply Classical.byContradiction
  intro hc
  obtain ⟨x, hx, ex⟩ := std_at w t ht hg
  obtain ⟨g', hg', e, -⟩ := w.2.1 x (by omega)
  exact h ⟨g, by unfold fre; rw [if_pos rfl]; omega, hg⟩
theorem tw_loop (R : RT tt n N sz ar T_count T_heads T_places T_olders T_sizes T_withins T_newest Q_all Q_kinds Q_which Q_firsts Q_seconds Q_thirds Q_nexts Q_heads Q_names Q_variables Q_holes Q_sizes) (S : RS tt n m cc pc pp S_count S_premises S_premiseCounts S_conclusions Q_statements Q_premises Q_counts Q_conclusions) {s o : Nat} (hs : s < m) (ho : o < m) (hpc : pc s = pc o) : ∀ d, d ≤ pc s → ∀ fuel, d < fuel → ∀ im ws wf th bk, thO th bk → okA th bk (tt (cc s)) (tt (cc o)) → (∀ k, k < pc s - d → okA th bk (tt (pp s k)) (tt (pp o k))) → (∀ σ τ, fulT σ → fulT τ → TWs tt cc pc pp s o σ τ → cpt th σ τ) →
    ∃ r im' ws' wf' th' bk', f_Q_areTwins_L71 Q_kinds Q_which Q_firsts Q_seconds Q_thirds Q_conclusions Q_premises Q_counts fuel im ws wf th bk (nI s) (nI o) 1 (nI (pc s - d)) = some (r, im', ws', wf', th', bk') ∧ ((r = 1 ∧ TW tt cc pc pp s o) ∨ (r = 0 ∧ ∀ σ τ, fulT σ → fulT τ → ¬ TWs tt cc pc pp s o σ τ)) := by
  obtain ⟨w, hn, ct, qt, hq⟩ := R
  have hm := S.2.2.1
  have h4 := (S.2.2.2 s hs).2.1.2.2
  have hcq := (S.2.2.2 s hs).2.1.2.1
  intro d
  induction d with
  | zero =>
    intro _ fuel hf im ws wf th bk hO hc hp hcp
    obtain ⟨f, rfl⟩ : ∃ f, fuel = f + 1 := ⟨fuel - 1, by omega⟩
    refine ⟨1, im, ws, wf, th, bk, ?_, Or.inl ⟨rfl, hpc, sgT th, sgT bk, sgT_sup _, sgT_sup _, ⟨hc.1, hc.2.1⟩, fun k hk => ⟨(hp k (by omega)).1, (hp k (by omega)).2.1⟩⟩⟩
    rw [f_Q_areTwins_L71, gd_t (ixb_t (by omega) (by omega)), nI_clamp (by omega), hcq, if_pos ((nI_leI (by omega) (by omega)).mpr (by omega))]
    rfl
  | succ d ih =>
    intro hd fuel hf im ws wf th bk hO hc hp hcp
    obtain ⟨f, rfl⟩ : ∃ f, fuel = f + 1 := ⟨fuel - 1, by omega⟩
    obtain ⟨k, hk⟩ : ∃ k, k = pc s - (d + 1) := ⟨_, rfl⟩
    obtain ⟨-, -, q1, q2⟩ := (S.2.2.2 s hs).2.2 k (by omega)
    obtain ⟨-, -, q3, -⟩ := (S.2.2.2 o ho).2.2 k (by omega)
    obtain ⟨r, im1, ws1, wf1, th1, bk1, a1, a2⟩ := alike_eq w hn qt q1 q3 (nohole w q1 q2) im ws wf hO
    rw [← hk]
    have hL : f_Q_areTwins_L71 Q_kinds Q_which Q_firsts Q_seconds Q_thirds Q_conclusions Q_premises Q_counts (f + 1) im ws wf th bk (nI s) (nI o) 1 (nI k) = f_Q_areTwins_L71 Q_kinds Q_which Q_firsts Q_seconds Q_thirds Q_conclusions Q_premises Q_counts f im1 ws1 wf1 th1 bk1 (nI s) (nI o) r (nI (k + 1)) := by
      rw [f_Q_areTwins_L71, gd_t (ixb_t (by omega) (by omega)), nI_clamp (by omega), hcq, if_neg (nI_ge (by omega) (by omega)), if_neg (by decide), qpremise_eq S hs (by omega), bd_s, qpremise_eq S ho (by omega), bd_s, a1, bd_s, nmE, nI_1]
    rw [hL]
    rcases a2 with ⟨b1, b2, b3, b4, b5, b6⟩ | ⟨b1, b2⟩
    · rw [b1]
      have := ih (by omega) f (by omega) im1 ws1 wf1 th1 bk1 b2 (hc.ext b3 b4) (fun j hj => by
        by_cases e : j = k
        · rw [e]; exact b5
        · exact (hp j (by omega)).ext b3 b4) (fun σ τ hσ hτ h => b6 σ τ hσ hτ (hcp σ τ hσ hτ h) (h.2 k (by omega)).1 (h.2 k (by omega)).2)
      rw [show pc s - d = k + 1 by omega] at this
      exact this
    · rw [b1]
      obtain ⟨f', rfl⟩ : ∃ f', f = f' + 1 := ⟨f - 1, by omega⟩
      refine ⟨0, im1, ws1, wf1, th1, bk1, ?_, Or.inr ⟨rfl, fun σ τ hσ hτ h => b2 σ τ hσ hτ (hcp σ τ hσ hτ h) (h.2 k (by omega)).1 (h.2 k (by omega)).2⟩⟩
      rw [f_Q_areTwins_L71, gd_t (ixb_t (by omega) (by omega)), nI_clamp (by omega), hcq, if_pos rfl]
      split <;> rfl
theorem tw_init (s o : Int32) (im ws wf : Nat → Int32) : ∀ d, d ≤ 8 → ∀ fuel, d < fuel → ∀ th bk : Nat → Int32, ∃ f th' bk', f_Q_areTwins_L2 Q_kinds Q_which Q_firsts Q_seconds Q_thirds Q_conclusions Q_premises Q_counts fuel im ws wf th bk s o (nI (8 - d)) = f_Q_areTwins_L2 Q_kinds Q_which Q_firsts Q_seconds Q_thirds Q_conclusions Q_premises Q_counts (f + 1) im ws wf th' bk' s o 8 ∧ (∀ v, v < 8 → 8 - d ≤ v → th' v = -1 ∧ bk' v = -1) ∧ (∀ v, v < 8 - d → th' v = th v ∧ bk' v = bk v) := by
  intro d
  induction d with
  | zero =>
    intro _ fuel hf th bk
    obtain ⟨f, rfl⟩ : ∃ f, fuel = f + 1 := ⟨fuel - 1, by omega⟩
    exact ⟨f, th, bk, rfl, fun v h1 h2 => by omega, fun v _ => ⟨rfl, rfl⟩⟩
  | succ d ih =>
    intro hd fuel hf th bk
    obtain ⟨f, rfl⟩ : ∃ f, fuel = f + 1 := ⟨fuel - 1, by omega⟩
    obtain ⟨k, hk⟩ : ∃ k, k = 8 - (d + 1) := ⟨_, rfl⟩
    obtain ⟨f2, th', bk', h1, h2, h3⟩ := ih (by omega) f (by omega) (upd th k (-1)) (upd bk k (-1))
    rw [show 8 - d = k + 1 by omega] at h1 h2 h3
    rw [← hk]
    refine ⟨f2, th', bk', ?_, fun v h4 h5 => ?_, fun v h4 => ?_⟩
    · rw [f_Q_areTwins_L2, if_neg (show ¬ (8 : Int32) ≤ nI k from (nI_ge (by omega) (by omega) : ¬ nI 8 ≤ nI k)), gd_t (ixb_t (by omega) (by omega)), nmE, gd_t (ixb_t (by omega) (by omega)), nmE, nmE, nI_clamp (by omega), nI_1]
      exact h1
    · by_cases e : v = k
      · obtain ⟨a, b⟩ := h3 k (by omega)
        rw [e, a, b, up_s, up_s]; exact ⟨rfl, rfl⟩
      · exact h2 v h4 (by omega)
    · obtain ⟨a, b⟩ := h3 v (by omega)
      rw [a, b, up_n (by omega), up_n (by omega)]; exact ⟨rfl, rfl⟩
theorem twins_eq (R : RT tt n N sz ar T_count T_heads T_places T_olders T_sizes T_withins T_newest Q_all Q_kinds Q_which Q_firsts Q_seconds Q_thirds Q_nexts Q_heads Q_names Q_variables Q_holes Q_sizes) (S : RS tt n m cc pc pp S_count S_premises S_premiseCounts S_conclusions Q_statements Q_premises Q_counts Q_conclusions) {s o : Nat} (hs : s < m) (ho : o < m) (im ws wf th bk : Nat → Int32) :
    ∃ r im' ws' wf' th' bk', f_Q_areTwins Q_kinds Q_which Q_firsts Q_seconds Q_thirds Q_conclusions Q_premises Q_counts im ws wf th bk (nI s) (nI o) = some (r, im', ws', wf', th', bk') ∧ ((r = 1 ∧ TW tt cc pc pp s o) ∨ (r = 0 ∧ ¬ TW tt cc pc pp s o)) := by
  have R2 := R
  obtain ⟨w, hn, ct, qt, hq⟩ := R2
  have hm := S.2.2.1
  obtain ⟨⟨-, e1, c1, n1⟩, ⟨-, k1, p1⟩, -⟩ := S.2.2.2 s hs
  obtain ⟨⟨-, e2, c2, n2⟩, ⟨-, k2, p2⟩, -⟩ := S.2.2.2 o ho
  obtain ⟨f, th1, bk1, l1, l2, -⟩ := tw_init (Q_kinds := Q_kinds) (Q_which := Q_which) (Q_firsts := Q_firsts) (Q_seconds := Q_seconds) (Q_thirds := Q_thirds) (Q_conclusions := Q_conclusions) (Q_premises := Q_premises) (Q_counts := Q_counts) (nI s) (nI o) im ws wf 8 (Nat.le_refl _) FU (by unfold FU; omega) th bk
  rw [Nat.sub_self, nI_0] at l1
  have hO : thO th1 bk1 := ⟨fun v hv => Or.inl (l2 v hv (by omega)).1, fun v hv => Or.inl (l2 v hv (by omega)).2⟩
  have hcp : ∀ σ τ, cpt th1 σ τ := fun σ τ v x hv hx e => by
    rw [(l2 v hv (by omega)).1] at e
    exact absurd e.symm (nI_nm1 (by omega))
  unfold f_Q_areTwins
  rw [l1, f_Q_areTwins_L2, if_pos (by decide)]
  simp (disch := omega) only [ixb_t, gd_tt]
  simp (disch := omega) only [nI_clamp]
  rw [k1, k2, e1, e2]
  have hz : ∀ im ws wf th bk, f_Q_areTwins_L71 Q_kinds Q_which Q_firsts Q_seconds Q_thirds Q_conclusions Q_premises Q_counts FU im ws wf th bk (nI s) (nI o) 0 0 = some (0, im, ws, wf, th, bk) := by
    intro im ws wf th bk
    obtain ⟨F, hF⟩ : ∃ F, FU = F + 1 := ⟨FU - 1, by unfold FU; omega⟩
    rw [hF, f_Q_areTwins_L71, gd_t (ixb_t (by omega) (by omega)), nI_clamp (by omega), if_pos rfl]
    split <;> rfl
  by_cases hpc : pc s = pc o
  · rw [if_pos (by rw [hpc])]
    obtain ⟨r, im1, ws1, wf1, th2, bk2, a1, a2⟩ := alike_eq w hn qt c1 c2 (nohole w c1 n1) im ws wf hO
    rw [a1, bd_s]
    rcases a2 with ⟨b1, b2, b3, b4, b5, b6⟩ | ⟨b1, b2⟩
    · rw [b1, if_neg (show ¬ (1 : Int32) = 0 by decide)]
      obtain ⟨r', im2, ws2, wf2, th3, bk3, g1, g2⟩ := tw_loop R S hs ho hpc (pc s) (Nat.le_refl _) FU (by unfold FU; omega) im1 ws1 wf1 th2 bk2 b2 b5 (fun k hk => by omega) (fun σ τ hσ hτ h => b6 σ τ hσ hτ (hcp σ τ) h.1.1 h.1.2)
      rw [Nat.sub_self, nI_0] at g1
      refine ⟨r', im2, ws2, wf2, th3, bk3, g1, ?_⟩
      rcases g2 with g2 | ⟨g2, g3⟩
      · exact Or.inl g2
      · refine Or.inr ⟨g2, ?_⟩
        rintro ⟨-, σ, τ, h1, h2, h3⟩
        exact g3 _ _ (fullS_ful σ) (fullS_ful τ) (tw_full w S hs ho hpc h1 h2 h3)
    · rw [b1, if_pos rfl, hz]
      refine ⟨0, im1, ws1, wf1, th2, bk2, rfl, Or.inr ⟨rfl, ?_⟩⟩
      rintro ⟨-, σ, τ, h1, h2, h3⟩
      have h4 := tw_full w S hs ho hpc h1 h2 h3
      exact b2 _ _ (fullS_ful σ) (fullS_ful τ) (hcp _ _) h4.1.1 h4.1.2
  · rw [if_neg (fun e => hpc (nI_inj (by omega) (by omega) e)), hz]
    exact ⟨0, im, ws, wf, th1, bk1, rfl, Or.inr ⟨rfl, fun h => hpc h.1⟩⟩
end
