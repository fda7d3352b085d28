section
variable {tt : Nat → Tm} {n N m : Nat} {ar : Nat → Int32} {sz : Nat → Nat} {cc pc : Nat → Nat} {pp : Nat → Nat → Nat} {T_count : Int32} {T_heads T_places T_olders T_sizes : Nat → Int32} {T_withins : Nat → Int64} {T_newest : Nat → Int32} {Q_all Q_thrown : Int32} {Q_kinds Q_which Q_firsts Q_seconds Q_thirds Q_nexts Q_heads Q_names Q_variables Q_holes Q_sizes : Nat → Int32}
variable {S_count : Int32} {S_premises S_premiseCounts S_conclusions : Nat → Int32} {Q_statements : Int32} {Q_premises Q_counts Q_conclusions : Nat → Int32} {H_kind H_subject H_count : Int32} {H_statementRow H_firstRow H_secondRow : Nat → Int32} {Q_hitKind Q_hits : Int32} {Q_hitOf Q_hitOne Q_hitTwo Q_hitTerms : Nat → Int32} {O_out : Nat → Int64}
variable {Q_places : Nat → Int32}
variable {M_images Q_image Q_waits Q_waitsFor Q_there Q_back : Nat → Int32}
def CV (tt : Nat → Tm) (cc pc : Nat → Nat) (pp : Nat → Nat → Nat) (s o : Nat) : Prop := pc s = pc o ∧ ∃ σ, supT σ ∧ tt (cc o) = sub σ (tt (cc s)) ∧ ∀ k, k < pc s → tt (pp o k) = sub σ (tt (pp s k))
theorem pr_step {im : Nat → Int32} (hn : n ≤ 100) (w : WF tt n ar) (hA : ivA n im) {c d : Nat} (hc : c < n) (hd : d < n) : ∃ r im', f_M_pair im (nI c) (nI d) = some (r, im') ∧ ivA n im' ∧ ivX im im' ∧
    ((r = 1 ∧ im' c = nI d ∧ ∀ σ, ivS tt n σ im → tt d = sub σ (tt c) → ivS tt n σ im') ∨ (r = 0 ∧ ∀ σ, ivS tt n σ im → tt d ≠ sub σ (tt c))) := by
  rcases hA c (by omega) with e | ⟨-, u, hu, e⟩
  · refine ⟨1, _, pair_new (by omega) (by omega) e, fun x hx => ?_, fun x hx => up_n (fun e2 => hx (by rw [e2, e])), Or.inl ⟨rfl, up_s _ _ _, fun σ h1 h2 x hx u hu e2 => ?_⟩⟩
    · by_cases e2 : x = c
      · rw [e2, up_s]; exact Or.inr ⟨hc, d, hd, rfl⟩
      · rw [up_n e2]; exact hA x hx
    · by_cases e3 : x = c
      · rw [e3, up_s] at e2
        rw [e3, ← nI_inj (by omega) (by omega) e2]; exact h2
      · rw [up_n e3] at e2
        exact h1 x hx u hu e2
  · have hp := pair_old (im := im) (c := c) (d := d) (d' := u) (by omega) (by omega) (by omega) e
    by_cases eu : u = d
    · rw [if_pos eu] at hp
      exact ⟨1, im, hp, hA, ivX.refl im, Or.inl ⟨rfl, by rw [e, eu], fun σ h1 _ => h1⟩⟩
    · rw [if_neg eu] at hp
      refine ⟨0, im, hp, hA, ivX.refl im, Or.inr ⟨rfl, fun σ h1 h2 => ?_⟩⟩
      exact eu (w.1 u hu d hd ((h1 c (by omega) u hu e).trans h2.symm))
theorem supT_fre {σ : Nat → Option Tm} (h : supT σ) : ∀ g, σ g ≠ none → fre false g := by
  intro g hg
  unfold fre
  rw [if_neg (by decide)]
  exact h g hg
theorem cv_loop (R : RT tt n N sz ar T_count T_heads T_places T_olders T_sizes T_withins T_newest Q_all Q_kinds Q_which Q_firsts Q_seconds Q_thirds Q_nexts Q_heads Q_names Q_variables Q_holes Q_sizes) (S : RS tt n m cc pc pp S_count S_premises S_premiseCounts S_conclusions Q_statements Q_premises Q_counts Q_conclusions) {s o : Nat} (hs : s < m) (ho : o < m) (hpc : pc s = pc o) : ∀ d, d ≤ pc s → ∀ fuel, d < fuel → ∀ im, ivA n im → im (cc s) = nI (cc o) → (∀ k, k < pc s - d → im (pp s k) = nI (pp o k)) → (∀ σ, supT σ → tt (cc o) = sub σ (tt (cc s)) → (∀ k, k < pc s → tt (pp o k) = sub σ (tt (pp s k))) → ivS tt n σ im) →
    ∃ r im', f_M_covers_L46 T_count N T_heads (3*N) T_places N T_withins S_count S_premises S_premiseCounts S_conclusions fuel im (nI s) (nI o) (nI (pc s)) 1 (nI (pc s - d)) = some (r, im') ∧ ((r = 1 ∧ CV tt cc pc pp s o) ∨ (r = 0 ∧ ¬ CV tt cc pc pp s o)) := by
  obtain ⟨w, hn, ct, qt, hq⟩ := R
  have hm := S.2.2.1
  have h4 := (S.2.2.2 s hs).2.1.2.2
  have c1 := (S.2.2.2 s hs).1.2.2.1
  have c2 := (S.2.2.2 o ho).1.2.2.1
  intro d
  induction d with
  | zero =>
    intro _ fuel hf im hA hc hp hcp
    obtain ⟨f, rfl⟩ : ∃ f, fuel = f + 1 := ⟨fuel - 1, by omega⟩
    rw [f_M_covers_L46, if_pos ((nI_leI (by omega) (by omega)).mpr (by omega))]
    unfold f_M_covers_B84 f_M_settle
    rw [if_neg (by decide)]
    obtain ⟨im', h⟩ := settle_loop (fh := false) w ct 100 (by omega) FU (by unfold FU; omega) im hA
    rw [show (nI 100 - 1 : Int32) = 99 by decide, show bitsOf false = (273804165120 : Int64) from rfl] at h
    rcases h with ⟨a1, a2, a3, a4, a5, a6, a7⟩ | ⟨a1, a2⟩
    · have hsub := clo_sub w (by omega) a2 (fun s u h1 h2 h3 => a6 s u h1 h2 h3)
      refine ⟨1, im', by rw [a1, bd_s, if_neg (show ¬ (1 : Int32) = 0 by decide)], Or.inl ⟨rfl, hpc, sgm tt n false im', fun h hh => ?_, ?_, fun k hk => ?_⟩⟩
      · obtain ⟨x, -, -, -, h4, -⟩ := sgm_dom.mp hh
        unfold fre at h4
        rw [if_neg (by decide)] at h4
        exact h4
      · exact hsub (cc s) (by omega) (cc o) c2 (by rw [a3 _ (by rw [hc]; exact nI_nm1 (by omega)), hc])
      · have c3 := ((S.2.2.2 s hs).2.2 k hk).2.2.1
        have c4 := ((S.2.2.2 o ho).2.2 k (by omega)).2.2.1
        exact hsub (pp s k) (by omega) (pp o k) c4 (by rw [a3 _ (by rw [hp k (by omega)]; exact nI_nm1 (by omega)), hp k (by omega)])
    · refine ⟨0, im', by rw [a1, bd_s, if_pos rfl], Or.inr ⟨rfl, ?_⟩⟩
      rintro ⟨-, σ, b1, b2, b3⟩
      exact a2 σ (supT_fre b1) (hcp σ b1 b2 b3)
  | succ d ih =>
    intro hd fuel hf im hA hc hp hcp
    obtain ⟨f, rfl⟩ : ∃ f, fuel = f + 1 := ⟨fuel - 1, by omega⟩
    obtain ⟨k, hk⟩ : ∃ k, k = pc s - (d + 1) := ⟨_, rfl⟩
    have c3 := ((S.2.2.2 s hs).2.2 k (by omega)).2.2.1
    have c4 := ((S.2.2.2 o ho).2.2 k (by omega)).2.2.1
    obtain ⟨r, im1, a1, a2, a3, a4⟩ := pr_step hn w hA c3 c4
    rw [← hk, f_M_covers_L46, if_neg (nI_ge (by omega) (by omega)), if_neg (by decide), spremise_eq S hs (by omega), bd_s, spremise_eq S ho (by omega), bd_s, a1, bd_s, nmE, nI_1]
    rcases a4 with ⟨b1, b2, b3⟩ | ⟨b1, b2⟩
    · have := ih (by omega) f (by omega) im1 a2 (by rw [a3 _ (by rw [hc]; exact nI_nm1 (by omega)), hc]) (fun j hj => by
        by_cases e : j = k
        · rw [e]; exact b2
        · have := hp j (by omega)
          have c4 := ((S.2.2.2 o ho).2.2 j (by omega)).2.2.1
          rw [a3 _ (by rw [this]; exact nI_nm1 (by omega)), this]) (fun σ q1 q2 q3 => b3 σ (hcp σ q1 q2 q3) (q3 k (by omega)))
      rw [show pc s - d = k + 1 by omega] at this
      simp only [b1]
      exact this
    · simp only [b1]
      obtain ⟨f', rfl⟩ : ∃ f', f = f' + 1 := ⟨f - 1, by omega⟩
      refine ⟨0, im1, ?_, Or.inr ⟨rfl, ?_⟩⟩
      · rw [f_M_covers_L46]
        unfold f_M_covers_B84
        rw [if_pos rfl, if_pos rfl]
        split <;> rfl
      · rintro ⟨-, σ, q1, q2, q3⟩
        exact b2 σ (hcp σ q1 q2 q3) (q3 k (by omega))
theorem covers_eq (R : RT tt n N sz ar T_count T_heads T_places T_olders T_sizes T_withins T_newest Q_all Q_kinds Q_which Q_firsts Q_seconds Q_thirds Q_nexts Q_heads Q_names Q_variables Q_holes Q_sizes) (S : RS tt n m cc pc pp S_count S_premises S_premiseCounts S_conclusions Q_statements Q_premises Q_counts Q_conclusions) {s o : Nat} (hs : s < m) (ho : o < m) (im : Nat → Int32) :
    ∃ r im', f_M_covers T_count N T_heads (3*N) T_places N T_withins S_count S_premises S_premiseCounts S_conclusions im (nI s) (nI o) = some (r, im') ∧ ((r = 1 ∧ CV tt cc pc pp s o) ∨ (r = 0 ∧ ¬ CV tt cc pc pp s o)) := by
  have R2 := R
  obtain ⟨w, hn, ct, qt, hq⟩ := R2
  have hm := S.2.2.1
  have h4 := (S.2.2.2 s hs).2.1.2.2
  have h4' := (S.2.2.2 o ho).2.1.2.2
  have c1 := (S.2.2.2 s hs).1.2.2.1
  have c2 := (S.2.2.2 o ho).1.2.2.1
  unfold f_M_covers
  rw [spremises_eq S hs, bd_s, spremises_eq S ho, bd_s]
  by_cases hpc : pc s = pc o
  · obtain ⟨A, hf, hA⟩ := fill_eq im
    have hAA : ivA n A := fun x hx => Or.inl (hA x hx)
    obtain ⟨r, im1, a1, a2, a3, a4⟩ := pr_step hn w hAA c1 c2
    have hS0 : ∀ σ, ivS tt n σ A := fun σ x hx u hu e => by
      rw [hA x hx] at e
      exact absurd e.symm (nI_nm1 (by omega))
    rw [if_pos (by rw [hpc]), hf, bd_s, sconcl_eq S hs, bd_s, sconcl_eq S ho, bd_s, a1, bd_s]
    rcases a4 with ⟨b1, b2, b3⟩ | ⟨b1, b2⟩
    · have := cv_loop ⟨w, hn, ct, qt, hq⟩ S hs ho hpc (pc s) (Nat.le_refl _) FU (by unfold FU; omega) im1 a2 b2 (fun k hk => by omega) (fun σ q1 q2 q3 => b3 σ (hS0 σ) q2)
      rw [Nat.sub_self, nI_0] at this
      simp only [b1]
      exact this
    · simp only [b1]
      obtain ⟨F, hF⟩ : ∃ F, FU = F + 1 := ⟨FU - 1, by unfold FU; omega⟩
      refine ⟨0, im1, ?_, Or.inr ⟨rfl, ?_⟩⟩
      · rw [hF, f_M_covers_L46]
        unfold f_M_covers_B84
        rw [if_pos rfl, if_pos rfl]
        split <;> rfl
      · rintro ⟨-, σ, q1, q2, q3⟩
        exact b2 σ (hS0 σ) q2
  · rw [if_neg (fun e => hpc (nI_inj (by omega) (by omega) e))]
    exact ⟨0, im, rfl, Or.inr ⟨rfl, fun h => hpc h.1⟩⟩
theorem TW_iff {s o : Nat} : TW tt cc pc pp s o ↔ (CV tt cc pc pp o s ∧ CV tt cc pc pp s o) := by
  constructor
  · rintro ⟨h0, σ, τ, h1, h2, h3, h4⟩
    exact ⟨⟨h0.symm, τ, h2, h3.2, fun k hk => (h4 k (by omega)).2⟩, ⟨h0, σ, h1, h3.1, fun k hk => (h4 k hk).1⟩⟩
  · rintro ⟨⟨-, τ, h2, h3, h4⟩, ⟨h0, σ, h1, h5, h6⟩⟩
    exact ⟨h0, σ, τ, h1, h2, ⟨h5, h3⟩, fun k hk => ⟨h6 k hk, h4 k (by omega)⟩⟩
theorem TW_refl {s : Nat} : TW tt cc pc pp s s := by
  have hid : ∀ T : Tm, T = sub (fun _ => none) T := fun T => (sub_id (fun _ _ => rfl)).symm
  exact ⟨rfl, fun _ => none, fun _ => none, fun h hh => absurd rfl hh, fun h hh => absurd rfl hh, ⟨hid _, hid _⟩, fun k hk => ⟨hid _, hid _⟩⟩
theorem twin_loop (R : RT tt n N sz ar T_count T_heads T_places T_olders T_sizes T_withins T_newest Q_all Q_kinds Q_which Q_firsts Q_seconds Q_thirds Q_nexts Q_heads Q_names Q_variables Q_holes Q_sizes) (S : RS tt n m cc pc pp S_count S_premises S_premiseCounts S_conclusions Q_statements Q_premises Q_counts Q_conclusions) {s : Nat} (hs : s < m) (thr : Int32) : ∀ d, d ≤ s → ∀ fuel fuel', d < fuel → d < fuel' → ∀ im qi qw qv qt' qk, ∃ r im' qi' qw' qv' qt'' qk', f_X_twin_L27 T_count N T_heads (3*N) T_places N T_withins S_count S_premises S_premiseCounts S_conclusions fuel im (nI s) (nI (s - d)) = some (0, r, im') ∧
    f_Q_twin_L28 Q_statements Q_kinds Q_which Q_firsts Q_seconds Q_thirds Q_conclusions Q_premises Q_counts fuel' thr qi qw qv qt' qk (nI s) (nI (s - d)) = some (r, thr, qi', qw', qv', qt'', qk') := by
  have hm := S.2.2.1
  intro d
  induction d with
  | zero =>
    intro _ fuel fuel' hf hf' im qi qw qv qt' qk
    obtain ⟨f, rfl⟩ : ∃ f, fuel = f + 1 := ⟨fuel - 1, by omega⟩
    obtain ⟨f', rfl⟩ : ∃ f, fuel' = f + 1 := ⟨fuel' - 1, by omega⟩
    obtain ⟨r, a1, a2, a3, a4, a5, b1, b2⟩ := twins_eq R S hs hs qi qw qv qt' qk
    have hr : r = 1 := by
      rcases b2 with b2 | b2
      · exact b2.1
      · exact absurd TW_refl b2.2
    refine ⟨-1, im, a1, a2, a3, a4, a5, ?_, ?_⟩
    · rw [Nat.sub_zero, f_X_twin_L27, if_pos ((nI_leI (by omega) (by omega)).mpr (Nat.le_refl s))]
    · rw [Nat.sub_zero, f_Q_twin_L28, b1, bd_s, hr, if_neg (show ¬ (1 : Int32) = 0 by decide), if_pos rfl]
  | succ d ih =>
    intro hd fuel fuel' hf hf' im qi qw qv qt' qk
    obtain ⟨f, rfl⟩ : ∃ f, fuel = f + 1 := ⟨fuel - 1, by omega⟩
    obtain ⟨f', rfl⟩ : ∃ f, fuel' = f + 1 := ⟨fuel' - 1, by omega⟩
    obtain ⟨o, ho⟩ : ∃ o, o = s - (d + 1) := ⟨_, rfl⟩
    obtain ⟨r, a1, a2, a3, a4, a5, b1, b2⟩ := twins_eq R S hs (show o < m by omega) qi qw qv qt' qk
    obtain ⟨r1, im1, c1, c2⟩ := covers_eq R S (show o < m by omega) hs im
    obtain ⟨r2, im2, c3, c4⟩ := covers_eq R S hs (show o < m by omega) im1
    rw [← ho, f_X_twin_L27, if_neg (nI_ge (by omega) (by omega)), c1, bd_s, f_Q_twin_L28, b1, bd_s]
    have e1 : s - d = o + 1 := by omega
    rcases b2 with ⟨b2, b3⟩ | ⟨b2, b3⟩
    · obtain ⟨t1, t2⟩ := TW_iff.mp b3
      have hr1 : r1 = 1 := by
        rcases c2 with c2 | c2
        · exact c2.1
        · exact absurd t1 c2.2
      have hr2 : r2 = 1 := by
        rcases c4 with c4 | c4
        · exact c4.1
        · exact absurd t2 c4.2
      simp only [hr1, b2, show ¬ ((1 : Int32) = 0) by decide, if_false]
      rw [c3, bd_s]
      simp only [hr2, show ¬ ((1 : Int32) = 0) by decide, if_false]
      rw [if_neg (fun e => by have := nI_inj (by omega) (by omega) e; omega)]
      exact ⟨nI o, im2, a1, a2, a3, a4, a5, rfl, rfl⟩
    · simp only [b2, if_true]
      rcases c2 with ⟨c2, c5⟩ | ⟨c2, c5⟩
      · simp only [c2, show ¬ ((1 : Int32) = 0) by decide, if_false]
        rw [c3, bd_s]
        rcases c4 with ⟨c4, c6⟩ | ⟨c4, c6⟩
        · exact absurd (TW_iff.mpr ⟨c5, c6⟩) b3
        · simp only [c4, if_true]
          simp only [nmE, nI_1]
          rw [← e1]
          exact ih (by omega) f f' (by omega) (by omega) im2 a1 a2 a3 a4 a5
      · simp only [c2, if_true]
        simp only [nmE, nI_1]
        rw [← e1]
        exact ih (by omega) f f' (by omega) (by omega) im1 a1 a2 a3 a4 a5
theorem both_twin (R : RT tt n N sz ar T_count T_heads T_places T_olders T_sizes T_withins T_newest Q_all Q_kinds Q_which Q_firsts Q_seconds Q_thirds Q_nexts Q_heads Q_names Q_variables Q_holes Q_sizes) (S : RS tt n m cc pc pp S_count S_premises S_premiseCounts S_conclusions Q_statements Q_premises Q_counts Q_conclusions) (p0 : Int32) :
    ∃ (k b : Int32) (M_images' : Nat → Int32) (O_out' : Nat → Int64) (Q_image' Q_waits' Q_waitsFor' Q_there' Q_back' : Nat → Int32),
      f_L_twin T_count N T_heads (3*N) T_places N T_withins S_count S_premises S_premiseCounts S_conclusions M_images O_out p0 = some (k, M_images', O_out') ∧ f_Q_twin Q_thrown Q_statements Q_kinds Q_which Q_firsts Q_seconds Q_thirds Q_conclusions Q_premises Q_counts Q_image Q_waits Q_waitsFor Q_there Q_back p0 = some (b, k, Q_image', Q_waits', Q_waitsFor', Q_there', Q_back') ∧ (k = 0 → O_out' 0 = b.toInt64) := by
  have hm := S.2.2.1
  unfold f_L_twin f_X_twin f_Q_twin f_Q_twin_B18 f_Q_refuses
  by_cases c0 : p0 < 0
  · rw [if_pos c0, if_pos c0]
    exact ⟨1, 0, M_images, O_out, Q_image, Q_waits, Q_waitsFor, Q_there, Q_back, rfl, rfl, fun e => absurd e (by decide)⟩
  obtain ⟨s, hs, e⟩ := nI_of c0
  subst e
  unfold f_S_count
  rw [if_neg c0, if_neg c0, S.1, bd_s]
  by_cases cs : s < m
  · have hlt : nI s < nI m := nI_lt cs (by omega)
    rw [if_pos hlt, S.2.1, if_pos hlt]
    obtain ⟨r, im', qi', qw', qv', qt', qk', h1, h2⟩ := twin_loop R S cs 0 s (Nat.le_refl _) FU FU (by unfold FU; omega) (by unfold FU; omega) M_images Q_image Q_waits Q_waitsFor Q_there Q_back
    rw [Nat.sub_self, nI_0] at h1 h2
    rw [S.1] at h1
    rw [S.2.1] at h2
    refine ⟨0, r, im', vp_updL O_out 0 r.toInt64, qi', qw', qv', qt', qk', ?_, ?_, fun _ => upL_s _ _ _⟩
    · rw [h1, bd_s]
      rfl
    · rw [if_pos (by decide), bd_s, if_pos rfl]
      exact h2
  · have hlt : ¬ nI s < nI m := by rw [lt_lit hs (by omega)]; exact cs
    rw [if_neg hlt, S.2.1, if_neg hlt]
    exact ⟨1, 0, M_images, O_out, Q_image, Q_waits, Q_waitsFor, Q_there, Q_back, rfl, rfl, fun e => absurd e (by decide)⟩
end
