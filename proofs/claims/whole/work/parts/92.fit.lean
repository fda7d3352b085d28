section
variable {tt : Nat → Tm} {n N m : Nat} {ar : Nat → Int32} {sz : Nat → Nat} {cc pc : Nat → Nat} {pp : Nat → Nat → Nat} {T_count : Int32} {T_heads T_places T_olders T_sizes : Nat → Int32} {T_withins : Nat → Int64} {T_newest : Nat → Int32} {Q_all Q_thrown : Int32} {Q_kinds Q_which Q_firsts Q_seconds Q_thirds Q_nexts Q_heads Q_names Q_variables Q_holes Q_sizes : Nat → Int32}
variable {S_count : Int32} {S_premises S_premiseCounts S_conclusions : Nat → Int32} {Q_statements : Int32} {Q_premises Q_counts Q_conclusions : Nat → Int32} {H_kind H_subject H_count : Int32} {H_statementRow H_firstRow H_secondRow : Nat → Int32} {Q_hitKind Q_hits : Int32} {Q_hitOf Q_hitOne Q_hitTwo Q_hitTerms : Nat → Int32} {O_out : Nat → Int64}
variable {Q_places : Nat → Int32}
variable {M_images S_order Q_image Q_bound Q_waits Q_waitsFor : Nat → Int32}
def HPt (tt : Nat → Tm) (n m : Nat) (cc pc : Nat → Nat) (g c : Nat) (r0 r1 r2 ho h1 h2 ht : Nat → Int32) : Prop :=
  ∀ i, i < c → r0 i = ho i ∧ r1 i = h1 i ∧ r2 i = h2 i ∧ ∃ s, s < m ∧ r0 i = nI s ∧ r2 i = nI (pc s) ∧ ∃ σ, Mt false σ (tt (cc s)) (tt g) ∧ ∀ v, v < 8 → rf tt n (ht (8 * i + v)) (oT (σ (30 + v)))
theorem fit_in (R : RT tt n N sz ar T_count T_heads T_places T_olders T_sizes T_withins T_newest Q_all Q_kinds Q_which Q_firsts Q_seconds Q_thirds Q_nexts Q_heads Q_names Q_variables Q_holes Q_sizes) (har : ∀ h, h < 30 → Q_places h = ar h) (S : RS tt n m cc pc pp S_count S_premises S_premiseCounts S_conclusions Q_statements Q_premises Q_counts Q_conclusions) {g : Nat} (hg : g < n) (thr : Int32) {od : Nat → Int32} (hod : ordO pc m od) {nn : Nat} (hnn : nn ≤ 4)
    (K : Int32 → Int32 → Int32 → (Nat → Int32) → (Nat → Int32) → (Nat → Int32) → (Nat → Int32) → (Nat → Int32) → (Nat → Int32) → (Nat → Int32) → (Nat → Int32) → Int32 → Int32 → Option (Int32 × Int32 × Int32 × Int32 × (Nat → Int32) × (Nat → Int32) × (Nat → Int32) × (Nat → Int32) × (Nat → Int32) × (Nat → Int32) × (Nat → Int32) × (Nat → Int32)))
    (hK : ∀ fuel c im r0 r1 r2 ho h1 h2 ht qi qb qw qv, m - idx pc m (nn + 1) 0 < fuel → c ≤ idx pc m (nn + 1) 0 → HPt tt n m cc pc g c r0 r1 r2 ho h1 h2 ht → ∃ c' im' r0' r1' r2' ho' h1' h2' ht' qi' qb' qw' qv',
      f_X_fit_L23 T_count N T_heads (3*N) T_places N T_withins S_count S_premises S_premiseCounts S_conclusions fuel od im 2 (nI g) (nI c) r0 r1 r2 (nI g) (nI (idx pc m (nn + 1) 0)) = some (0, nI c', od, im', 2, nI g, nI c', r0', r1', r2') ∧
      K thr 2 (nI c) ho h1 h2 ht qi qb qw qv (nI g) (nI (nn + 1)) = some (nI c', thr, 2, nI c', ho', h1', h2', ht', qi', qb', qw', qv') ∧ c' ≤ m ∧ HPt tt n m cc pc g c' r0' r1' r2' ho' h1' h2' ht') :
    ∀ d, d ≤ m → ∀ fuel fuel', m - idx pc m nn (m - d) < fuel → d < fuel' → ∀ c im r0 r1 r2 ho h1 h2 ht qi qb qw qv, c ≤ idx pc m nn (m - d) → HPt tt n m cc pc g c r0 r1 r2 ho h1 h2 ht → ∃ c' im' r0' r1' r2' ho' h1' h2' ht' qi' qb' qw' qv',
      f_X_fit_L23 T_count N T_heads (3*N) T_places N T_withins S_count S_premises S_premiseCounts S_conclusions fuel od im 2 (nI g) (nI c) r0 r1 r2 (nI g) (nI (idx pc m nn (m - d))) = some (0, nI c', od, im', 2, nI g, nI c', r0', r1', r2') ∧
      f_Q_fit_L33 Q_all Q_statements Q_kinds Q_which Q_firsts Q_seconds Q_thirds Q_variables Q_holes Q_places Q_conclusions Q_premises Q_counts K fuel' thr 2 (nI c) ho h1 h2 ht qi qb qw qv (nI g) (nI nn) (nI (m - d)) = some (nI c', thr, 2, nI c', ho', h1', h2', ht', qi', qb', qw', qv') ∧ c' ≤ m ∧ HPt tt n m cc pc g c' r0' r1' r2' ho' h1' h2' ht' := by
  have hm := S.2.2.1
  have h4 : ∀ s, s < m → pc s ≤ 4 := fun s hs => (S.2.2.2 s hs).2.1.2.2
  obtain ⟨w, hn, ct, qt, hq⟩ := R
  intro d
  induction d with
  | zero =>
    intro _ fuel fuel' hf hf' c im r0 r1 r2 ho h1 h2 ht qi qb qw qv hc hP
    obtain ⟨f', rfl⟩ : ∃ f, fuel' = f + 1 := ⟨fuel' - 1, by omega⟩
    rw [Nat.sub_zero, idx_end] at hf hc ⊢
    obtain ⟨c', im', r0', r1', r2', ho', h1', h2', ht', qi', qb', qw', qv', a1, a2, a3, a4⟩ := hK fuel c im r0 r1 r2 ho h1 h2 ht qi qb qw qv hf hc hP
    refine ⟨c', im', r0', r1', r2', ho', h1', h2', ht', qi', qb', qw', qv', a1, ?_, a3, a4⟩
    rw [f_Q_fit_L33, S.2.1, if_pos ((nI_leI (by omega) (by omega)).mpr (by omega)), nmE, nI_1]
    exact a2
  | succ d ih =>
    intro hd fuel fuel' hf hf' c im r0 r1 r2 ho h1 h2 ht qi qb qw qv hc hP
    obtain ⟨f', rfl⟩ : ∃ f, fuel' = f + 1 := ⟨fuel' - 1, by omega⟩
    obtain ⟨s, hs⟩ : ∃ s, s = m - (d + 1) := ⟨_, rfl⟩
    have hsm : s < m := by omega
    obtain ⟨⟨s5, s6, hcc, -⟩, ⟨-, s7, -⟩, -⟩ := S.2.2.2 s hsm
    have hpc := h4 s hsm
    have e1 : m - d = s + 1 := by omega
    rw [← hs] at hf hc ⊢
    have hQ : f_Q_fit_L33 Q_all Q_statements Q_kinds Q_which Q_firsts Q_seconds Q_thirds Q_variables Q_holes Q_places Q_conclusions Q_premises Q_counts K (f' + 1) thr 2 (nI c) ho h1 h2 ht qi qb qw qv (nI g) (nI nn) (nI s) = if nI (pc s) = nI nn then
        (f_Q_matches Q_kinds Q_which Q_firsts Q_seconds Q_thirds Q_variables Q_holes Q_places qi qb qw qv (nI (cc s)) (nI g) 0).bind fun r11 =>
        if r11.1 = 0 then
          f_Q_fit_L33 Q_all Q_statements Q_kinds Q_which Q_firsts Q_seconds Q_thirds Q_variables Q_holes Q_places Q_conclusions Q_premises Q_counts K f' thr 2 (nI c) ho h1 h2 ht r11.2.1 r11.2.2.1 r11.2.2.2.1 r11.2.2.2.2 (nI g) (nI nn) (nI (s + 1))
        else
          (f_Q_open Q_variables Q_conclusions Q_premises Q_counts (nI s)).bind fun r14 =>
          (f_Q_many r14).bind fun r15 =>
          (f_Q_hit_III (nI c) ho h1 h2 ht r11.2.2.1 (nI s) r15 (nI nn)).bind fun r16 =>
          f_Q_fit_L33 Q_all Q_statements Q_kinds Q_which Q_firsts Q_seconds Q_thirds Q_variables Q_holes Q_places Q_conclusions Q_premises Q_counts K f' thr 2 r16.1 r16.2.1 r16.2.2.1 r16.2.2.2.1 r16.2.2.2.2 r11.2.1 r11.2.2.1 r11.2.2.2.1 r11.2.2.2.2 (nI g) (nI nn) (nI (s + 1))
      else f_Q_fit_L33 Q_all Q_statements Q_kinds Q_which Q_firsts Q_seconds Q_thirds Q_variables Q_holes Q_places Q_conclusions Q_premises Q_counts K f' thr 2 (nI c) ho h1 h2 ht qi qb qw qv (nI g) (nI nn) (nI (s + 1)) := by
      rw [f_Q_fit_L33, S.2.1, if_neg (nI_ge hsm (by omega)), ← S.2.1, gd_t (ixb_t (by omega) (by omega)), nI_clamp (by omega), s7, gd_t (ixb_t (by omega) (by omega)), s6]
      simp only [nmE, nI_1]
    rw [hQ]
    by_cases cq : pc s = nn
    · have hlt := idx_lt h4 hnn hsm cq
      obtain ⟨f, rfl⟩ : ∃ f, fuel = f + 1 := ⟨fuel - 1, by omega⟩
      have hX : f_X_fit_L23 T_count N T_heads (3*N) T_places N T_withins S_count S_premises S_premiseCounts S_conclusions (f + 1) od im 2 (nI g) (nI c) r0 r1 r2 (nI g) (nI (idx pc m nn s)) =
          (f_M_matches T_count N T_heads (3*N) T_places N T_withins im (nI (cc s)) (nI g) 273804165120).bind fun r10 =>
          if r10.1 = 0 then
            f_X_fit_L23 T_count N T_heads (3*N) T_places N T_withins S_count S_premises S_premiseCounts S_conclusions f od r10.2 2 (nI g) (nI c) r0 r1 r2 (nI g) (nI (idx pc m nn s + 1))
          else
            (f_S_openVariables T_count N T_withins S_count S_premises S_premiseCounts S_conclusions (nI s)).bind fun r13 =>
            (f_H_add (nI c) r0 r1 r2 (nI s) r13 (nI (pc s))).bind fun r15 =>
            f_X_fit_L23 T_count N T_heads (3*N) T_places N T_withins S_count S_premises S_premiseCounts S_conclusions f od r10.2 2 (nI g) r15.1 r15.2.1 r15.2.2.1 r15.2.2.2 (nI g) (nI (idx pc m nn s + 1)) := by
        have ho : od (idx pc m nn s) = nI s := by rw [← cq]; exact hod s hsm
        have hoe : f_S_ordered S_count od (nI (idx pc m nn s)) = some (nI s) := by
          unfold f_S_ordered
          rw [S.1, if_neg (nI_pos (by omega)), if_neg (nI_ge hlt (by omega)), gd_t (ixb_t (by omega) (by omega)), nI_clamp (by omega), ho]
        have hcnt : f_S_count S_count = some (nI m) := by unfold f_S_count; rw [S.1]
        rw [f_X_fit_L23, hcnt, bd_s, if_neg (nI_ge hlt (by omega)), hoe, bd_s, sconcl_eq S hsm, bd_s]
        simp only [nmE, nI_1, spremises_eq S hsm, bd_s]
      rw [hX, if_pos (by rw [cq])]
      have hc30 : c < 30 := by omega
      rcases matches_eq w ct false hcc (by omega) hg im with ⟨im1, σ, a1, a2, -⟩ | ⟨im1, a1, a2⟩
      · rcases qmatches_eq w (Nat.le_refl n) hn qt hq har false hcc hg qi qb qw qv with ⟨qi1, qb1, qw1, qv1, τ, b1, b2, b3⟩ | ⟨qi1, qb1, qw1, qv1, b1, b2⟩
        · obtain ⟨o, x, o1, o2, o3, -⟩ := both_open ct hn hq S hsm
          rw [show bitsOf false = (273804165120 : Int64) from rfl] at a1
          rw [show zI false = (0 : Int32) from rfl] at b1
          obtain ⟨ht', t1, t2, t3⟩ := qhit_eq qb1 hc30 ho h1 h2 ht (nI s) (nI o) (nI nn)
          rw [a1, bd_s, if_neg (show ¬ (1 : Int32) = 0 by decide), o1, bd_s, hadd_eq hc30, bd_s, b1, bd_s, if_neg (show ¬ (1 : Int32) = 0 by decide), o2, bd_s, o3, bd_s, t1, bd_s]
          have := ih (by omega) f f' (by rw [e1, idx_y cq]; omega) (by omega) (c + 1) im1 (upd r0 c (nI s)) (upd r1 c (nI o)) (upd r2 c (nI (pc s))) (upd ho c (nI s)) (upd h1 c (nI o)) (upd h2 c (nI nn)) ht' qi1 qb1 qw1 qv1 (by rw [e1, idx_y cq]; omega) (fun i hi => ?_)
          · rw [e1, idx_y cq] at this
            exact this
          · by_cases e : i = c
            · rw [e, up_s, up_s, up_s, up_s, up_s, up_s]
              exact ⟨rfl, rfl, by rw [cq], s, hsm, rfl, rfl, τ, b2, fun v hv => by rw [t2 v hv]; exact b3 v hv⟩
            · rw [up_n e, up_n e, up_n e, up_n e, up_n e, up_n e]
              obtain ⟨d1, d2, d3, s', d4, d5, d6, ρ, d7, d8⟩ := hP i (by omega)
              exact ⟨d1, d2, d3, s', d4, d5, d6, ρ, d7, fun v hv => by rw [t3 (8 * i + v) (by omega)]; exact d8 v hv⟩
        · exact absurd a2 (b2 σ)
      · rcases qmatches_eq w (Nat.le_refl n) hn qt hq har false hcc hg qi qb qw qv with ⟨qi1, qb1, qw1, qv1, τ, b1, b2, b3⟩ | ⟨qi1, qb1, qw1, qv1, b1, b2⟩
        · exact absurd b2 (a2 τ)
        · rw [show bitsOf false = (273804165120 : Int64) from rfl] at a1
          rw [show zI false = (0 : Int32) from rfl] at b1
          rw [a1, bd_s, if_pos rfl, b1, bd_s, if_pos rfl]
          have := ih (by omega) f f' (by rw [e1, idx_y cq]; omega) (by omega) c im1 r0 r1 r2 ho h1 h2 ht qi1 qb1 qw1 qv1 (by rw [e1, idx_y cq]; omega) hP
          rw [e1, idx_y cq] at this
          exact this
    · rw [if_neg (fun e => cq (nI_inj (by omega) (by omega) e))]
      have := ih (by omega) fuel f' (by rw [e1, idx_no cq]; omega) (by omega) c im r0 r1 r2 ho h1 h2 ht qi qb qw qv (by rw [e1, idx_no cq]; omega) hP
      rw [e1, idx_no cq] at this
      exact this
theorem fit_out (R : RT tt n N sz ar T_count T_heads T_places T_olders T_sizes T_withins T_newest Q_all Q_kinds Q_which Q_firsts Q_seconds Q_thirds Q_nexts Q_heads Q_names Q_variables Q_holes Q_sizes) (har : ∀ h, h < 30 → Q_places h = ar h) (S : RS tt n m cc pc pp S_count S_premises S_premiseCounts S_conclusions Q_statements Q_premises Q_counts Q_conclusions) {g : Nat} (hg : g < n) (thr : Int32) {od : Nat → Int32} (hod : ordO pc m od) :
    ∀ e, e ≤ 5 → ∀ fuel fuel', m - idx pc m (5 - e) 0 < fuel → e < fuel' → ∀ c im r0 r1 r2 ho h1 h2 ht qi qb qw qv, c ≤ idx pc m (5 - e) 0 → HPt tt n m cc pc g c r0 r1 r2 ho h1 h2 ht → ∃ c' im' r0' r1' r2' ho' h1' h2' ht' qi' qb' qw' qv',
      f_X_fit_L23 T_count N T_heads (3*N) T_places N T_withins S_count S_premises S_premiseCounts S_conclusions fuel od im 2 (nI g) (nI c) r0 r1 r2 (nI g) (nI (idx pc m (5 - e) 0)) = some (0, nI c', od, im', 2, nI g, nI c', r0', r1', r2') ∧
      f_Q_fit_L26 Q_all Q_statements Q_kinds Q_which Q_firsts Q_seconds Q_thirds Q_variables Q_holes Q_places Q_conclusions Q_premises Q_counts fuel' thr 2 (nI c) ho h1 h2 ht qi qb qw qv (nI g) (nI (5 - e)) = some (nI c', thr, 2, nI c', ho', h1', h2', ht', qi', qb', qw', qv') ∧ c' ≤ m ∧ HPt tt n m cc pc g c' r0' r1' r2' ho' h1' h2' ht' := by
  have hm := S.2.2.1
  have h4 : ∀ s, s < m → pc s ≤ 4 := fun s hs => (S.2.2.2 s hs).2.1.2.2
  intro e
  induction e with
  | zero =>
    intro _ fuel fuel' hf hf' c im r0 r1 r2 ho h1 h2 ht qi qb qw qv hc hP
    obtain ⟨f, rfl⟩ : ∃ f, fuel = f + 1 := ⟨fuel - 1, by omega⟩
    obtain ⟨f', rfl⟩ : ∃ f, fuel' = f + 1 := ⟨fuel' - 1, by omega⟩
    have e5 : idx pc m (5 - 0) 0 = m := bse_5 pc m h4
    rw [e5] at hc ⊢
    refine ⟨c, im, r0, r1, r2, ho, h1, h2, ht, qi, qb, qw, qv, ?_, ?_, by omega, hP⟩
    · rw [f_X_fit_L23]
      unfold f_S_count f_H_count
      rw [S.1, bd_s, if_pos ((nI_leI (by omega) (by omega)).mpr (by omega)), bd_s]
    · rw [f_Q_fit_L26, if_pos (show (4 : Int32) < nI (5 - 0) by decide)]
  | succ e ih =>
    intro he fuel fuel' hf hf' c im r0 r1 r2 ho h1 h2 ht qi qb qw qv hc hP
    obtain ⟨f', rfl⟩ : ∃ f, fuel' = f + 1 := ⟨fuel' - 1, by omega⟩
    obtain ⟨nn, hnn⟩ : ∃ nn, nn = 5 - (e + 1) := ⟨_, rfl⟩
    rw [← hnn] at hf hc ⊢
    have hb := fit_in R har S hg thr hod (nn := nn) (by omega) (f_Q_fit_L26 Q_all Q_statements Q_kinds Q_which Q_firsts Q_seconds Q_thirds Q_variables Q_holes Q_places Q_conclusions Q_premises Q_counts f') (fun fuel c im r0 r1 r2 ho h1 h2 ht qi qb qw qv hf hc hP => by
      have := ih (by omega) fuel f' (by rw [show 5 - e = nn + 1 by omega]; exact hf) (by omega) c im r0 r1 r2 ho h1 h2 ht qi qb qw qv (by rw [show 5 - e = nn + 1 by omega]; exact hc) hP
      rw [show 5 - e = nn + 1 by omega] at this
      exact this) m (Nat.le_refl _) fuel FU (by rw [Nat.sub_self]; exact hf) (by unfold FU; omega) c im r0 r1 r2 ho h1 h2 ht qi qb qw qv (by rw [Nat.sub_self]; exact hc) hP
    rw [Nat.sub_self] at hb
    rw [f_Q_fit_L26, if_neg (show ¬ (4 : Int32) < nI nn from fun h => by rw [show (4 : Int32) = nI 4 from rfl, lt_lit (by omega) (by omega)] at h; omega)]
    rw [nI_0] at hb
    exact hb
theorem both_fit (R : RT tt n N sz ar T_count T_heads T_places T_olders T_sizes T_withins T_newest Q_all Q_kinds Q_which Q_firsts Q_seconds Q_thirds Q_nexts Q_heads Q_names Q_variables Q_holes Q_sizes) (har : ∀ h, h < 30 → Q_places h = ar h) (S : RS tt n m cc pc pp S_count S_premises S_premiseCounts S_conclusions Q_statements Q_premises Q_counts Q_conclusions) (H : RH tt n m cc pc H_kind H_subject H_count H_statementRow H_firstRow H_secondRow Q_hitKind Q_hits Q_hitOf Q_hitOne Q_hitTwo Q_hitTerms) (p0 : Int32) :
    ∃ (k b : Int32) (S_order' M_images' : Nat → Int32) (H_kind' H_subject' H_count' : Int32) (H_statementRow' H_firstRow' H_secondRow' : Nat → Int32) (O_out' : Nat → Int64) (Q_hitKind' Q_hits' : Int32) (Q_hitOf' Q_hitOne' Q_hitTwo' Q_hitTerms' Q_image' Q_bound' Q_waits' Q_waitsFor' : Nat → Int32),
      f_L_fit T_count N T_heads (3*N) T_places N T_withins S_count S_premises S_premiseCounts S_conclusions S_order M_images H_kind H_subject H_count H_statementRow H_firstRow H_secondRow O_out p0 = some (k, S_order', M_images', H_kind', H_subject', H_count', H_statementRow', H_firstRow', H_secondRow', O_out') ∧
      f_Q_fit Q_thrown Q_all Q_statements Q_hitKind Q_hits Q_kinds Q_which Q_firsts Q_seconds Q_thirds Q_variables Q_holes Q_places Q_conclusions Q_premises Q_counts Q_hitOf Q_hitOne Q_hitTwo Q_hitTerms Q_image Q_bound Q_waits Q_waitsFor p0 = some (b, k, Q_hitKind', Q_hits', Q_hitOf', Q_hitOne', Q_hitTwo', Q_hitTerms', Q_image', Q_bound', Q_waits', Q_waitsFor') ∧
      RH tt n m cc pc H_kind' H_subject' H_count' H_statementRow' H_firstRow' H_secondRow' Q_hitKind' Q_hits' Q_hitOf' Q_hitOne' Q_hitTwo' Q_hitTerms' ∧ (k = 0 → O_out' 0 = b.toInt64) := by
  have hm := S.2.2.1
  unfold f_L_fit f_X_fit f_Q_fit f_Q_refuses
  rcases goal_eq R p0 with ⟨h1, h2⟩ | ⟨h1, h2⟩ | ⟨h1, h2, g, hg, e, -⟩
  · rw [h1, h2, bd_s, bd_s]
    exact ⟨1, 0, S_order, M_images, H_kind, H_subject, H_count, H_statementRow, H_firstRow, H_secondRow, O_out, Q_hitKind, Q_hits, Q_hitOf, Q_hitOne, Q_hitTwo, Q_hitTerms, Q_image, Q_bound, Q_waits, Q_waitsFor, rfl, rfl, H, fun e => absurd e (by decide)⟩
  · rw [h1, h2, bd_s, bd_s]
    exact ⟨2, 0, S_order, M_images, H_kind, H_subject, H_count, H_statementRow, H_firstRow, H_secondRow, O_out, Q_hitKind, Q_hits, Q_hitOf, Q_hitOne, Q_hitTwo, Q_hitTerms, Q_image, Q_bound, Q_waits, Q_waitsFor, rfl, rfl, H, fun e => absurd e (by decide)⟩
  · obtain ⟨od, o1, o2⟩ := order_eq hm (fun s hs => (S.2.2.2 s hs).2.1.2.2) (fun s hs => (S.2.2.2 s hs).2.1.1) S_order
    obtain ⟨c', im', r0', r1', r2', ho', h1', h2', ht', qi', qb', qw', qv', l1, l2, l3, l4⟩ := fit_out R har S hg 0 o2 5 (Nat.le_refl _) FU FU (by unfold FU; omega) (by unfold FU; omega) 0 M_images H_statementRow H_firstRow H_secondRow Q_hitOf Q_hitOne Q_hitTwo Q_hitTerms Q_image Q_bound Q_waits Q_waitsFor (by omega) (fun i hi => by omega)
    rw [Nat.sub_self] at l1 l2
    rw [show idx pc m 0 0 = 0 from rfl, nI_0] at l1
    rw [nI_0] at l2
    refine ⟨0, nI c', od, im', 2, nI g, nI c', r0', r1', r2', vp_updL O_out 0 (nI c').toInt64, 2, nI c', ho', h1', h2', ht', qi', qb', qw', qv', ?_, ?_, ⟨c', by omega, rfl, rfl, fun i hi => ⟨(l4 i hi).1, (l4 i hi).2.1, (l4 i hi).2.2.1⟩, Or.inr (Or.inr (Or.inl ⟨rfl, rfl, g, hg, rfl, fun i hi => (l4 i hi).2.2.2⟩))⟩, fun _ => upL_s _ _ _⟩
    · rw [h1, bd_s, if_pos rfl]
      unfold f_H_begin
      rw [bd_s]
      rw [S.1] at l1 ⊢
      rw [o1, bd_s, e, l1, bd_s]
      rfl
    · rw [h2, bd_s, if_pos (by decide), bd_s, if_pos rfl, e]
      exact l2
end
