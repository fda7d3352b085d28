section
variable {tt : Nat → Tm} {n N m : Nat} {ar : Nat → Int32} {sz : Nat → Nat} {cc pc : Nat → Nat} {pp : Nat → Nat → Nat} {T_count : Int32} {T_heads T_places T_olders T_sizes : Nat → Int32} {T_withins : Nat → Int64} {T_newest : Nat → Int32} {Q_all Q_thrown : Int32} {Q_kinds Q_which Q_firsts Q_seconds Q_thirds Q_nexts Q_heads Q_names Q_variables Q_holes Q_sizes : Nat → Int32}
variable {S_count : Int32} {S_premises S_premiseCounts S_conclusions : Nat → Int32} {Q_statements : Int32} {Q_premises Q_counts Q_conclusions : Nat → Int32} {H_kind H_subject H_count : Int32} {H_statementRow H_firstRow H_secondRow : Nat → Int32} {Q_hitKind Q_hits : Int32} {Q_hitOf Q_hitOne Q_hitTwo Q_hitTerms : Nat → Int32} {O_out : Nat → Int64}
theorem nhB_iff (hq : QK tt n sz Q_names Q_variables Q_holes Q_sizes) {t : Nat} (ht : t < n) (hn : n ≤ 100) : nhB Q_holes (nI t) = true ↔ ¬ hasF true (tt t) := by
  unfold nhB
  rw [decide_eq_true_eq, nI_clamp (by omega)]
  have := qfree (fh := true) hq ht
  simpa using this
/-- no hole stands in the first of four terms, or one does -/
theorem holeIn_eq (ct : CT tt n N sz T_count T_heads T_places T_olders T_sizes T_withins T_newest) (hq : QK tt n sz Q_names Q_variables Q_holes Q_sizes) (hn : n ≤ 100) (p1 p2 p3 p4 : Int32) {k : Nat} (hk : k ≤ 4) (ht : ∀ i, i < k → ∃ t, t < n ∧ qf p1 p2 p3 p4 i = nI t) :
    f_X_holeStandsIn T_count N T_withins (nI k) p1 p2 p3 p4 = some (bI (!(allB (fun i => nhB Q_holes (qf p1 p2 p3 p4 i)) k))) := by
  have hh : ∀ x, (∃ t, t < n ∧ x = nI t) → f_T_holds T_count N T_withins x (4123168604160 : Int64) = some (bI (!(nhB Q_holes x))) := by
    rintro x ⟨t, ht, e⟩
    obtain ⟨h1, h2⟩ := holds_t ct ht true
    rw [e]
    by_cases c : hasF true (tt t)
    · have : nhB Q_holes (nI t) = false := by
        cases e2 : nhB Q_holes (nI t) with
        | false => rfl
        | true => exact absurd c ((nhB_iff hq ht hn).mp e2)
      rw [this]; exact h1 c
    · rw [(nhB_iff hq ht hn).mpr c]; exact h2 c
  have l1 : (nI k ≤ (0 : Int32)) = (k ≤ 0) := le_lit (b := 0) (by omega) (by omega)
  have l2 : (nI k ≤ (1 : Int32)) = (k ≤ 1) := le_lit (b := 1) (by omega) (by omega)
  have l3 : (nI k ≤ (2 : Int32)) = (k ≤ 2) := le_lit (b := 2) (by omega) (by omega)
  have l4 : (nI k ≤ (3 : Int32)) = (k ≤ 3) := le_lit (b := 3) (by omega) (by omega)
  unfold f_X_holeStandsIn f_X_holeStandsIn_B18 f_X_holeStandsIn_B37 f_X_holeStandsIn_B57
  simp only [l1, l2, l3, l4]
  by_cases c1 : k ≤ 0
  · rw [if_pos c1, if_pos (by omega), if_pos (by omega), if_pos (by omega), show k = 0 by omega]; rfl
  have q1 := hh p1 (ht 0 (by omega))
  rw [if_neg c1, q1, bd_s]
  cases g1 : nhB Q_holes p1 with
  | false =>
    rw [if_neg (by decide)]
    have : allB (fun i => nhB Q_holes (qf p1 p2 p3 p4 i)) k = false := by
      cases e : allB (fun i => nhB Q_holes (qf p1 p2 p3 p4 i)) k with
      | false => rfl
      | true => have := allB_iff.mp e 0 (by omega); rw [show qf p1 p2 p3 p4 0 = p1 from rfl, g1] at this; exact absurd this (by decide)
    rw [this]; rfl
  | true =>
    rw [if_pos (by decide)]
    by_cases c2 : k ≤ 1
    · rw [if_pos c2, if_pos (by omega), if_pos (by omega), show k = 1 by omega]
      show _ = some (bI (!(true && nhB Q_holes p1)))
      rw [g1]; rfl
    have q2 := hh p2 (ht 1 (by omega))
    rw [if_neg c2, q2, bd_s]
    cases g2 : nhB Q_holes p2 with
    | false =>
      rw [if_neg (by decide)]
      have : allB (fun i => nhB Q_holes (qf p1 p2 p3 p4 i)) k = false := by
        cases e : allB (fun i => nhB Q_holes (qf p1 p2 p3 p4 i)) k with
        | false => rfl
        | true => have := allB_iff.mp e 1 (by omega); rw [show qf p1 p2 p3 p4 1 = p2 from rfl, g2] at this; exact absurd this (by decide)
      rw [this]; rfl
    | true =>
      rw [if_pos (by decide)]
      by_cases c3 : k ≤ 2
      · rw [if_pos c3, if_pos (by omega), show k = 2 by omega]
        show _ = some (bI (!((true && nhB Q_holes p1) && nhB Q_holes p2)))
        rw [g1, g2]; rfl
      have q3 := hh p3 (ht 2 (by omega))
      rw [if_neg c3, q3, bd_s]
      cases g3 : nhB Q_holes p3 with
      | false =>
        rw [if_neg (by decide)]
        have : allB (fun i => nhB Q_holes (qf p1 p2 p3 p4 i)) k = false := by
          cases e : allB (fun i => nhB Q_holes (qf p1 p2 p3 p4 i)) k with
          | false => rfl
          | true => have := allB_iff.mp e 2 (by omega); rw [show qf p1 p2 p3 p4 2 = p3 from rfl, g3] at this; exact absurd this (by decide)
        rw [this]; rfl
      | true =>
        rw [if_pos (by decide)]
        by_cases c4 : k ≤ 3
        · rw [if_pos c4, show k = 3 by omega]
          show _ = some (bI (!(((true && nhB Q_holes p1) && nhB Q_holes p2) && nhB Q_holes p3)))
          rw [g1, g2, g3]; rfl
        have q4 := hh p4 (ht 3 (by omega))
        rw [if_neg c4, q4, bd_s, show k = 4 by omega]
        show _ = some (bI (!((((true && nhB Q_holes p1) && nhB Q_holes p2) && nhB Q_holes p3) && nhB Q_holes p4)))
        rw [g1, g2, g3]
        cases g4 : nhB Q_holes p4 <;> rfl
theorem qput_loop (p0 p1 p2 p3 thr : Int32) {k' st : Nat} (hk : k' ≤ 4) (hst : st < 30) : ∀ d, d ≤ k' → ∀ fuel, d < fuel → ∀ Q_premises, ∃ Q_premises',
    f_Q_state_L233 Q_all Q_holes fuel thr (nI st) Q_hitKind Q_hits Q_conclusions Q_premises Q_counts p0 p1 p2 p3 (nI k') (nI (k' - d)) = some (nI st, thr, nI (st + 1), 0, 0, Q_conclusions, Q_premises', Q_counts) ∧
    (∀ j, k' - d ≤ j → j < k' → Q_premises' (4 * st + j) = qf p0 p1 p2 p3 j) ∧ (∀ i, (∀ j, k' - d ≤ j → j < k' → i ≠ 4 * st + j) → Q_premises' i = Q_premises i) := by
  intro d
  induction d with
  | zero =>
    intro _ fuel hf Q_premises
    obtain ⟨f, rfl⟩ : ∃ f, fuel = f + 1 := ⟨fuel - 1, by omega⟩
    refine ⟨Q_premises, ?_, fun j h1 h2 => by omega, fun i _ => rfl⟩
    rw [f_Q_state_L233, if_pos ((nI_leI (by omega) (by omega)).mpr (by omega)), nmE, nI_1, nI_pred]
  | succ d ih =>
    intro hd fuel hf Q_premises
    obtain ⟨f, rfl⟩ : ∃ f, fuel = f + 1 := ⟨fuel - 1, by omega⟩
    obtain ⟨k, hkk⟩ : ∃ k, k = k' - (d + 1) := ⟨_, rfl⟩
    obtain ⟨Q_premises', h1, h2, h3⟩ := ih (by omega) f (by omega) (upd Q_premises (4 * st + k) (qf p0 p1 p2 p3 k))
    have hk1 : k' - d = k + 1 := by omega
    rw [hk1] at h1 h2 h3
    refine ⟨Q_premises', ?_, fun j h4 h5 => ?_, fun i h4 => ?_⟩
    · rw [← hkk, f_Q_state_L233, if_neg (nI_ge (by omega) (by omega))]
      simp (disch := omega) only [nI_4x, nI_add, ixb_t, gd_tt, nI_clamp, nmE, nI_1]
      rw [← h1]
      rcases (show k = 0 ∨ k = 1 ∨ k = 2 ∨ k = 3 by omega) with e | e | e | e <;> rw [e]
      · rw [if_pos (by decide)]; rfl
      · rw [if_neg (by decide), if_pos (by decide)]; rfl
      · rw [if_neg (by decide), if_neg (by decide), if_pos (by decide)]; rfl
      · rw [if_neg (by decide), if_neg (by decide), if_neg (by decide)]; rfl
    · by_cases e : j = k
      · rw [e, h3 (4 * st + k) (fun j' a b => by omega), up_s]
      · exact h2 j (by omega) h5
    · rw [h3 i (fun j a b => h4 j (by omega) b), up_n (h4 k (by omega) (by omega))]
theorem both_state (R : RT tt n N sz ar T_count T_heads T_places T_olders T_sizes T_withins T_newest Q_all Q_kinds Q_which Q_firsts Q_seconds Q_thirds Q_nexts Q_heads Q_names Q_variables Q_holes Q_sizes) (S : RS tt n m cc pc pp S_count S_premises S_premiseCounts S_conclusions Q_statements Q_premises Q_counts Q_conclusions) (H : RH tt n m cc pc H_kind H_subject H_count H_statementRow H_firstRow H_secondRow Q_hitKind Q_hits Q_hitOf Q_hitOne Q_hitTwo Q_hitTerms) (p0 p1 p2 p3 p4 : Int32) :
    ∃ (k b : Int32) (m' : Nat) (cc' pc' : Nat → Nat) (pp' : Nat → Nat → Nat) (S_count' : Int32) (S_premises' S_premiseCounts' S_conclusions' : Nat → Int32) (Q_statements' : Int32) (Q_premises' Q_counts' Q_conclusions' : Nat → Int32) (H_kind' H_subject' H_count' Q_hitKind' Q_hits' : Int32) (O_out' : Nat → Int64),
      f_L_state T_count N T_withins S_count S_premises S_premiseCounts S_conclusions H_kind H_subject H_count O_out p0 p1 p2 p3 p4 = some (k, S_count', S_premises', S_premiseCounts', S_conclusions', H_kind', H_subject', H_count', O_out') ∧ f_Q_state Q_thrown Q_all Q_statements Q_hitKind Q_hits Q_holes Q_conclusions Q_premises Q_counts p0 p1 p2 p3 p4 = some (b, k, Q_statements', Q_hitKind', Q_hits', Q_conclusions', Q_premises', Q_counts') ∧
      RS tt n m' cc' pc' pp' S_count' S_premises' S_premiseCounts' S_conclusions' Q_statements' Q_premises' Q_counts' Q_conclusions' ∧ RH tt n m' cc' pc' H_kind' H_subject' H_count' H_statementRow H_firstRow H_secondRow Q_hitKind' Q_hits' Q_hitOf Q_hitOne Q_hitTwo Q_hitTerms ∧ (k = 0 → O_out' 0 = b.toInt64) := by
  have hn : n ≤ 100 := R.2.1
  have ct := R.2.2.1
  have hq := R.2.2.2.2
  have hcnt : T_count = nI n := ct.1
  have hall : Q_all = nI n := R.2.2.2.1.1
  obtain ⟨k, hk, hl, hq1, hq2⟩ := lead_eq p0 p1 p2 p3
  have hQ : f_Q_state Q_thrown Q_all Q_statements Q_hitKind Q_hits Q_holes Q_conclusions Q_premises Q_counts p0 p1 p2 p3 p4 = f_Q_state_B200 Q_all Q_holes Q_thrown Q_statements Q_hitKind Q_hits Q_conclusions Q_premises Q_counts p0 p1 p2 p3 p4 (nI k) (codeS (gBk n p4 (qf p0 p1 p2 p3) k) (fBk n Q_holes p4 (qf p0 p1 p2 p3) k) (decide (Q_statements = 30))) := by
    have hB : f_Q_state Q_thrown Q_all Q_statements Q_hitKind Q_hits Q_holes Q_conclusions Q_premises Q_counts p0 p1 p2 p3 p4 = f_Q_state_B38 Q_all Q_holes Q_thrown Q_statements Q_hitKind Q_hits Q_conclusions Q_premises Q_counts p0 p1 p2 p3 p4 (nI k) := by
      unfold f_X_leading at hl
      unfold f_Q_state
      by_cases c1 : p0 = -1
      · rw [if_pos c1] at hl ⊢; rw [Option.some.inj hl]
      · rw [if_neg c1] at hl ⊢
        by_cases c2 : p1 = -1
        · rw [if_pos c2] at hl ⊢; rw [Option.some.inj hl]
        · rw [if_neg c2] at hl ⊢
          by_cases c3 : p2 = -1
          · rw [if_pos c3] at hl ⊢; rw [Option.some.inj hl]
          · rw [if_neg c3] at hl ⊢
            by_cases c4 : p3 = -1
            · rw [if_pos c4] at hl ⊢; rw [Option.some.inj hl]
            · rw [if_neg c4] at hl ⊢; rw [Option.some.inj hl]
    have hlp := qstate_loop (Q_thrown := Q_thrown) (Q_holes := Q_holes) (Q_statements := Q_statements) (Q_hitKind := Q_hitKind) (Q_hits := Q_hits) (Q_conclusions := Q_conclusions) (Q_premises := Q_premises) (Q_counts := Q_counts) hn hall p0 p1 p2 p3 p4 hk k (Nat.le_refl k) FU (by unfold FU; omega)
    rw [Nat.sub_self, nI_0] at hlp
    rw [hB, ← hlp]
    unfold f_Q_state_B38
    generalize FU = F
    rw [isTerm_has, hall, has_isTb (show n < 2 ^ 31 by omega), bd_s]
    unfold gBk fBk
    cases ht : isTb n p4 with
    | false => rw [if_pos (by decide)]; rfl
    | true =>
      obtain ⟨t, ht1, ht2⟩ := (isTb_iff (by omega) _).mp ht
      rw [if_neg (by decide), gd_t (by rw [ht2]; exact ixb_t (by omega) (by omega))]
      unfold nhB
      by_cases ch : Q_holes p4.toNatClampNeg = 0
      · rw [if_pos ch, decide_eq_true ch]; rfl
      · rw [if_neg ch, decide_eq_false ch]; rfl
  have hbad : ∀ k : Int32, k ≠ 0 → f_L_state T_count N T_withins S_count S_premises S_premiseCounts S_conclusions H_kind H_subject H_count O_out p0 p1 p2 p3 p4 = some (k, S_count, S_premises, S_premiseCounts, S_conclusions, H_kind, H_subject, H_count, O_out) → f_Q_state Q_thrown Q_all Q_statements Q_hitKind Q_hits Q_holes Q_conclusions Q_premises Q_counts p0 p1 p2 p3 p4 = some (0, k, Q_statements, Q_hitKind, Q_hits, Q_conclusions, Q_premises, Q_counts) → ∃ (k b : Int32) (m' : Nat) (cc' pc' : Nat → Nat) (pp' : Nat → Nat → Nat) (S_count' : Int32) (S_premises' S_premiseCounts' S_conclusions' : Nat → Int32) (Q_statements' : Int32) (Q_premises' Q_counts' Q_conclusions' : Nat → Int32) (H_kind' H_subject' H_count' Q_hitKind' Q_hits' : Int32) (O_out' : Nat → Int64),
      f_L_state T_count N T_withins S_count S_premises S_premiseCounts S_conclusions H_kind H_subject H_count O_out p0 p1 p2 p3 p4 = some (k, S_count', S_premises', S_premiseCounts', S_conclusions', H_kind', H_subject', H_count', O_out') ∧ f_Q_state Q_thrown Q_all Q_statements Q_hitKind Q_hits Q_holes Q_conclusions Q_premises Q_counts p0 p1 p2 p3 p4 = some (b, k, Q_statements', Q_hitKind', Q_hits', Q_conclusions', Q_premises', Q_counts') ∧
      RS tt n m' cc' pc' pp' S_count' S_premises' S_premiseCounts' S_conclusions' Q_statements' Q_premises' Q_counts' Q_conclusions' ∧ RH tt n m' cc' pc' H_kind' H_subject' H_count' H_statementRow H_firstRow H_secondRow Q_hitKind' Q_hits' Q_hitOf Q_hitOne Q_hitTwo Q_hitTerms ∧ (k = 0 → O_out' 0 = b.toInt64) :=
    fun k hk h1 h2 => ⟨k, 0, m, cc, pc, pp, _, _, _, _, _, _, _, _, _, _, _, _, _, _, h1, h2, S, H, fun e => absurd e hk⟩
  have rB : ∀ (x6 s1 : Int32), ¬ s1 ≤ 0 → f_Q_state_B200 Q_all Q_holes Q_thrown Q_statements Q_hitKind Q_hits Q_conclusions Q_premises Q_counts p0 p1 p2 p3 p4 x6 s1 = some (0, s1, Q_statements, Q_hitKind, Q_hits, Q_conclusions, Q_premises, Q_counts) := by
    intro x6 s1 hs
    unfold f_Q_state_B200 f_Q_refuses
    rw [if_neg hs, bd_s, if_neg (show ¬ (1 : Int32) = 0 by decide)]
  unfold codeS at hQ
  rcases areT_eq (n := n) (by omega) p0 p1 p2 p3 hk with ⟨t1, t2⟩ | ⟨t1, i, hi, t2⟩
  case inr =>
    have hg0 : gBk n p4 (qf p0 p1 p2 p3) k = false := by
      cases e : gBk n p4 (qf p0 p1 p2 p3) k with
      | false => rfl
      | true =>
        unfold gBk at e
        rw [Bool.and_eq_true] at e
        obtain ⟨t, h1, h2⟩ := (isTb_iff (by omega) _).mp (allB_iff.mp e.2 i hi)
        exact absurd h2 (t2 t h1)
    refine hbad 1 (by decide) ?_ ?_
    · unfold f_L_state f_X_state
      rw [hl, bd_s, hcnt, t1, bd_s, if_pos rfl, bd_s]
      rfl
    · rw [hQ, if_pos hg0, rB _ _ (by decide)]
  cases ht4 : isTb n p4 with
  | false =>
    have hg0 : gBk n p4 (qf p0 p1 p2 p3) k = false := by unfold gBk; rw [ht4]; rfl
    refine hbad 1 (by decide) ?_ ?_
    · unfold f_L_state f_X_state
      rw [hl, bd_s, hcnt, t1, bd_s, if_neg (by decide), has_isTb (show n < 2 ^ 31 by omega), ht4, bd_s, if_pos (by decide), bd_s]
      rfl
    · rw [hQ, if_pos hg0, rB _ _ (by decide)]
  | true =>
    obtain ⟨t4, ht41, ht42⟩ := (isTb_iff (by omega) _).mp ht4
    have hg1 : ¬ gBk n p4 (qf p0 p1 p2 p3) k = false := by
      have : gBk n p4 (qf p0 p1 p2 p3) k = true := by
        unfold gBk
        rw [ht4, Bool.true_and]
        exact allB_iff.mpr (fun i hi => (isTb_iff (by omega) _).mpr (t2 i hi))
      rw [this]; decide
    have hho := holeIn_eq ct hq hn p0 p1 p2 p3 hk t2
    have hh4 : f_T_holds T_count N T_withins p4 (4123168604160 : Int64) = some (bI (!(nhB Q_holes p4))) := by
      obtain ⟨h1, h2⟩ := holds_t ct ht41 true
      rw [ht42]
      by_cases c : hasF true (tt t4)
      · have : nhB Q_holes (nI t4) = false := by
          cases e2 : nhB Q_holes (nI t4) with
          | false => rfl
          | true => exact absurd c ((nhB_iff hq ht41 hn).mp e2)
        rw [this]; exact h1 c
      · rw [(nhB_iff hq ht41 hn).mpr c]; exact h2 c
    have hfb : fBk n Q_holes p4 (qf p0 p1 p2 p3) k = (allB (fun i => nhB Q_holes (qf p0 p1 p2 p3 i)) k && nhB Q_holes p4) := by
      unfold fBk
      rw [ht4, Bool.true_and, Bool.and_comm]
      congr 1
      rw [Bool.eq_iff_iff, allB_iff, allB_iff]
      constructor
      · intro h i hi; exact (Bool.and_eq_true _ _ ▸ h i hi).2
      · intro h i hi; rw [Bool.and_eq_true]; exact ⟨(isTb_iff (by omega) _).mpr (t2 i hi), h i hi⟩
    have hXs : f_X_state T_count N T_withins S_count S_premises S_premiseCounts S_conclusions H_kind H_subject H_count p0 p1 p2 p3 p4 = if bI (!(allB (fun i => nhB Q_holes (qf p0 p1 p2 p3 i)) k)) = 0 then (if bI (!(nhB Q_holes p4)) = 0 then (f_S_add S_count S_premises S_premiseCounts S_conclusions (nI k) p0 p1 p2 p3 p4).bind fun r12 =>
          if r12.1 = (-1 : Int32) then
            some (3, (0 : Int32), r12.2.1, r12.2.2.1, r12.2.2.2.1, r12.2.2.2.2, H_kind, H_subject, H_count)
          else
            (f_H_clear H_kind H_subject H_count).bind fun r14 =>
            some (0, r12.1, r12.2.1, r12.2.2.1, r12.2.2.2.1, r12.2.2.2.2, r14.1, r14.2.1, r14.2.2)
        else some (2, (0 : Int32), S_count, S_premises, S_premiseCounts, S_conclusions, H_kind, H_subject, H_count)) else some (2, (0 : Int32), S_count, S_premises, S_premiseCounts, S_conclusions, H_kind, H_subject, H_count) := by
      unfold f_X_state
      rw [hl, bd_s, hh4, hho, bd_s, bd_s, hcnt, t1, bd_s, if_neg (by decide), has_isTb (show n < 2 ^ 31 by omega), ht4, bd_s, if_neg (by decide)]
    simp only [bI_0, Bool.not_eq_false'] at hXs
    by_cases ca : allB (fun i => nhB Q_holes (qf p0 p1 p2 p3 i)) k = true ∧ nhB Q_holes p4 = true
    case neg =>
      have hf0 : fBk n Q_holes p4 (qf p0 p1 p2 p3) k = false := by
        rw [hfb]
        cases e : (allB (fun i => nhB Q_holes (qf p0 p1 p2 p3 i)) k && nhB Q_holes p4) with
        | false => rfl
        | true => exact absurd (Bool.and_eq_true _ _ ▸ e) ca
      refine hbad 2 (by decide) ?_ ?_
      · unfold f_L_state
        rw [hXs]
        by_cases c1 : allB (fun i => nhB Q_holes (qf p0 p1 p2 p3 i)) k = true
        · rw [if_pos c1, if_neg (fun c2 => ca ⟨c1, c2⟩), bd_s]; rfl
        · rw [if_neg c1, bd_s]; rfl
      · rw [hQ, if_neg hg1, if_pos hf0, rB _ _ (by decide)]
    have hf1 : ¬ fBk n Q_holes p4 (qf p0 p1 p2 p3) k = false := by rw [hfb, ca.1, ca.2]; decide
    rw [if_pos ca.1, if_pos ca.2] at hXs
    rw [if_neg hg1, if_neg hf1] at hQ
    obtain ⟨s1, s2, s3, s4⟩ := S
    by_cases cf : m = 30
    · refine hbad 3 (by decide) ?_ ?_
      · unfold f_L_state
        rw [hXs]
        unfold f_S_add
        rw [s1, if_neg (show ¬ nI m < (30 : Int32) from (nI_nlt (by omega) (by omega) : ¬ nI m < nI 30)), bd_s]
        rfl
      · rw [hQ, if_pos (decide_eq_true (by rw [s2, cf]; rfl)), rB _ _ (by decide)]
    · have hm30 : m < 30 := by omega
      rw [if_neg (by rw [decide_eq_true_eq, s2]; exact fun e => cf (nI_inj (b := 30) (by omega) (by omega) e))] at hQ
      obtain ⟨Q_premises', l1, l2, l3⟩ := qput_loop (Q_all := Q_all) (Q_holes := Q_holes) (Q_hitKind := Q_hitKind) (Q_hits := Q_hits) (Q_conclusions := upd Q_conclusions m p4) (Q_counts := upd Q_counts m (nI k)) p0 p1 p2 p3 0 hk hm30 k (Nat.le_refl k) FU (by unfold FU; omega) Q_premises
      rw [Nat.sub_self, nI_0] at l1
      have hQ2 : f_Q_state Q_thrown Q_all Q_statements Q_hitKind Q_hits Q_holes Q_conclusions Q_premises Q_counts p0 p1 p2 p3 p4 = some (nI m, 0, nI (m + 1), 0, 0, upd Q_conclusions m p4, Q_premises', upd Q_counts m (nI k)) := by
        rw [hQ, ← l1]
        unfold f_Q_state_B200 f_Q_refuses
        generalize FU = F
        rw [if_pos (by decide), bd_s, if_pos rfl, s2, gd_t (ixb_t hm30 (by omega)), nmE, gd_t (ixb_t hm30 (by omega)), nmE, nI_clamp (by omega)]
      have hL : f_L_state T_count N T_withins S_count S_premises S_premiseCounts S_conclusions H_kind H_subject H_count O_out p0 p1 p2 p3 p4 = some (0, nI (m + 1), upd (upd (upd (upd S_premises (4 * m) p0) (4 * m + 1) p1) (4 * m + 2) p2) (4 * m + 3) p3, upd S_premiseCounts m (nI k), upd S_conclusions m p4, -1, -1, 0, vp_updL O_out 0 (nI m).toInt64) := by
        unfold f_L_state
        rw [hXs]
        unfold f_S_add f_H_clear f_H_begin
        rw [s1, if_pos (show nI m < (30 : Int32) from (nI_lt hm30 (by omega) : nI m < nI 30))]
        simp (disch := omega) only [nI_x4, nI_1, nI_2, nI_3, ixb_t, gd_tt, nI_clamp, nmE, bd_s, nI_pred, nI_nm1, if_false, if_true, ixb01, clamp0]
      refine ⟨0, nI m, m + 1, fun s => if s = m then t4 else cc s, fun s => if s = m then k else pc s, fun s j => if s = m then (qf p0 p1 p2 p3 j).toNatClampNeg else pp s j, _, _, _, _, _, _, _, _, _, _, _, _, _, _, hL, hQ2, ⟨rfl, rfl, by omega, fun s hs => ?_⟩, ⟨0, by omega, rfl, rfl, fun i hi => by omega, Or.inl ⟨rfl, rfl, rfl⟩⟩, fun _ => upL_s _ _ _⟩
      by_cases e : s = m
      · rw [e]
        simp only [if_true, up_s]
        refine ⟨⟨ht42, ht42, ht41, (nhB_iff hq ht41 hn).mp (by rw [← ht42]; exact ca.2)⟩, ⟨trivial, trivial, hk⟩, fun j hj => ?_⟩
        obtain ⟨t, ht, et⟩ := t2 j hj
        rw [l2 j (by omega) hj, et, nI_clamp (by omega)]
        refine ⟨?_, rfl, ht, (nhB_iff hq ht hn).mp (by rw [← et]; exact allB_iff.mp ca.1 j hj)⟩
        rw [← et]
        rcases (show j = 0 ∨ j = 1 ∨ j = 2 ∨ j = 3 by omega) with e2 | e2 | e2 | e2 <;> rw [e2]
        · rw [up_n (by omega), up_n (by omega), up_n (by omega), Nat.add_zero, up_s]; rfl
        · rw [up_n (by omega), up_n (by omega), up_s]; rfl
        · rw [up_n (by omega), up_s]; rfl
        · rw [up_s]; rfl
      · simp only [if_neg e]
        obtain ⟨⟨a1, a2, a3, a4⟩, ⟨b1, b2, b3⟩, c⟩ := s4 s (by omega)
        rw [up_n e, up_n e, up_n e, up_n e]
        refine ⟨⟨a1, a2, a3, a4⟩, ⟨b1, b2, b3⟩, fun j hj => ?_⟩
        rw [up_n (by omega), up_n (by omega), up_n (by omega), up_n (by omega), l3 (4 * s + j) (fun j' _ hj' => by omega)]
        exact c j hj
end
