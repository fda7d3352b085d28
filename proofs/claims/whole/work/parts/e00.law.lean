/-- class and reference agree, cell by cell -/
def INV (X_namesUsed : Int32) (X_arities : (Nat → Int32)) (T_count : Int32) (nT_heads : Nat) (T_heads : (Nat → Int32)) (nT_places : Nat) (T_places : (Nat → Int32)) (nT_olders : Nat) (T_olders : (Nat → Int32)) (nT_sizes : Nat) (T_sizes : (Nat → Int32)) (nT_withins : Nat) (T_withins : (Nat → Int64)) (T_newest : (Nat → Int32)) (S_count : Int32) (S_premises : (Nat → Int32)) (S_premiseCounts : (Nat → Int32)) (S_conclusions : (Nat → Int32)) (S_order : (Nat → Int32)) (M_images : (Nat → Int32)) (M_path : (Nat → Int32)) (F_shape : Int32) (F_match : Int32) (F_premise : Int32) (F_seen : (Nat → Int32)) (F_waiting : (Nat → Int32)) (E_level : Int32) (E_steps : Int32) (E_tries : Int32) (E_taken : Int32) (E_first : Int32) (E_goals : (Nat → Int32)) (E_marks : (Nat → Int32)) (E_looked : (Nat → Int32)) (E_underway : (Nat → Int32)) (E_met : (Nat → Int32)) (E_takenHere : (Nat → Int32)) (H_kind : Int32) (H_subject : Int32) (H_count : Int32) (H_statementRow : (Nat → Int32)) (H_firstRow : (Nat → Int32)) (H_secondRow : (Nat → Int32)) (O_out : (Nat → Int64)) (Q_thrown : Int32) (Q_all : Int32) (Q_statements : Int32) (Q_hitKind : Int32) (Q_hits : Int32) (Q_tries : Int32) (Q_takenAll : Int32) (Q_takenFirst : Int32) (Q_kinds : (Nat → Int32)) (Q_which : (Nat → Int32)) (Q_firsts : (Nat → Int32)) (Q_seconds : (Nat → Int32)) (Q_thirds : (Nat → Int32)) (Q_nexts : (Nat → Int32)) (Q_heads : (Nat → Int32)) (Q_names : (Nat → Int32)) (Q_variables : (Nat → Int32)) (Q_holes : (Nat → Int32)) (Q_sizes : (Nat → Int32)) (Q_places : (Nat → Int32)) (Q_conclusions : (Nat → Int32)) (Q_premises : (Nat → Int32)) (Q_counts : (Nat → Int32)) (Q_hitOf : (Nat → Int32)) (Q_hitOne : (Nat → Int32)) (Q_hitTwo : (Nat → Int32)) (Q_hitTerms : (Nat → Int32)) (Q_image : (Nat → Int32)) (Q_bound : (Nat → Int32)) (Q_waits : (Nat → Int32)) (Q_waitsFor : (Nat → Int32)) (Q_seen : (Nat → Int32)) (Q_goals : (Nat → Int32)) (Q_steps : (Nat → Int32)) (Q_looked : (Nat → Int32)) (Q_under : (Nat → Int32)) (Q_taken : (Nat → Int32)) (Q_news : (Nat → Int32)) (Q_order : (Nat → Int32)) (Q_there : (Nat → Int32)) (Q_back : (Nat → Int32)) : Prop :=
  ∃ (tt : Nat → Tm) (n N : Nat) (sz : Nat → Nat) (ar : Nat → Int32) (m : Nat) (cc pc : Nat → Nat) (pp : Nat → Nat → Nat), nT_heads = N ∧ nT_places = 3*N ∧ nT_olders = N ∧ nT_sizes = N ∧ nT_withins = N ∧ RT tt n N sz ar T_count T_heads T_places T_olders T_sizes T_withins T_newest Q_all Q_kinds Q_which Q_firsts Q_seconds Q_thirds Q_nexts Q_heads Q_names Q_variables Q_holes Q_sizes ∧ RA ar X_arities Q_places X_namesUsed ∧ RS tt n m cc pc pp S_count S_premises S_premiseCounts S_conclusions Q_statements Q_premises Q_counts Q_conclusions ∧ RH tt n m cc pc H_kind H_subject H_count H_statementRow H_firstRow H_secondRow Q_hitKind Q_hits Q_hitOf Q_hitOne Q_hitTwo Q_hitTerms ∧ E_tries = Q_tries ∧ E_taken = Q_takenAll ∧ E_first = Q_takenFirst
theorem cmp_self (a : Int64) : lg_cmp a a = 0 := by
  unfold lg_cmp
  simp
theorem tailL {α : Type} {k b : Int32} {O : Int64} (h : k = 0 → O = b.toInt64) (Y Z : Option α) : ((f_Q_thrown k).bind fun r => if r = k then (if k = 0 then gd (ixb (0 : Int32) 1) (if lg_cmp O b.toInt64 = 0 then Y else Z) else Y) else Z) = Y := by
  unfold f_Q_thrown
  rw [bd_s, if_pos rfl]
  by_cases c : k = 0
  · rw [if_pos c, ixb01, gd_tt, h c, cmp_self, if_pos rfl]
  · rw [if_neg c]
theorem tailB {α : Type} {k b : Int32} {O : Int64} (h : k = 0 → O = b.toInt64) (hb : b = 0 ∨ b = 1) (Y Z : Option α) : ((f_Q_thrown k).bind fun r => if r = k then (if k = 0 then gd (ixb (0 : Int32) 1) (if b = 0 then (if lg_cmp O (0 : Int64) = 0 then Y else Z) else (if lg_cmp O (1 : Int64) = 0 then Y else Z)) else Y) else Z) = Y := by
  unfold f_Q_thrown
  rw [bd_s, if_pos rfl]
  by_cases c : k = 0
  · rw [if_pos c, ixb01, gd_tt, h c]
    rcases hb with e | e
    · rw [e, if_pos rfl, show (0 : Int32).toInt64 = 0 from rfl, cmp_self, if_pos rfl]
    · rw [e, if_neg (by decide), show (1 : Int32).toInt64 = 1 from rfl, cmp_self, if_pos rfl]
  · rw [if_neg c]
