set_option maxHeartbeats 8000000 in
set_option maxRecDepth 100000 in
theorem law_loop {p : Program} {l : Launch} {e : Env} {s : State} {m : MethodId} {below : List Frame} {meth : Method} {c : Code} {b L : Nat} {xs : Nat → Int32} {D : va_G} {cI cJ cZ : ClassId} {aK : Nat} {cK : Cell} {aX aX_arities aT aT_newest aS aS_premises aS_premiseCounts aS_conclusions aS_order aM aM_images aM_path aF aF_seen aF_waiting aE aE_goals aE_marks aE_looked aE_underway aE_met aE_takenHere aH aH_statementRow aH_firstRow aH_secondRow aO_out aQ aQ_kinds aQ_which aQ_firsts aQ_seconds aQ_thirds aQ_nexts aQ_heads aQ_names aQ_variables aQ_holes aQ_sizes aQ_places aQ_conclusions aQ_premises aQ_counts aQ_hitOf aQ_hitOne aQ_hitTwo aQ_hitTerms aQ_image aQ_bound aQ_waits aQ_waitsFor aQ_seen aQ_goals aQ_steps aQ_looked aQ_under aQ_taken aQ_news aQ_order aQ_there aQ_back : Nat} (hL : L ≤ 3072) (CX : LCtx p l s m meth c b L xs D cI cJ cZ aK cK) : ∀ (n k : Nat), k ≤ 512 → ∀ (X_namesUsed_23 : Int32) (X_arities_23 : (Nat → Int32)) (T_count_23 : Int32) (nT_heads_23 : Nat) (T_heads_23 : (Nat → Int32)) (nT_places_23 : Nat) (T_places_23 : (Nat → Int32)) (nT_olders_23 : Nat) (T_olders_23 : (Nat → Int32)) (nT_sizes_23 : Nat) (T_sizes_23 : (Nat → Int32)) (nT_withins_23 : Nat) (T_withins_23 : (Nat → Int64)) (T_newest_23 : (Nat → Int32)) (S_count_23 : Int32) (S_premises_23 : (Nat → Int32)) (S_premiseCounts_23 : (Nat → Int32)) (S_conclusions_23 : (Nat → Int32)) (S_order_23 : (Nat → Int32)) (M_images_23 : (Nat → Int32)) (M_path_23 : (Nat → Int32)) (F_shape_23 : Int32) (F_match_23 : Int32) (F_premise_23 : Int32) (F_seen_23 : (Nat → Int32)) (F_waiting_23 : (Nat → Int32)) (E_level_23 : Int32) (E_steps_23 : Int32) (E_tries_23 : Int32) (E_taken_23 : Int32) (E_first_23 : Int32) (E_goals_23 : (Nat → Int32)) (E_marks_23 : (Nat → Int32)) (E_looked_23 : (Nat → Int32)) (E_underway_23 : (Nat → Int32)) (E_met_23 : (Nat → Int32)) (E_takenHere_23 : (Nat → Int32)) (H_kind_23 : Int32) (H_subject_23 : Int32) (H_count_23 : Int32) (H_statementRow_23 : (Nat → Int32)) (H_firstRow_23 : (Nat → Int32)) (H_secondRow_23 : (Nat → Int32)) (O_out_23 : (Nat → Int64)) (Q_thrown_23 : Int32) (Q_all_23 : Int32) (Q_statements_23 : Int32) (Q_hitKind_23 : Int32) (Q_hits_23 : Int32) (Q_tries_23 : Int32) (Q_takenAll_23 : Int32) (Q_takenFirst_23 : Int32) (Q_kinds_23 : (Nat → Int32)) (Q_which_23 : (Nat → Int32)) (Q_firsts_23 : (Nat → Int32)) (Q_seconds_23 : (Nat → Int32)) (Q_thirds_23 : (Nat → Int32)) (Q_nexts_23 : (Nat → Int32)) (Q_heads_23 : (Nat → Int32)) (Q_names_23 : (Nat → Int32)) (Q_variables_23 : (Nat → Int32)) (Q_holes_23 : (Nat → Int32)) (Q_sizes_23 : (Nat → Int32)) (Q_places_23 : (Nat → Int32)) (Q_conclusions_23 : (Nat → Int32)) (Q_premises_23 : (Nat → Int32)) (Q_counts_23 : (Nat → Int32)) (Q_hitOf_23 : (Nat → Int32)) (Q_hitOne_23 : (Nat → Int32)) (Q_hitTwo_23 : (Nat → Int32)) (Q_hitTerms_23 : (Nat → Int32)) (Q_image_23 : (Nat → Int32)) (Q_bound_23 : (Nat → Int32)) (Q_waits_23 : (Nat → Int32)) (Q_waitsFor_23 : (Nat → Int32)) (Q_seen_23 : (Nat → Int32)) (Q_goals_23 : (Nat → Int32)) (Q_steps_23 : (Nat → Int32)) (Q_looked_23 : (Nat → Int32)) (Q_under_23 : (Nat → Int32)) (Q_taken_23 : (Nat → Int32)) (Q_news_23 : (Nat → Int32)) (Q_order_23 : (Nat → Int32)) (Q_there_23 : (Nat → Int32)) (Q_back_23 : (Nat → Int32)) (x4_23 : Int32) (aT_heads_23 aT_places_23 aT_olders_23 aT_sizes_23 aT_withins_23 : Nat), x4_23 = nI (6 * k) → 256 ≤ nT_heads_23 → ∀ (H : Heap) (locs : List Loc), va_P D vwCl (wv_105 cI cJ cZ aX aX_arities aT aT_heads_23 aT_places_23 aT_olders_23 aT_sizes_23 aT_withins_23 aT_newest aS aS_premises aS_premiseCounts aS_conclusions aS_order aM aM_images aM_path aF aF_seen aF_waiting aE aE_goals aE_marks aE_looked aE_underway aE_met aE_takenHere aH aH_statementRow aH_firstRow aH_secondRow aO_out aQ aQ_kinds aQ_which aQ_firsts aQ_seconds aQ_thirds aQ_nexts aQ_heads aQ_names aQ_variables aQ_holes aQ_sizes aQ_places aQ_conclusions aQ_premises aQ_counts aQ_hitOf aQ_hitOne aQ_hitTwo aQ_hitTerms aQ_image aQ_bound aQ_waits aQ_waitsFor aQ_seen aQ_goals aQ_steps aQ_looked aQ_under aQ_taken aQ_news aQ_order aQ_there aQ_back X_namesUsed_23 X_arities_23 T_count_23 nT_heads_23 T_heads_23 nT_places_23 T_places_23 nT_olders_23 T_olders_23 nT_sizes_23 T_sizes_23 nT_withins_23 T_withins_23 T_newest_23 S_count_23 S_premises_23 S_premiseCounts_23 S_conclusions_23 S_order_23 M_images_23 M_path_23 F_shape_23 F_match_23 F_premise_23 F_seen_23 F_waiting_23 E_level_23 E_steps_23 E_tries_23 E_taken_23 E_first_23 E_goals_23 E_marks_23 E_looked_23 E_underway_23 E_met_23 E_takenHere_23 H_kind_23 H_subject_23 H_count_23 H_statementRow_23 H_firstRow_23 H_secondRow_23 O_out_23 Q_thrown_23 Q_all_23 Q_statements_23 Q_hitKind_23 Q_hits_23 Q_tries_23 Q_takenAll_23 Q_takenFirst_23 Q_kinds_23 Q_which_23 Q_firsts_23 Q_seconds_23 Q_thirds_23 Q_nexts_23 Q_heads_23 Q_names_23 Q_variables_23 Q_holes_23 Q_sizes_23 Q_places_23 Q_conclusions_23 Q_premises_23 Q_counts_23 Q_hitOf_23 Q_hitOne_23 Q_hitTwo_23 Q_hitTerms_23 Q_image_23 Q_bound_23 Q_waits_23 Q_waitsFor_23 Q_seen_23 Q_goals_23 Q_steps_23 Q_looked_23 Q_under_23 Q_taken_23 Q_news_23 Q_order_23 Q_there_23 Q_back_23) H → va_D (fun q : Nat => s.heap.size ≤ q) (wv_105 cI cJ cZ aX aX_arities aT aT_heads_23 aT_places_23 aT_olders_23 aT_sizes_23 aT_withins_23 aT_newest aS aS_premises aS_premiseCounts aS_conclusions aS_order aM aM_images aM_path aF aF_seen aF_waiting aE aE_goals aE_marks aE_looked aE_underway aE_met aE_takenHere aH aH_statementRow aH_firstRow aH_secondRow aO_out aQ aQ_kinds aQ_which aQ_firsts aQ_seconds aQ_thirds aQ_nexts aQ_heads aQ_names aQ_variables aQ_holes aQ_sizes aQ_places aQ_conclusions aQ_premises aQ_counts aQ_hitOf aQ_hitOne aQ_hitTwo aQ_hitTerms aQ_image aQ_bound aQ_waits aQ_waitsFor aQ_seen aQ_goals aQ_steps aQ_looked aQ_under aQ_taken aQ_news aQ_order aQ_there aQ_back X_namesUsed_23 X_arities_23 T_count_23 nT_heads_23 T_heads_23 nT_places_23 T_places_23 nT_olders_23 T_olders_23 nT_sizes_23 T_sizes_23 nT_withins_23 T_withins_23 T_newest_23 S_count_23 S_premises_23 S_premiseCounts_23 S_conclusions_23 S_order_23 M_images_23 M_path_23 F_shape_23 F_match_23 F_premise_23 F_seen_23 F_waiting_23 E_level_23 E_steps_23 E_tries_23 E_taken_23 E_first_23 E_goals_23 E_marks_23 E_looked_23 E_underway_23 E_met_23 E_takenHere_23 H_kind_23 H_subject_23 H_count_23 H_statementRow_23 H_firstRow_23 H_secondRow_23 O_out_23 Q_thrown_23 Q_all_23 Q_statements_23 Q_hitKind_23 Q_hits_23 Q_tries_23 Q_takenAll_23 Q_takenFirst_23 Q_kinds_23 Q_which_23 Q_firsts_23 Q_seconds_23 Q_thirds_23 Q_nexts_23 Q_heads_23 Q_names_23 Q_variables_23 Q_holes_23 Q_sizes_23 Q_places_23 Q_conclusions_23 Q_premises_23 Q_counts_23 Q_hitOf_23 Q_hitOne_23 Q_hitTwo_23 Q_hitTerms_23 Q_image_23 Q_bound_23 Q_waits_23 Q_waitsFor_23 Q_seen_23 Q_goals_23 Q_steps_23 Q_looked_23 Q_under_23 Q_taken_23 Q_news_23 Q_order_23 Q_there_23 Q_back_23) → va_S (fun q : Nat => s.heap.size ≤ q) s.heap H locs → ∀ (ls : Array Slot), lv_has ls 7 [(0, .ref b), (1, .ref aX), (2, .ref aQ), (3, .ref aO_out), (4, .int x4_23)] → f_law_L23 L xs n X_namesUsed_23 X_arities_23 T_count_23 nT_heads_23 T_heads_23 nT_places_23 T_places_23 nT_olders_23 T_olders_23 nT_sizes_23 T_sizes_23 nT_withins_23 T_withins_23 T_newest_23 S_count_23 S_premises_23 S_premiseCounts_23 S_conclusions_23 S_order_23 M_images_23 M_path_23 F_shape_23 F_match_23 F_premise_23 F_seen_23 F_waiting_23 E_level_23 E_steps_23 E_tries_23 E_taken_23 E_first_23 E_goals_23 E_marks_23 E_looked_23 E_underway_23 E_met_23 E_takenHere_23 H_kind_23 H_subject_23 H_count_23 H_statementRow_23 H_firstRow_23 H_secondRow_23 O_out_23 Q_thrown_23 Q_all_23 Q_statements_23 Q_hitKind_23 Q_hits_23 Q_tries_23 Q_takenAll_23 Q_takenFirst_23 Q_kinds_23 Q_which_23 Q_firsts_23 Q_seconds_23 Q_thirds_23 Q_nexts_23 Q_heads_23 Q_names_23 Q_variables_23 Q_holes_23 Q_sizes_23 Q_places_23 Q_conclusions_23 Q_premises_23 Q_counts_23 Q_hitOf_23 Q_hitOne_23 Q_hitTwo_23 Q_hitTerms_23 Q_image_23 Q_bound_23 Q_waits_23 Q_waitsFor_23 Q_seen_23 Q_goals_23 Q_steps_23 Q_looked_23 Q_under_23 Q_taken_23 Q_news_23 Q_order_23 Q_there_23 Q_back_23 x4_23 = some 1 → W p l e room_1 s m #[Value.ref b] below meth c H locs (66 + 2 * k + (PC 256 - PC nT_heads_23)) (625379 + 12 * k + (PS 256 - PS nT_heads_23)) (lw_Z below #[Value.ref b] s) (F0 m 23 ls []) := by
  obtain ⟨hx, hb, hr, hml, hown, hts, hX, hbl, hlocks, hK, hcS0, hE, hSR, hNC, hst⟩ := id CX
  have hbA : ¬ (fun q : Nat => s.heap.size ≤ q) b := Nat.not_le.mpr hbl
  intro n
  induction n with
  | zero =>
    intro k hk X_namesUsed_23 X_arities_23 T_count_23 nT_heads_23 T_heads_23 nT_places_23 T_places_23 nT_olders_23 T_olders_23 nT_sizes_23 T_sizes_23 nT_withins_23 T_withins_23 T_newest_23 S_count_23 S_premises_23 S_premiseCounts_23 S_conclusions_23 S_order_23 M_images_23 M_path_23 F_shape_23 F_match_23 F_premise_23 F_seen_23 F_waiting_23 E_level_23 E_steps_23 E_tries_23 E_taken_23 E_first_23 E_goals_23 E_marks_23 E_looked_23 E_underway_23 E_met_23 E_takenHere_23 H_kind_23 H_subject_23 H_count_23 H_statementRow_23 H_firstRow_23 H_secondRow_23 O_out_23 Q_thrown_23 Q_all_23 Q_statements_23 Q_hitKind_23 Q_hits_23 Q_tries_23 Q_takenAll_23 Q_takenFirst_23 Q_kinds_23 Q_which_23 Q_firsts_23 Q_seconds_23 Q_thirds_23 Q_nexts_23 Q_heads_23 Q_names_23 Q_variables_23 Q_holes_23 Q_sizes_23 Q_places_23 Q_conclusions_23 Q_premises_23 Q_counts_23 Q_hitOf_23 Q_hitOne_23 Q_hitTwo_23 Q_hitTerms_23 Q_image_23 Q_bound_23 Q_waits_23 Q_waitsFor_23 Q_seen_23 Q_goals_23 Q_steps_23 Q_looked_23 Q_under_23 Q_taken_23 Q_news_23 Q_order_23 Q_there_23 Q_back_23 x4_23 aT_heads_23 aT_places_23 aT_olders_23 aT_sizes_23 aT_withins_23 hx4 hG H locs hP hD hS ls hl hf
    rw [f_law_L23] at hf
    cases hf
  | succ n ih =>
    intro k hk0 X_namesUsed_23 X_arities_23 T_count_23 nT_heads_23 T_heads_23 nT_places_23 T_places_23 nT_olders_23 T_olders_23 nT_sizes_23 T_sizes_23 nT_withins_23 T_withins_23 T_newest_23 S_count_23 S_premises_23 S_premiseCounts_23 S_conclusions_23 S_order_23 M_images_23 M_path_23 F_shape_23 F_match_23 F_premise_23 F_seen_23 F_waiting_23 E_level_23 E_steps_23 E_tries_23 E_taken_23 E_first_23 E_goals_23 E_marks_23 E_looked_23 E_underway_23 E_met_23 E_takenHere_23 H_kind_23 H_subject_23 H_count_23 H_statementRow_23 H_firstRow_23 H_secondRow_23 O_out_23 Q_thrown_23 Q_all_23 Q_statements_23 Q_hitKind_23 Q_hits_23 Q_tries_23 Q_takenAll_23 Q_takenFirst_23 Q_kinds_23 Q_which_23 Q_firsts_23 Q_seconds_23 Q_thirds_23 Q_nexts_23 Q_heads_23 Q_names_23 Q_variables_23 Q_holes_23 Q_sizes_23 Q_places_23 Q_conclusions_23 Q_premises_23 Q_counts_23 Q_hitOf_23 Q_hitOne_23 Q_hitTwo_23 Q_hitTerms_23 Q_image_23 Q_bound_23 Q_waits_23 Q_waitsFor_23 Q_seen_23 Q_goals_23 Q_steps_23 Q_looked_23 Q_under_23 Q_taken_23 Q_news_23 Q_order_23 Q_there_23 Q_back_23 x4_23 aT_heads_23 aT_places_23 aT_olders_23 aT_sizes_23 aT_withins_23 hx4 hG H locs hP hD hS ls hl hf
    have hp1 : PC 256 = 48720 := by decide
    have hp2 : PS 256 = 276416 := by decide
    have hp3 := PC_anti hG
    have hp4 := PS_anti hG
    rw [f_law_L23] at hf
    refine lv_iload hx hb d_L_law_23 (lv_at hl 4 rfl) ?_
    refine lv_aload_n hx hb d_L_law_25 rfl (lv_at hl 0 rfl) ?_
    refine va_slen hx hb hX hbl hbA hS d_L_law_26 ?_
    refine lv_bipush (v := 6) hx hb d_L_law_27 (by decide) ?_
    refine lv_isub hx hb d_L_law_29 ?_
    refine lv_icmp_gt (tgt := 902) hx hb d_L_law_30 (by decide) (fun c1 => ?_) (fun c1 => ?_)
    · have hf := ite_t c1 hf
      refine lv_iconst (v := 1) hx hb d_L_law_902 (by decide) ?_
      refine va_forget (fun q hq => hS.2.2 q hq) ?_
      refine W.widen (k := 601024) (n := 7293034) (by omega) (by omega) ?_
      exact lw_ret hx hb hr hlocks d_L_law_903
    · have hf := ite_f c1 hf
      have hk : k < 512 := lk_512 hL hk0 hx4 c1
      have hK23 := ih (k + 1) hk
      refine lv_aload_n hx hb d_L_law_33 rfl (lv_at hl 0 rfl) ?_
      refine lv_iload hx hb d_L_law_34 (lv_at hl 4 rfl) ?_
      obtain ⟨h2, hf⟩ := of_gd hf
      refine va_sld hx hb hX hbl hbA hS (ixb_in h2) d_L_law_36 ?_
      refine lv_bipush (v := 15) hx hb d_L_law_37 (by decide) ?_
      refine lv_iand hx hb d_L_law_39 ?_
      by_cases c3 : ((xs x4_23.toNatClampNeg) &&& (15 : Int32)) = 0
      · have hf := ite_t c3 hf
        refine lv_tableIn (tgt := 112) hx hb d_L_law_40 (by rw [c3]; decide) (by rw [c3]; decide) (by rw [c3]; rfl) (by decide) ?_
        exact lc_112 CX k hk hK23 _ _ _ _ _ _ _ _ _ _ _ _ _ _ _ _ _ _ _ _ _ _ _ _ _ _ _ _ _ _ _ _ _ _ _ _ _ _ _ _ _ _ _ _ _ _ _ _ _ _ _ _ _ _ _ _ _ _ _ _ _ _ _ _ _ _ _ _ _ _ _ _ _ _ _ _ _ _ _ _ _ _ _ _ _ _ _ _ _ _ _ hx4 hG _ _ hP hD hS _ (lv_sub hl [0, 1, 2, 3, 4] rfl) hf
      have hf := ite_f c3 hf
      by_cases c4 : ((xs x4_23.toNatClampNeg) &&& (15 : Int32)) = 1
      · have hf := ite_t c4 hf
        refine lv_tableIn (tgt := 204) hx hb d_L_law_40 (by rw [c4]; decide) (by rw [c4]; decide) (by rw [c4]; rfl) (by decide) ?_
        exact lc_204 CX k hk hK23 _ _ _ _ _ _ _ _ _ _ _ _ _ _ _ _ _ _ _ _ _ _ _ _ _ _ _ _ _ _ _ _ _ _ _ _ _ _ _ _ _ _ _ _ _ _ _ _ _ _ _ _ _ _ _ _ _ _ _ _ _ _ _ _ _ _ _ _ _ _ _ _ _ _ _ _ _ _ _ _ _ _ _ _ _ _ _ _ _ _ _ hx4 hG _ _ hP hD hS _ (lv_sub hl [0, 1, 2, 3, 4] rfl) hf
      have hf := ite_f c4 hf
      by_cases c5 : ((xs x4_23.toNatClampNeg) &&& (15 : Int32)) = 2
      · have hf := ite_t c5 hf
        refine lv_tableIn (tgt := 288) hx hb d_L_law_40 (by rw [c5]; decide) (by rw [c5]; decide) (by rw [c5]; rfl) (by decide) ?_
        exact lc_288 CX k hk hK23 _ _ _ _ _ _ _ _ _ _ _ _ _ _ _ _ _ _ _ _ _ _ _ _ _ _ _ _ _ _ _ _ _ _ _ _ _ _ _ _ _ _ _ _ _ _ _ _ _ _ _ _ _ _ _ _ _ _ _ _ _ _ _ _ _ _ _ _ _ _ _ _ _ _ _ _ _ _ _ _ _ _ _ _ _ _ _ _ _ _ _ hx4 hG _ _ hP hD hS _ (lv_sub hl [0, 1, 2, 3, 4] rfl) hf
      have hf := ite_f c5 hf
      by_cases c6 : ((xs x4_23.toNatClampNeg) &&& (15 : Int32)) = 3
      · have hf := ite_t c6 hf
        refine lv_tableIn (tgt := 325) hx hb d_L_law_40 (by rw [c6]; decide) (by rw [c6]; decide) (by rw [c6]; rfl) (by decide) ?_
        exact lc_325 CX k hk hK23 _ _ _ _ _ _ _ _ _ _ _ _ _ _ _ _ _ _ _ _ _ _ _ _ _ _ _ _ _ _ _ _ _ _ _ _ _ _ _ _ _ _ _ _ _ _ _ _ _ _ _ _ _ _ _ _ _ _ _ _ _ _ _ _ _ _ _ _ _ _ _ _ _ _ _ _ _ _ _ _ _ _ _ _ _ _ _ _ _ _ _ hx4 hG _ _ hP hD hS _ (lv_sub hl [0, 1, 2, 3, 4] rfl) hf
      have hf := ite_f c6 hf
      by_cases c7 : ((xs x4_23.toNatClampNeg) &&& (15 : Int32)) = 4
      · have hf := ite_t c7 hf
        refine lv_tableIn (tgt := 429) hx hb d_L_law_40 (by rw [c7]; decide) (by rw [c7]; decide) (by rw [c7]; rfl) (by decide) ?_
        exact lc_429 CX k hk hK23 _ _ _ _ _ _ _ _ _ _ _ _ _ _ _ _ _ _ _ _ _ _ _ _ _ _ _ _ _ _ _ _ _ _ _ _ _ _ _ _ _ _ _ _ _ _ _ _ _ _ _ _ _ _ _ _ _ _ _ _ _ _ _ _ _ _ _ _ _ _ _ _ _ _ _ _ _ _ _ _ _ _ _ _ _ _ _ _ _ _ _ hx4 hG _ _ hP hD hS _ (lv_sub hl [0, 1, 2, 3, 4] rfl) hf
      have hf := ite_f c7 hf
      by_cases c8 : ((xs x4_23.toNatClampNeg) &&& (15 : Int32)) = 5
      · have hf := ite_t c8 hf
        refine lv_tableIn (tgt := 442) hx hb d_L_law_40 (by rw [c8]; decide) (by rw [c8]; decide) (by rw [c8]; rfl) (by decide) ?_
        exact lc_442 CX k hk hK23 _ _ _ _ _ _ _ _ _ _ _ _ _ _ _ _ _ _ _ _ _ _ _ _ _ _ _ _ _ _ _ _ _ _ _ _ _ _ _ _ _ _ _ _ _ _ _ _ _ _ _ _ _ _ _ _ _ _ _ _ _ _ _ _ _ _ _ _ _ _ _ _ _ _ _ _ _ _ _ _ _ _ _ _ _ _ _ _ _ _ _ hx4 hG _ _ hP hD hS _ (lv_sub hl [0, 1, 2, 3, 4] rfl) hf
      have hf := ite_f c8 hf
      by_cases c9 : ((xs x4_23.toNatClampNeg) &&& (15 : Int32)) = 6
      · have hf := ite_t c9 hf
        refine lv_tableIn (tgt := 498) hx hb d_L_law_40 (by rw [c9]; decide) (by rw [c9]; decide) (by rw [c9]; rfl) (by decide) ?_
        exact lc_498 CX k hk hK23 _ _ _ _ _ _ _ _ _ _ _ _ _ _ _ _ _ _ _ _ _ _ _ _ _ _ _ _ _ _ _ _ _ _ _ _ _ _ _ _ _ _ _ _ _ _ _ _ _ _ _ _ _ _ _ _ _ _ _ _ _ _ _ _ _ _ _ _ _ _ _ _ _ _ _ _ _ _ _ _ _ _ _ _ _ _ _ _ _ _ _ hx4 hG _ _ hP hD hS _ (lv_sub hl [0, 1, 2, 3, 4] rfl) hf
      have hf := ite_f c9 hf
      by_cases c10 : ((xs x4_23.toNatClampNeg) &&& (15 : Int32)) = 7
      · have hf := ite_t c10 hf
        refine lv_tableIn (tgt := 554) hx hb d_L_law_40 (by rw [c10]; decide) (by rw [c10]; decide) (by rw [c10]; rfl) (by decide) ?_
        exact lc_554 CX k hk hK23 _ _ _ _ _ _ _ _ _ _ _ _ _ _ _ _ _ _ _ _ _ _ _ _ _ _ _ _ _ _ _ _ _ _ _ _ _ _ _ _ _ _ _ _ _ _ _ _ _ _ _ _ _ _ _ _ _ _ _ _ _ _ _ _ _ _ _ _ _ _ _ _ _ _ _ _ _ _ _ _ _ _ _ _ _ _ _ _ _ _ _ hx4 hG _ _ hP hD hS _ (lv_sub hl [0, 1, 2, 3, 4] rfl) hf
      have hf := ite_f c10 hf
      by_cases c11 : ((xs x4_23.toNatClampNeg) &&& (15 : Int32)) = 8
      · have hf := ite_t c11 hf
        refine lv_tableIn (tgt := 610) hx hb d_L_law_40 (by rw [c11]; decide) (by rw [c11]; decide) (by rw [c11]; rfl) (by decide) ?_
        exact lc_610 CX k hk hK23 _ _ _ _ _ _ _ _ _ _ _ _ _ _ _ _ _ _ _ _ _ _ _ _ _ _ _ _ _ _ _ _ _ _ _ _ _ _ _ _ _ _ _ _ _ _ _ _ _ _ _ _ _ _ _ _ _ _ _ _ _ _ _ _ _ _ _ _ _ _ _ _ _ _ _ _ _ _ _ _ _ _ _ _ _ _ _ _ _ _ _ hx4 hG _ _ hP hD hS _ (lv_sub hl [0, 1, 2, 3, 4] rfl) hf
      have hf := ite_f c11 hf
      by_cases c12 : ((xs x4_23.toNatClampNeg) &&& (15 : Int32)) = 9
      · have hf := ite_t c12 hf
        refine lv_tableIn (tgt := 647) hx hb d_L_law_40 (by rw [c12]; decide) (by rw [c12]; decide) (by rw [c12]; rfl) (by decide) ?_
        exact lc_647 CX k hk hK23 _ _ _ _ _ _ _ _ _ _ _ _ _ _ _ _ _ _ _ _ _ _ _ _ _ _ _ _ _ _ _ _ _ _ _ _ _ _ _ _ _ _ _ _ _ _ _ _ _ _ _ _ _ _ _ _ _ _ _ _ _ _ _ _ _ _ _ _ _ _ _ _ _ _ _ _ _ _ _ _ _ _ _ _ _ _ _ _ _ _ _ hx4 hG _ _ hP hD hS _ (lv_sub hl [0, 1, 2, 3, 4] rfl) hf
      have hf := ite_f c12 hf
      by_cases c13 : ((xs x4_23.toNatClampNeg) &&& (15 : Int32)) = 10
      · have hf := ite_t c13 hf
        refine lv_tableIn (tgt := 715) hx hb d_L_law_40 (by rw [c13]; decide) (by rw [c13]; decide) (by rw [c13]; rfl) (by decide) ?_
        exact lc_715 CX k hk hK23 _ _ _ _ _ _ _ _ _ _ _ _ _ _ _ _ _ _ _ _ _ _ _ _ _ _ _ _ _ _ _ _ _ _ _ _ _ _ _ _ _ _ _ _ _ _ _ _ _ _ _ _ _ _ _ _ _ _ _ _ _ _ _ _ _ _ _ _ _ _ _ _ _ _ _ _ _ _ _ _ _ _ _ _ _ _ _ _ _ _ _ hx4 hG _ _ hP hD hS _ (lv_sub hl [0, 1, 2, 3, 4] rfl) hf
      have hf := ite_f c13 hf
      by_cases c14 : ((xs x4_23.toNatClampNeg) &&& (15 : Int32)) = 11
      · have hf := ite_t c14 hf
        refine lv_tableIn (tgt := 771) hx hb d_L_law_40 (by rw [c14]; decide) (by rw [c14]; decide) (by rw [c14]; rfl) (by decide) ?_
        exact lc_771 CX k hk hK23 _ _ _ _ _ _ _ _ _ _ _ _ _ _ _ _ _ _ _ _ _ _ _ _ _ _ _ _ _ _ _ _ _ _ _ _ _ _ _ _ _ _ _ _ _ _ _ _ _ _ _ _ _ _ _ _ _ _ _ _ _ _ _ _ _ _ _ _ _ _ _ _ _ _ _ _ _ _ _ _ _ _ _ _ _ _ _ _ _ _ _ hx4 hG _ _ hP hD hS _ (lv_sub hl [0, 1, 2, 3, 4] rfl) hf
      have hf := ite_f c14 hf
      by_cases c15 : ((xs x4_23.toNatClampNeg) &&& (15 : Int32)) = 12
      · have hf := ite_t c15 hf
        refine lv_tableIn (tgt := 846) hx hb d_L_law_40 (by rw [c15]; decide) (by rw [c15]; decide) (by rw [c15]; rfl) (by decide) ?_
        exact lc_846 CX k hk hK23 _ _ _ _ _ _ _ _ _ _ _ _ _ _ _ _ _ _ _ _ _ _ _ _ _ _ _ _ _ _ _ _ _ _ _ _ _ _ _ _ _ _ _ _ _ _ _ _ _ _ _ _ _ _ _ _ _ _ _ _ _ _ _ _ _ _ _ _ _ _ _ _ _ _ _ _ _ _ _ _ _ _ _ _ _ _ _ _ _ _ _ hx4 hG _ _ hP hD hS _ (lv_sub hl [0, 1, 2, 3, 4] rfl) hf
      have hf := ite_f c15 hf
      by_cases c16 : ((xs x4_23.toNatClampNeg) &&& (15 : Int32)) = 13
      · have hf := ite_t c16 hf
        refine lv_tableIn (tgt := 871) hx hb d_L_law_40 (by rw [c16]; decide) (by rw [c16]; decide) (by rw [c16]; rfl) (by decide) ?_
        exact lc_871 CX k hk hK23 _ _ _ _ _ _ _ _ _ _ _ _ _ _ _ _ _ _ _ _ _ _ _ _ _ _ _ _ _ _ _ _ _ _ _ _ _ _ _ _ _ _ _ _ _ _ _ _ _ _ _ _ _ _ _ _ _ _ _ _ _ _ _ _ _ _ _ _ _ _ _ _ _ _ _ _ _ _ _ _ _ _ _ _ _ _ _ _ _ _ _ hx4 hG _ _ hP hD hS _ (lv_sub hl [0, 1, 2, 3, 4] rfl) hf
      have hf := ite_f c16 hf
      have n40_0 := lv_neT c3 (a := 0) (by decide)
      have n40_1 := lv_neT c4 (a := 1) (by decide)
      have n40_2 := lv_neT c5 (a := 2) (by decide)
      have n40_3 := lv_neT c6 (a := 3) (by decide)
      have n40_4 := lv_neT c7 (a := 4) (by decide)
      have n40_5 := lv_neT c8 (a := 5) (by decide)
      have n40_6 := lv_neT c9 (a := 6) (by decide)
      have n40_7 := lv_neT c10 (a := 7) (by decide)
      have n40_8 := lv_neT c11 (a := 8) (by decide)
      have n40_9 := lv_neT c12 (a := 9) (by decide)
      have n40_10 := lv_neT c13 (a := 10) (by decide)
      have n40_11 := lv_neT c14 (a := 11) (by decide)
      have n40_12 := lv_neT c15 (a := 12) (by decide)
      have n40_13 := lv_neT c16 (a := 13) (by decide)
      refine lv_tableOut (tgt := 896) hx hb d_L_law_40 (by omega) (by decide) ?_
      obtain ⟨x17, ex17⟩ : ∃ y : Int32, y = x4_23 + (6 : Int32) := ⟨_, rfl⟩
      refine lv_iinc (v := x17) (lv' := [(4, .int x17), (0, .ref b), (1, .ref aX), (2, .ref aQ), (3, .ref aO_out)]) hx hb d_L_law_896 hl (k := 4) rfl (by rw [ex17]; rfl) (by decide) rfl (fun ls hl => ?_)
      have hf := of_nm ex17 hf
      refine lv_goto (tgt := 23) hx hb d_L_law_899 (by decide) ?_
      refine W.widen (k := (66 + 2 * (k + 1) + (PC 256 - PC nT_heads_23))) (n := (625379 + 12 * (k + 1) + (PS 256 - PS nT_heads_23))) (by omega) (by omega) ?_
      exact hK23 _ _ _ _ _ _ _ _ _ _ _ _ _ _ _ _ _ _ _ _ _ _ _ _ _ _ _ _ _ _ _ _ _ _ _ _ _ _ _ _ _ _ _ _ _ _ _ _ _ _ _ _ _ _ _ _ _ _ _ _ _ _ _ _ _ _ _ _ _ _ _ _ _ _ _ _ _ _ _ _ _ _ _ _ _ _ _ _ _ _ _ (by rw [ex17, hx4]; exact nI_6 k) hG _ _ hP hD hS _ (lv_sub hl [1, 2, 3, 4, 0] rfl) hf
