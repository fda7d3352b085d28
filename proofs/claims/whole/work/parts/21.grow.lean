abbrev b_E_enterNewGoal : ByteArray := prog_5_method_8_code
abbrev y_E_enterNewGoal : MethodName := ⟨"ShapeSearch$Search", "enterNewGoal", "(I)V"⟩
abbrev ws_E_enterNewGoal : List Cond := .code y_E_enterNewGoal b_E_enterNewGoal 6 (none : Option Jvm.ClassFile.FieldType) :: BG
theorem hd_E_enterNewGoal : y_E_enterNewGoal.cls ≠ "java/lang/invoke/MethodHandle" ∧ y_E_enterNewGoal.cls ≠ "java/lang/invoke/VarHandle" ∧ (parseMethodDescriptor y_E_enterNewGoal.desc).map (fun d => d.parameters.length) = some 1 := by decide +kernel
theorem d_E_enterNewGoal_0 : decode b_E_enterNewGoal 0 = .ok (.aload_n 0, 1) := by decide +kernel
theorem d_E_enterNewGoal_1 : decode b_E_enterNewGoal 1 = .ok (.getfield 42, 3) := by decide +kernel
theorem d_E_enterNewGoal_4 : decode b_E_enterNewGoal 4 = .ok (.istore_n 2, 1) := by decide +kernel
theorem d_E_enterNewGoal_5 : decode b_E_enterNewGoal 5 = .ok (.aload_n 0, 1) := by decide +kernel
theorem d_E_enterNewGoal_6 : decode b_E_enterNewGoal 6 = .ok (.getfield 9, 3) := by decide +kernel
theorem d_E_enterNewGoal_9 : decode b_E_enterNewGoal 9 = .ok (.invokevirtual 69, 3) := by decide +kernel
theorem d_E_enterNewGoal_12 : decode b_E_enterNewGoal 12 = .ok (.istore_n 3, 1) := by decide +kernel
theorem d_E_enterNewGoal_13 : decode b_E_enterNewGoal 13 = .ok (.iconst 0, 1) := by decide +kernel
theorem d_E_enterNewGoal_14 : decode b_E_enterNewGoal 14 = .ok (.istore 4, 2) := by decide +kernel
theorem d_E_enterNewGoal_16 : decode b_E_enterNewGoal 16 = .ok (.aload_n 0, 1) := by decide +kernel
theorem d_E_enterNewGoal_17 : decode b_E_enterNewGoal 17 = .ok (.getfield 42, 3) := by decide +kernel
theorem d_E_enterNewGoal_20 : decode b_E_enterNewGoal 20 = .ok (.iconst 1, 1) := by decide +kernel
theorem d_E_enterNewGoal_21 : decode b_E_enterNewGoal 21 = .ok (.iadd, 1) := by decide +kernel
theorem d_E_enterNewGoal_22 : decode b_E_enterNewGoal 22 = .ok (.aload_n 0, 1) := by decide +kernel
theorem d_E_enterNewGoal_23 : decode b_E_enterNewGoal 23 = .ok (.getfield 46, 3) := by decide +kernel
theorem d_E_enterNewGoal_26 : decode b_E_enterNewGoal 26 = .ok (.if_icmp .ge 90, 3) := by decide +kernel
theorem d_E_enterNewGoal_29 : decode b_E_enterNewGoal 29 = .ok (.aload_n 0, 1) := by decide +kernel
theorem d_E_enterNewGoal_30 : decode b_E_enterNewGoal 30 = .ok (.getfield 9, 3) := by decide +kernel
theorem d_E_enterNewGoal_33 : decode b_E_enterNewGoal 33 = .ok (.invokevirtual 119, 3) := by decide +kernel
theorem d_E_enterNewGoal_36 : decode b_E_enterNewGoal 36 = .ok (.aload_n 0, 1) := by decide +kernel
theorem d_E_enterNewGoal_37 : decode b_E_enterNewGoal 37 = .ok (.getfield 19, 3) := by decide +kernel
theorem d_E_enterNewGoal_40 : decode b_E_enterNewGoal 40 = .ok (.aload_n 0, 1) := by decide +kernel
theorem d_E_enterNewGoal_41 : decode b_E_enterNewGoal 41 = .ok (.getfield 15, 3) := by decide +kernel
theorem d_E_enterNewGoal_44 : decode b_E_enterNewGoal 44 = .ok (.iload_n 1, 1) := by decide +kernel
theorem d_E_enterNewGoal_45 : decode b_E_enterNewGoal 45 = .ok (.invokevirtual 108, 3) := by decide +kernel
theorem d_E_enterNewGoal_48 : decode b_E_enterNewGoal 48 = .ok (.aload_n 0, 1) := by decide +kernel
theorem d_E_enterNewGoal_49 : decode b_E_enterNewGoal 49 = .ok (.getfield 23, 3) := by decide +kernel
theorem d_E_enterNewGoal_52 : decode b_E_enterNewGoal 52 = .ok (.aload_n 0, 1) := by decide +kernel
theorem d_E_enterNewGoal_53 : decode b_E_enterNewGoal 53 = .ok (.getfield 42, 3) := by decide +kernel
theorem d_E_enterNewGoal_56 : decode b_E_enterNewGoal 56 = .ok (.iaload, 1) := by decide +kernel
theorem d_E_enterNewGoal_57 : decode b_E_enterNewGoal 57 = .ok (.ldc2_w 111, 3) := by decide +kernel
theorem d_E_enterNewGoal_60 : decode b_E_enterNewGoal 60 = .ok (.invokevirtual 113, 3) := by decide +kernel
theorem d_E_enterNewGoal_63 : decode b_E_enterNewGoal 63 = .ok (.pop, 1) := by decide +kernel
theorem d_E_enterNewGoal_64 : decode b_E_enterNewGoal 64 = .ok (.aload_n 0, 1) := by decide +kernel
theorem d_E_enterNewGoal_65 : decode b_E_enterNewGoal 65 = .ok (.getfield 19, 3) := by decide +kernel
theorem d_E_enterNewGoal_68 : decode b_E_enterNewGoal 68 = .ok (.aload_n 0, 1) := by decide +kernel
theorem d_E_enterNewGoal_69 : decode b_E_enterNewGoal 69 = .ok (.getfield 15, 3) := by decide +kernel
theorem d_E_enterNewGoal_72 : decode b_E_enterNewGoal 72 = .ok (.iload_n 1, 1) := by decide +kernel
theorem d_E_enterNewGoal_73 : decode b_E_enterNewGoal 73 = .ok (.aload_n 0, 1) := by decide +kernel
theorem d_E_enterNewGoal_74 : decode b_E_enterNewGoal 74 = .ok (.getfield 36, 3) := by decide +kernel
theorem d_E_enterNewGoal_77 : decode b_E_enterNewGoal 77 = .ok (.aload_n 0, 1) := by decide +kernel
theorem d_E_enterNewGoal_78 : decode b_E_enterNewGoal 78 = .ok (.getfield 42, 3) := by decide +kernel
theorem d_E_enterNewGoal_81 : decode b_E_enterNewGoal 81 = .ok (.iaload, 1) := by decide +kernel
theorem d_E_enterNewGoal_82 : decode b_E_enterNewGoal 82 = .ok (.invokevirtual 122, 3) := by decide +kernel
theorem d_E_enterNewGoal_85 : decode b_E_enterNewGoal 85 = .ok (.sipush 10000, 3) := by decide +kernel
theorem d_E_enterNewGoal_88 : decode b_E_enterNewGoal 88 = .ok (.invokevirtual 125, 3) := by decide +kernel
theorem d_E_enterNewGoal_91 : decode b_E_enterNewGoal 91 = .ok (.istore 5, 2) := by decide +kernel
theorem d_E_enterNewGoal_93 : decode b_E_enterNewGoal 93 = .ok (.iload 5, 2) := by decide +kernel
theorem d_E_enterNewGoal_95 : decode b_E_enterNewGoal 95 = .ok (.iconst (-1), 1) := by decide +kernel
theorem d_E_enterNewGoal_96 : decode b_E_enterNewGoal 96 = .ok (.if_icmp .eq 17, 3) := by decide +kernel
theorem d_E_enterNewGoal_99 : decode b_E_enterNewGoal 99 = .ok (.aload_n 0, 1) := by decide +kernel
theorem d_E_enterNewGoal_100 : decode b_E_enterNewGoal 100 = .ok (.iload 5, 2) := by decide +kernel
theorem d_E_enterNewGoal_102 : decode b_E_enterNewGoal 102 = .ok (.iload_n 3, 1) := by decide +kernel
theorem d_E_enterNewGoal_103 : decode b_E_enterNewGoal 103 = .ok (.invokevirtual 75, 3) := by decide +kernel
theorem d_E_enterNewGoal_106 : decode b_E_enterNewGoal 106 = .ok (.ifCond .eq 7, 3) := by decide +kernel
theorem d_E_enterNewGoal_109 : decode b_E_enterNewGoal 109 = .ok (.iconst 1, 1) := by decide +kernel
theorem d_E_enterNewGoal_110 : decode b_E_enterNewGoal 110 = .ok (.goto 4, 3) := by decide +kernel
theorem d_E_enterNewGoal_113 : decode b_E_enterNewGoal 113 = .ok (.iconst 0, 1) := by decide +kernel
theorem d_E_enterNewGoal_114 : decode b_E_enterNewGoal 114 = .ok (.istore 4, 2) := by decide +kernel
theorem d_E_enterNewGoal_116 : decode b_E_enterNewGoal 116 = .ok (.iload 4, 2) := by decide +kernel
theorem d_E_enterNewGoal_118 : decode b_E_enterNewGoal 118 = .ok (.ifCond .ne 10, 3) := by decide +kernel
theorem d_E_enterNewGoal_121 : decode b_E_enterNewGoal 121 = .ok (.aload_n 0, 1) := by decide +kernel
theorem d_E_enterNewGoal_122 : decode b_E_enterNewGoal 122 = .ok (.getfield 33, 3) := by decide +kernel
theorem d_E_enterNewGoal_125 : decode b_E_enterNewGoal 125 = .ok (.iload_n 2, 1) := by decide +kernel
theorem d_E_enterNewGoal_126 : decode b_E_enterNewGoal 126 = .ok (.iconst (-1), 1) := by decide +kernel
theorem d_E_enterNewGoal_127 : decode b_E_enterNewGoal 127 = .ok (.iastore, 1) := by decide +kernel
theorem d_E_enterNewGoal_128 : decode b_E_enterNewGoal 128 = .ok (.return_, 1) := by decide +kernel
theorem k3_220 : Cond.methodLink "ShapeSearch$Search" 69 ⟨"ShapeSearch$Terms", "count", "()I"⟩ ∈ BG := List.mem_filter.mpr ⟨in_3 (List.mem_of_getElem? (i := 220) rfl), rfl⟩
theorem k4_16 : Cond.methodLink "ShapeSearch$Search" 119 ⟨"ShapeSearch$Terms", "makeRoom", "()V"⟩ ∈ BG := List.mem_filter.mpr ⟨in_4 (List.mem_of_getElem? (i := 16) rfl), rfl⟩
theorem k4_19 : Cond.code ⟨"ShapeSearch$Terms", "makeRoom", "()V"⟩ prog_7_method_12_code 2 (none : Option Jvm.ClassFile.FieldType) ∈ BG := List.mem_filter.mpr ⟨in_4 (List.mem_of_getElem? (i := 19) rfl), rfl⟩
theorem k4_17 : Cond.instanceMethod ⟨"ShapeSearch$Terms", "makeRoom", "()V"⟩ ∈ BG := List.mem_filter.mpr ⟨in_4 (List.mem_of_getElem? (i := 17) rfl), rfl⟩
theorem k4_18 : Cond.selects "ShapeSearch$Terms" ⟨"ShapeSearch$Terms", "makeRoom", "()V"⟩ ⟨"ShapeSearch$Terms", "makeRoom", "()V"⟩ ∈ BG := List.mem_filter.mpr ⟨in_4 (List.mem_of_getElem? (i := 18) rfl), rfl⟩
theorem k4_42 : Cond.methodLink "ShapeSearch$Search" 122 ⟨"ShapeSearch$Statements", "premise", "(II)I"⟩ ∈ BG := List.mem_filter.mpr ⟨in_4 (List.mem_of_getElem? (i := 42) rfl), rfl⟩
theorem k4_43 : Cond.methodLink "ShapeSearch$Search" 125 ⟨"ShapeSearch$Matcher", "instance", "(II)I"⟩ ∈ BG := List.mem_filter.mpr ⟨in_4 (List.mem_of_getElem? (i := 43) rfl), rfl⟩
theorem k3_179 : Cond.code ⟨"ShapeSearch$Matcher", "instance", "(II)I"⟩ prog_4_method_5_code 7 (some .int) ∈ BG := List.mem_filter.mpr ⟨in_3 (List.mem_of_getElem? (i := 179) rfl), rfl⟩
theorem k3_177 : Cond.instanceMethod ⟨"ShapeSearch$Matcher", "instance", "(II)I"⟩ ∈ BG := List.mem_filter.mpr ⟨in_3 (List.mem_of_getElem? (i := 177) rfl), rfl⟩
theorem k3_178 : Cond.selects "ShapeSearch$Matcher" ⟨"ShapeSearch$Matcher", "instance", "(II)I"⟩ ⟨"ShapeSearch$Matcher", "instance", "(II)I"⟩ ∈ BG := List.mem_filter.mpr ⟨in_3 (List.mem_of_getElem? (i := 178) rfl), rfl⟩
theorem k3_221 : Cond.methodLink "ShapeSearch$Search" 75 ⟨"ShapeSearch$Search", "enter", "(II)Z"⟩ ∈ BG := List.mem_filter.mpr ⟨in_3 (List.mem_of_getElem? (i := 221) rfl), rfl⟩
theorem k3_224 : Cond.code ⟨"ShapeSearch$Search", "enter", "(II)Z"⟩ prog_5_method_6_code 3 (some .boolean) ∈ BG := List.mem_filter.mpr ⟨in_3 (List.mem_of_getElem? (i := 224) rfl), rfl⟩
theorem k3_223 : Cond.instanceMethod ⟨"ShapeSearch$Search", "enter", "(II)Z"⟩ ∈ BG := List.mem_filter.mpr ⟨in_3 (List.mem_of_getElem? (i := 223) rfl), rfl⟩
abbrev wv_85 (cI cJ cZ : ClassId) (aT aT_heads aT_places aT_olders aT_sizes aT_withins aT_newest aS aS_premises aS_premiseCounts aS_conclusions aS_order aM aM_images aM_path aE aE_goals aE_marks aE_looked aE_underway aE_met aE_takenHere : Nat) (T_count : Int32) (nT_heads : Nat) (T_heads : (Nat → Int32)) (nT_places : Nat) (T_places : (Nat → Int32)) (nT_olders : Nat) (T_olders : (Nat → Int32)) (nT_sizes : Nat) (T_sizes : (Nat → Int32)) (nT_withins : Nat) (T_withins : (Nat → Int64)) (T_newest : (Nat → Int32)) (S_count : Int32) (S_premises : (Nat → Int32)) (S_premiseCounts : (Nat → Int32)) (S_conclusions : (Nat → Int32)) (M_images : (Nat → Int32)) (M_path : (Nat → Int32)) (E_level : Int32) (E_steps : Int32) (E_tries : Int32) (E_taken : Int32) (E_first : Int32) (E_goals : (Nat → Int32)) (E_marks : (Nat → Int32)) (E_looked : (Nat → Int32)) (E_underway : (Nat → Int32)) (E_met : (Nat → Int32)) : va_W := [(aT, .inr (1, [.ref aT_heads, .ref aT_places, .ref aT_olders, .ref aT_sizes, .ref aT_withins, .ref aT_newest, .int T_count])), (aT_heads, .inl (cI, nT_heads, .inl T_heads)), (aT_places, .inl (cI, nT_places, .inl T_places)), (aT_olders, .inl (cI, nT_olders, .inl T_olders)), (aT_sizes, .inl (cI, nT_sizes, .inl T_sizes)), (aT_withins, .inl (cJ, nT_withins, .inr (.inl T_withins))), (aT_newest, .inl (cI, 256, .inl T_newest)), (aS, .inr (2, [.ref aS_premises, .ref aS_premiseCounts, .ref aS_conclusions, .ref aS_order, .int S_count])), (aS_premises, .inl (cI, 120, .inl S_premises)), (aS_premiseCounts, .inl (cI, 30, .inl S_premiseCounts)), (aS_conclusions, .inl (cI, 30, .inl S_conclusions)), (aM, .inr (3, [.ref aT, .ref aM_images, .ref aM_path])), (aM_images, .inl (cI, 100, .inl M_images)), (aM_path, .inl (cI, 100, .inl M_path)), (aE, .inr (5, [.ref aT, .ref aS, .ref aM, .ref aE_goals, .ref aE_marks, .ref aE_looked, .ref aE_underway, .ref aE_met, .ref aE_takenHere, .int E_level, .int E_steps, .int E_tries, .int E_taken, .int E_first])), (aE_goals, .inl (cI, 100, .inl E_goals)), (aE_marks, .inl (cI, 100, .inl E_marks)), (aE_looked, .inl (cI, 100, .inl E_looked)), (aE_underway, .inl (cI, 100, .inl E_underway)), (aE_met, .inl (cI, 100, .inl E_met))]
def f_E_enterNewGoal_B116 (S_count : Int32) (S_premises : (Nat → Int32)) (S_premiseCounts : (Nat → Int32)) (S_conclusions : (Nat → Int32)) (E_steps : Int32) (E_met : (Nat → Int32)) (T_count_116 : Int32) (nT_heads_116 : Nat) (T_heads_116 : (Nat → Int32)) (nT_places_116 : Nat) (T_places_116 : (Nat → Int32)) (nT_olders_116 : Nat) (T_olders_116 : (Nat → Int32)) (nT_sizes_116 : Nat) (T_sizes_116 : (Nat → Int32)) (nT_withins_116 : Nat) (T_withins_116 : (Nat → Int64)) (T_newest_116 : (Nat → Int32)) (M_images_116 : (Nat → Int32)) (M_path_116 : (Nat → Int32)) (E_level_116 : Int32) (E_goals_116 : (Nat → Int32)) (E_marks_116 : (Nat → Int32)) (E_looked_116 : (Nat → Int32)) (E_underway_116 : (Nat → Int32)) (x2_116 : Int32) (x4_116 : Int32) : Option (Int32 × Nat × (Nat → Int32) × Nat × (Nat → Int32) × Nat × (Nat → Int32) × Nat × (Nat → Int32) × Nat × (Nat → Int64) × (Nat → Int32) × (Nat → Int32) × (Nat → Int32) × Int32 × (Nat → Int32) × (Nat → Int32) × (Nat → Int32) × (Nat → Int32)) :=
  if x4_116 = 0 then
    gd (ixb x2_116 100) <| nm (upd E_underway_116 x2_116.toNatClampNeg (-1 : Int32)) fun g16 =>
    some (T_count_116, nT_heads_116, T_heads_116, nT_places_116, T_places_116, nT_olders_116, T_olders_116, nT_sizes_116, T_sizes_116, nT_withins_116, T_withins_116, T_newest_116, M_images_116, M_path_116, E_level_116, E_goals_116, E_marks_116, E_looked_116, g16)
  else
    some (T_count_116, nT_heads_116, T_heads_116, nT_places_116, T_places_116, nT_olders_116, T_olders_116, nT_sizes_116, T_sizes_116, nT_withins_116, T_withins_116, T_newest_116, M_images_116, M_path_116, E_level_116, E_goals_116, E_marks_116, E_looked_116, E_underway_116)
def f_E_enterNewGoal (T_count : Int32) (nT_heads : Nat) (T_heads : (Nat → Int32)) (nT_places : Nat) (T_places : (Nat → Int32)) (nT_olders : Nat) (T_olders : (Nat → Int32)) (nT_sizes : Nat) (T_sizes : (Nat → Int32)) (nT_withins : Nat) (T_withins : (Nat → Int64)) (T_newest : (Nat → Int32)) (S_count : Int32) (S_premises : (Nat → Int32)) (S_premiseCounts : (Nat → Int32)) (S_conclusions : (Nat → Int32)) (M_images : (Nat → Int32)) (M_path : (Nat → Int32)) (E_level : Int32) (E_steps : Int32) (E_goals : (Nat → Int32)) (E_marks : (Nat → Int32)) (E_looked : (Nat → Int32)) (E_underway : (Nat → Int32)) (E_met : (Nat → Int32)) (p0 : Int32) : Option (Int32 × Nat × (Nat → Int32) × Nat × (Nat → Int32) × Nat × (Nat → Int32) × Nat × (Nat → Int32) × Nat × (Nat → Int64) × (Nat → Int32) × (Nat → Int32) × (Nat → Int32) × Int32 × (Nat → Int32) × (Nat → Int32) × (Nat → Int32) × (Nat → Int32)) :=
  (f_T_count T_count).bind fun r1 =>
  if E_steps ≤ (E_level + (1 : Int32)) then
    f_E_enterNewGoal_B116 S_count S_premises S_premiseCounts S_conclusions E_steps E_met T_count nT_heads T_heads nT_places T_places nT_olders T_olders nT_sizes T_sizes nT_withins T_withins T_newest M_images M_path E_level E_goals E_marks E_looked E_underway E_level (0 : Int32)
  else
    (f_T_makeRoom T_count nT_heads T_heads nT_places T_places nT_olders T_olders nT_sizes T_sizes nT_withins T_withins).bind fun r3 =>
    (f_S_conclusion S_count S_conclusions p0).bind fun r5 =>
    gd (ixb E_level 100) <|
    (f_M_matches T_count r3.1 r3.2.1 r3.2.2.1 r3.2.2.2.1 r3.2.2.2.2.2.2.2.2.1 r3.2.2.2.2.2.2.2.2.2 M_images r5 (E_goals E_level.toNatClampNeg) (273804165120 : Int64)).bind fun r7 =>
    gd (ixb E_level 100) <|
    (f_S_premise S_count S_premises S_premiseCounts p0 (E_met E_level.toNatClampNeg)).bind fun r9 =>
    (f_M_instance T_count r3.1 r3.2.1 r3.2.2.1 r3.2.2.2.1 r3.2.2.2.2.1 r3.2.2.2.2.2.1 r3.2.2.2.2.2.2.1 r3.2.2.2.2.2.2.2.1 r3.2.2.2.2.2.2.2.2.1 r3.2.2.2.2.2.2.2.2.2 T_newest r7.2 M_path r9 (10000 : Int32)).bind fun r10 =>
    if r10.1 = (-1 : Int32) then
      f_E_enterNewGoal_B116 S_count S_premises S_premiseCounts S_conclusions E_steps E_met r10.2.1 r3.1 r10.2.2.1 r3.2.2.1 r10.2.2.2.1 r3.2.2.2.2.1 r10.2.2.2.2.1 r3.2.2.2.2.2.2.1 r10.2.2.2.2.2.1 r3.2.2.2.2.2.2.2.2.1 r10.2.2.2.2.2.2.1 r10.2.2.2.2.2.2.2.1 r10.2.2.2.2.2.2.2.2.1 r10.2.2.2.2.2.2.2.2.2 E_level E_goals E_marks E_looked E_underway E_level (0 : Int32)
    else
      (f_E_enter E_level E_steps E_goals E_marks E_looked E_underway r10.1 r1).bind fun r12 =>
      if r12.1 = 0 then
        f_E_enterNewGoal_B116 S_count S_premises S_premiseCounts S_conclusions E_steps E_met r10.2.1 r3.1 r10.2.2.1 r3.2.2.1 r10.2.2.2.1 r3.2.2.2.2.1 r10.2.2.2.2.1 r3.2.2.2.2.2.2.1 r10.2.2.2.2.2.1 r3.2.2.2.2.2.2.2.2.1 r10.2.2.2.2.2.2.1 r10.2.2.2.2.2.2.2.1 r10.2.2.2.2.2.2.2.2.1 r10.2.2.2.2.2.2.2.2.2 r12.2.1 r12.2.2.1 r12.2.2.2.1 r12.2.2.2.2.1 r12.2.2.2.2.2 E_level (0 : Int32)
      else
        f_E_enterNewGoal_B116 S_count S_premises S_premiseCounts S_conclusions E_steps E_met r10.2.1 r3.1 r10.2.2.1 r3.2.2.1 r10.2.2.2.1 r3.2.2.2.2.1 r10.2.2.2.2.1 r3.2.2.2.2.2.2.1 r10.2.2.2.2.2.1 r3.2.2.2.2.2.2.2.2.1 r10.2.2.2.2.2.2.1 r10.2.2.2.2.2.2.2.1 r10.2.2.2.2.2.2.2.2.1 r10.2.2.2.2.2.2.2.2.2 r12.2.1 r12.2.2.1 r12.2.2.2.1 r12.2.2.2.2.1 r12.2.2.2.2.2 E_level (1 : Int32)
theorem mono_E_enterNewGoal_B116 {S_count : Int32} {S_premises : (Nat → Int32)} {S_premiseCounts : (Nat → Int32)} {S_conclusions : (Nat → Int32)} {E_steps : Int32} {E_met : (Nat → Int32)} {o : Int32 × Nat × (Nat → Int32) × Nat × (Nat → Int32) × Nat × (Nat → Int32) × Nat × (Nat → Int32) × Nat × (Nat → Int64) × (Nat → Int32) × (Nat → Int32) × (Nat → Int32) × Int32 × (Nat → Int32) × (Nat → Int32) × (Nat → Int32) × (Nat → Int32)} {T_count_116 : Int32} {nT_heads_116 : Nat} {T_heads_116 : (Nat → Int32)} {nT_places_116 : Nat} {T_places_116 : (Nat → Int32)} {nT_olders_116 : Nat} {T_olders_116 : (Nat → Int32)} {nT_sizes_116 : Nat} {T_sizes_116 : (Nat → Int32)} {nT_withins_116 : Nat} {T_withins_116 : (Nat → Int64)} {T_newest_116 : (Nat → Int32)} {M_images_116 : (Nat → Int32)} {M_path_116 : (Nat → Int32)} {E_level_116 : Int32} {E_goals_116 : (Nat → Int32)} {E_marks_116 : (Nat → Int32)} {E_looked_116 : (Nat → Int32)} {E_underway_116 : (Nat → Int32)} {x2_116 : Int32} {x4_116 : Int32} (hf : f_E_enterNewGoal_B116 S_count S_premises S_premiseCounts S_conclusions E_steps E_met T_count_116 nT_heads_116 T_heads_116 nT_places_116 T_places_116 nT_olders_116 T_olders_116 nT_sizes_116 T_sizes_116 nT_withins_116 T_withins_116 T_newest_116 M_images_116 M_path_116 E_level_116 E_goals_116 E_marks_116 E_looked_116 E_underway_116 x2_116 x4_116 = some o) : nT_heads_116 ≤ o.2.1 := by
  rw [f_E_enterNewGoal_B116] at hf
  rcases (Classical.em (x4_116 = 0)).symm with c14 | c14
  · have hf := ite_f c14 hf
    obtain rfl := Option.some.inj hf
    simp only; omega
  · have hf := ite_t c14 hf
    obtain ⟨h15, hf⟩ := of_gd hf
    obtain ⟨g16, eg16⟩ : ∃ y : Nat → Int32, y = upd E_underway_116 x2_116.toNatClampNeg (-1 : Int32) := ⟨_, rfl⟩
    have hf := of_nm eg16 hf
    obtain rfl := Option.some.inj hf
    simp only; omega
theorem mono_E_enterNewGoal {T_count : Int32} {nT_heads : Nat} {T_heads : (Nat → Int32)} {nT_places : Nat} {T_places : (Nat → Int32)} {nT_olders : Nat} {T_olders : (Nat → Int32)} {nT_sizes : Nat} {T_sizes : (Nat → Int32)} {nT_withins : Nat} {T_withins : (Nat → Int64)} {T_newest : (Nat → Int32)} {S_count : Int32} {S_premises : (Nat → Int32)} {S_premiseCounts : (Nat → Int32)} {S_conclusions : (Nat → Int32)} {M_images : (Nat → Int32)} {M_path : (Nat → Int32)} {E_level : Int32} {E_steps : Int32} {E_goals : (Nat → Int32)} {E_marks : (Nat → Int32)} {E_looked : (Nat → Int32)} {E_underway : (Nat → Int32)} {E_met : (Nat → Int32)} {p0 : Int32} {o : Int32 × Nat × (Nat → Int32) × Nat × (Nat → Int32) × Nat × (Nat → Int32) × Nat × (Nat → Int32) × Nat × (Nat → Int64) × (Nat → Int32) × (Nat → Int32) × (Nat → Int32) × Int32 × (Nat → Int32) × (Nat → Int32) × (Nat → Int32) × (Nat → Int32)} (hf : f_E_enterNewGoal T_count nT_heads T_heads nT_places T_places nT_olders T_olders nT_sizes T_sizes nT_withins T_withins T_newest S_count S_premises S_premiseCounts S_conclusions M_images M_path E_level E_steps E_goals E_marks E_looked E_underway E_met p0 = some o) : nT_heads ≤ o.2.1 := by
  rw [f_E_enterNewGoal] at hf
  obtain ⟨r1, hr1, hf⟩ := of_bd hf
  rcases (Classical.em (E_steps ≤ (E_level + (1 : Int32)))) with c2 | c2
  · have hf := ite_t c2 hf
    have hz := mono_E_enterNewGoal_B116 hf; omega
  · have hf := ite_f c2 hf
    obtain ⟨r3, hr3, hf⟩ := of_bd hf
    have hm17 : nT_heads ≤ r3.1 := mono_T_makeRoom hr3
    obtain ⟨r5, hr5, hf⟩ := of_bd hf
    obtain ⟨h6, hf⟩ := of_gd hf
    obtain ⟨r7, hr7, hf⟩ := of_bd hf
    obtain ⟨h8, hf⟩ := of_gd hf
    obtain ⟨r9, hr9, hf⟩ := of_bd hf
    obtain ⟨r10, hr10, hf⟩ := of_bd hf
    rcases (Classical.em (r10.1 = (-1 : Int32))) with c11 | c11
    · have hf := ite_t c11 hf
      have hz := mono_E_enterNewGoal_B116 hf; omega
    · have hf := ite_f c11 hf
      obtain ⟨r12, hr12, hf⟩ := of_bd hf
      rcases (Classical.em (r12.1 = 0)) with c13 | c13
      · have hf := ite_t c13 hf
        have hz := mono_E_enterNewGoal_B116 hf; omega
      · have hf := ite_f c13 hf
        have hz := mono_E_enterNewGoal_B116 hf; omega
abbrev rm_E_enterNewGoal (c s : Nat) : Room := { frames := 4, cells := c, slots := s, locals := 106 }
set_option maxHeartbeats 4000000 in
set_option maxRecDepth 100000 in
theorem c_E_enterNewGoal (l : Launch) (D : va_G) (cI cJ cZ : ClassId) (aT aT_heads aT_places aT_olders aT_sizes aT_withins aT_newest aS aS_premises aS_premiseCounts aS_conclusions aS_order aM aM_images aM_path aE aE_goals aE_marks aE_looked aE_underway aE_met aE_takenHere : Nat) (sz : Nat) (T_count : Int32) (nT_heads : Nat) (T_heads : (Nat → Int32)) (nT_places : Nat) (T_places : (Nat → Int32)) (nT_olders : Nat) (T_olders : (Nat → Int32)) (nT_sizes : Nat) (T_sizes : (Nat → Int32)) (nT_withins : Nat) (T_withins : (Nat → Int64)) (T_newest : (Nat → Int32)) (S_count : Int32) (S_premises : (Nat → Int32)) (S_premiseCounts : (Nat → Int32)) (S_conclusions : (Nat → Int32)) (M_images : (Nat → Int32)) (M_path : (Nat → Int32)) (E_level : Int32) (E_steps : Int32) (E_tries : Int32) (E_taken : Int32) (E_first : Int32) (E_goals : (Nat → Int32)) (E_marks : (Nat → Int32)) (E_looked : (Nat → Int32)) (E_underway : (Nat → Int32)) (E_met : (Nat → Int32)) (p0 : Int32) (o : Int32 × Nat × (Nat → Int32) × Nat × (Nat → Int32) × Nat × (Nat → Int32) × Nat × (Nat → Int32) × Nat × (Nat → Int64) × (Nat → Int32) × (Nat → Int32) × (Nat → Int32) × Int32 × (Nat → Int32) × (Nat → Int32) × (Nat → Int32) × (Nat → Int32)) (hf : f_E_enterNewGoal T_count nT_heads T_heads nT_places T_places nT_olders T_olders nT_sizes T_sizes nT_withins T_withins T_newest S_count S_premises S_premiseCounts S_conclusions M_images M_path E_level E_steps E_goals E_marks E_looked E_underway E_met p0 = some o) : Met l y_E_enterNewGoal (ws_E_enterNewGoal) (rm_E_enterNewGoal (PC nT_heads - PC o.2.1) (PS nT_heads - PS o.2.1)) (WPc D vwCl cI cJ cZ [.ref aE, .int p0] (wv_85 cI cJ cZ aT aT_heads aT_places aT_olders aT_sizes aT_withins aT_newest aS aS_premises aS_premiseCounts aS_conclusions aS_order aM aM_images aM_path aE aE_goals aE_marks aE_looked aE_underway aE_met aE_takenHere T_count nT_heads T_heads nT_places T_places nT_olders T_olders nT_sizes T_sizes nT_withins T_withins T_newest S_count S_premises S_premiseCounts S_conclusions M_images M_path E_level E_steps E_tries E_taken E_first E_goals E_marks E_looked E_underway E_met) sz) (WQx D vwCl none (fun as => (wv_85 cI cJ cZ aT (as 0) (as 1) (as 2) (as 3) (as 4) aT_newest aS aS_premises aS_premiseCounts aS_conclusions aS_order aM aM_images aM_path aE aE_goals aE_marks aE_looked aE_underway aE_met aE_takenHere o.1 o.2.1 o.2.2.1 o.2.2.2.1 o.2.2.2.2.1 o.2.2.2.2.2.1 o.2.2.2.2.2.2.1 o.2.2.2.2.2.2.2.1 o.2.2.2.2.2.2.2.2.1 o.2.2.2.2.2.2.2.2.2.1 o.2.2.2.2.2.2.2.2.2.2.1 o.2.2.2.2.2.2.2.2.2.2.2.1 S_count S_premises S_premiseCounts S_conclusions o.2.2.2.2.2.2.2.2.2.2.2.2.1 o.2.2.2.2.2.2.2.2.2.2.2.2.2.1 o.2.2.2.2.2.2.2.2.2.2.2.2.2.2.1 E_steps E_tries E_taken E_first o.2.2.2.2.2.2.2.2.2.2.2.2.2.2.2.1 o.2.2.2.2.2.2.2.2.2.2.2.2.2.2.2.2.1 o.2.2.2.2.2.2.2.2.2.2.2.2.2.2.2.2.2.1 o.2.2.2.2.2.2.2.2.2.2.2.2.2.2.2.2.2.2 E_met)) (va_A (wv_85 cI cJ cZ aT aT_heads aT_places aT_olders aT_sizes aT_withins aT_newest aS aS_premises aS_premiseCounts aS_conclusions aS_order aM aM_images aM_path aE aE_goals aE_marks aE_looked aE_underway aE_met aE_takenHere T_count nT_heads T_heads nT_places T_places nT_olders T_olders nT_sizes T_sizes nT_withins T_withins T_newest S_count S_premises S_premiseCounts S_conclusions M_images M_path E_level E_steps E_tries E_taken E_first E_goals E_marks E_looked E_underway E_met) sz)) (PC nT_heads - PC o.2.1) (PS nT_heads - PS o.2.1) (va_A (wv_85 cI cJ cZ aT aT_heads aT_places aT_olders aT_sizes aT_withins aT_newest aS aS_premises aS_premiseCounts aS_conclusions aS_order aM aM_images aM_path aE aE_goals aE_marks aE_looked aE_underway aE_met aE_takenHere T_count nT_heads T_heads nT_places T_places nT_olders T_olders nT_sizes T_sizes nT_withins T_withins T_newest S_count S_premises S_premiseCounts S_conclusions M_images M_path E_level E_steps E_tries E_taken E_first E_goals E_marks E_looked E_underway E_met) sz) := by
  refine Met.ofW (cc := b_E_enterNewGoal) (maxL := 6) (ret := none) (by decide) rfl ?_
  intro p e s m args below meth c s₁ B hml hv
  obtain ⟨rfl, rfl, hP, hK, hD0⟩ := hv
  have hx := B.exec
  have hb := B.bytes
  have hr := B.returns
  have hts : ∀ w ∈ BG, w.before _ s = true := fun w h => atoms_spec (ws := (ws_E_enterNewGoal)) B.pre w (List.mem_cons_of_mem _ h)
  have hown : s.vm.findClass RR_E = some m.cls := findClass_of_methodNamed B.named
  have hlocks := B.notSynchronized
  have hD := hD0.self (sz := s.heap.size)
  have hA : ∀ q : Nat, s.heap.size ≤ q → va_A (wv_85 cI cJ cZ aT aT_heads aT_places aT_olders aT_sizes aT_withins aT_newest aS aS_premises aS_premiseCounts aS_conclusions aS_order aM aM_images aM_path aE aE_goals aE_marks aE_looked aE_underway aE_met aE_takenHere T_count nT_heads T_heads nT_places T_places nT_olders T_olders nT_sizes T_sizes nT_withins T_withins T_newest S_count S_premises S_premiseCounts S_conclusions M_images M_path E_level E_steps E_tries E_taken E_first E_goals E_marks E_looked E_underway E_met) s.heap.size q := fun q h => Or.inr h
  have hS : va_S (va_A (wv_85 cI cJ cZ aT aT_heads aT_places aT_olders aT_sizes aT_withins aT_newest aS aS_premises aS_premiseCounts aS_conclusions aS_order aM aM_images aM_path aE aE_goals aE_marks aE_looked aE_underway aE_met aE_takenHere T_count nT_heads T_heads nT_places T_places nT_olders T_olders nT_sizes T_sizes nT_withins T_withins T_newest S_count S_premises S_premiseCounts S_conclusions M_images M_path E_level E_steps E_tries E_taken E_first E_goals E_marks E_looked E_underway E_met) s.heap.size) s.heap s.heap [] := va_S.rf
  generalize va_A (wv_85 cI cJ cZ aT aT_heads aT_places aT_olders aT_sizes aT_withins aT_newest aS aS_premises aS_premiseCounts aS_conclusions aS_order aM aM_images aM_path aE aE_goals aE_marks aE_looked aE_underway aE_met aE_takenHere T_count nT_heads T_heads nT_places T_places nT_olders T_olders nT_sizes T_sizes nT_withins T_withins T_newest S_count S_premises S_premiseCounts S_conclusions M_images M_path E_level E_steps E_tries E_taken E_first E_goals E_marks E_looked E_underway E_met) s.heap.size = A at hD hA hS ⊢
  have hl := lv_entry ([.ref aE, .int p0]) (n := 6) (Nat.le_of_ble_eq_true rfl)
  rw [lg_entry_eq]
  generalize (lg_sl ([.ref aE, .int p0]) ++ List.replicate (6 - (lg_sl ([.ref aE, .int p0])).length) Slot.unset).toArray = ls at hl ⊢
  have hl : lv_has ls 6 [(0, .ref aE), (1, .int p0)] := hl
  have hB116 : ∀ (T_count_116 : Int32) (nT_heads_116 : Nat) (T_heads_116 : (Nat → Int32)) (nT_places_116 : Nat) (T_places_116 : (Nat → Int32)) (nT_olders_116 : Nat) (T_olders_116 : (Nat → Int32)) (nT_sizes_116 : Nat) (T_sizes_116 : (Nat → Int32)) (nT_withins_116 : Nat) (T_withins_116 : (Nat → Int64)) (T_newest_116 : (Nat → Int32)) (M_images_116 : (Nat → Int32)) (M_path_116 : (Nat → Int32)) (E_level_116 : Int32) (E_goals_116 : (Nat → Int32)) (E_marks_116 : (Nat → Int32)) (E_looked_116 : (Nat → Int32)) (E_underway_116 : (Nat → Int32)) (x2_116 : Int32) (x4_116 : Int32), ∀ (aT_heads_116 aT_places_116 aT_olders_116 aT_sizes_116 aT_withins_116 : Nat), nT_heads ≤ nT_heads_116 → ∀ (H : Heap) (locs : List Loc), va_P D vwCl (wv_85 cI cJ cZ aT aT_heads_116 aT_places_116 aT_olders_116 aT_sizes_116 aT_withins_116 aT_newest aS aS_premises aS_premiseCounts aS_conclusions aS_order aM aM_images aM_path aE aE_goals aE_marks aE_looked aE_underway aE_met aE_takenHere T_count_116 nT_heads_116 T_heads_116 nT_places_116 T_places_116 nT_olders_116 T_olders_116 nT_sizes_116 T_sizes_116 nT_withins_116 T_withins_116 T_newest_116 S_count S_premises S_premiseCounts S_conclusions M_images_116 M_path_116 E_level_116 E_steps E_tries E_taken E_first E_goals_116 E_marks_116 E_looked_116 E_underway_116 E_met) H → va_D A (wv_85 cI cJ cZ aT aT_heads_116 aT_places_116 aT_olders_116 aT_sizes_116 aT_withins_116 aT_newest aS aS_premises aS_premiseCounts aS_conclusions aS_order aM aM_images aM_path aE aE_goals aE_marks aE_looked aE_underway aE_met aE_takenHere T_count_116 nT_heads_116 T_heads_116 nT_places_116 T_places_116 nT_olders_116 T_olders_116 nT_sizes_116 T_sizes_116 nT_withins_116 T_withins_116 T_newest_116 S_count S_premises S_premiseCounts S_conclusions M_images_116 M_path_116 E_level_116 E_steps E_tries E_taken E_first E_goals_116 E_marks_116 E_looked_116 E_underway_116 E_met) → va_S A s.heap H locs → ∀ (ls : Array Slot), lv_has ls 6 [(0, .ref aE), (2, .int x2_116), (4, .int x4_116)] → f_E_enterNewGoal_B116 S_count S_premises S_premiseCounts S_conclusions E_steps E_met T_count_116 nT_heads_116 T_heads_116 nT_places_116 T_places_116 nT_olders_116 T_olders_116 nT_sizes_116 T_sizes_116 nT_withins_116 T_withins_116 T_newest_116 M_images_116 M_path_116 E_level_116 E_goals_116 E_marks_116 E_looked_116 E_underway_116 x2_116 x4_116 = some o → W p l e (headSpec (ws_E_enterNewGoal) (rm_E_enterNewGoal (PC nT_heads - PC o.2.1) (PS nT_heads - PS o.2.1))).room s m ([.ref aE, .int p0] : List Value).toArray below meth c H locs (PC nT_heads - PC nT_heads_116) (PS nT_heads - PS nT_heads_116) (MQ below (WQx D vwCl none (fun as => (wv_85 cI cJ cZ aT (as 0) (as 1) (as 2) (as 3) (as 4) aT_newest aS aS_premises aS_premiseCounts aS_conclusions aS_order aM aM_images aM_path aE aE_goals aE_marks aE_looked aE_underway aE_met aE_takenHere o.1 o.2.1 o.2.2.1 o.2.2.2.1 o.2.2.2.2.1 o.2.2.2.2.2.1 o.2.2.2.2.2.2.1 o.2.2.2.2.2.2.2.1 o.2.2.2.2.2.2.2.2.1 o.2.2.2.2.2.2.2.2.2.1 o.2.2.2.2.2.2.2.2.2.2.1 o.2.2.2.2.2.2.2.2.2.2.2.1 S_count S_premises S_premiseCounts S_conclusions o.2.2.2.2.2.2.2.2.2.2.2.2.1 o.2.2.2.2.2.2.2.2.2.2.2.2.2.1 o.2.2.2.2.2.2.2.2.2.2.2.2.2.2.1 E_steps E_tries E_taken E_first o.2.2.2.2.2.2.2.2.2.2.2.2.2.2.2.1 o.2.2.2.2.2.2.2.2.2.2.2.2.2.2.2.2.1 o.2.2.2.2.2.2.2.2.2.2.2.2.2.2.2.2.2.1 o.2.2.2.2.2.2.2.2.2.2.2.2.2.2.2.2.2.2 E_met)) A) ([.ref aE, .int p0] : List Value).toArray s (PC nT_heads - PC o.2.1) (PS nT_heads - PS o.2.1) A) (F0 m 116 ls []) := by
    intro T_count_116 nT_heads_116 T_heads_116 nT_places_116 T_places_116 nT_olders_116 T_olders_116 nT_sizes_116 T_sizes_116 nT_withins_116 T_withins_116 T_newest_116 M_images_116 M_path_116 E_level_116 E_goals_116 E_marks_116 E_looked_116 E_underway_116 x2_116 x4_116 aT_heads_116 aT_places_116 aT_olders_116 aT_sizes_116 aT_withins_116 hG H locs hP hD hS ls hl hf
    have hM : nT_heads_116 ≤ o.2.1 := mono_E_enterNewGoal_B116 hf
    have hC1 : PC o.2.1 ≤ PC nT_heads_116 := PC_anti hM
    have hC2 : PC nT_heads_116 ≤ PC nT_heads := PC_anti hG
    have hC3 : PS o.2.1 ≤ PS nT_heads_116 := PS_anti hM
    have hC4 : PS nT_heads_116 ≤ PS nT_heads := PS_anti hG
    rw [f_E_enterNewGoal_B116] at hf
    refine lv_iload hx hb d_E_enterNewGoal_116 (lv_at hl 2 rfl) ?_
    refine lv_if_ne (tgt := 128) hx hb d_E_enterNewGoal_118 (by decide) (fun c14 => ?_) (fun c14 => ?_)
    · have hf := ite_f c14 hf
      obtain rfl := Option.some.inj hf
      exact W.vret hx hb hr (fun t ht hW => ⟨rfl, fun i => ([aT_heads_116, aT_places_116, aT_olders_116, aT_sizes_116, aT_withins_116] : List Nat).getD i 0, by rw [ht]; exact hP, hD, hS.F ht⟩) hS.2.2 d_E_enterNewGoal_128
    · have hf := ite_t c14 hf
      refine lv_aload_n hx hb d_E_enterNewGoal_121 rfl (lv_at hl 0 rfl) ?_
      refine va_get (D := D) (ci := 5) (v := .ref aE_underway) (C := RR_E) (T := FF_E) (N := 14) hx hb hts kin_E hown hK.1 hP 14 rfl rfl 6 (by decide) (hts _ k1_141) (fun _ h9 => h9) rfl d_E_enterNewGoal_122 ?_
      refine lv_iload_n hx hb d_E_enterNewGoal_125 rfl (lv_at hl 1 rfl) ?_
      refine lv_iconst (v := -1) hx hb d_E_enterNewGoal_126 (by decide) ?_
      obtain ⟨h15, hf⟩ := of_gd hf
      obtain ⟨g16, eg16⟩ : ∃ y : Nat → Int32, y = upd E_underway_116 x2_116.toNatClampNeg (-1 : Int32) := ⟨_, rfl⟩
      have hf := of_nm eg16 hf
      refine va_iast hx hb hK.1 hP hD hS 18 0 rfl rfl (ixb_in h15) d_E_enterNewGoal_127 (fun H locs hP hD hS => ?_)
      rw [← eg16] at hP hD
      have hP : va_P D vwCl (wv_85 cI cJ cZ aT aT_heads_116 aT_places_116 aT_olders_116 aT_sizes_116 aT_withins_116 aT_newest aS aS_premises aS_premiseCounts aS_conclusions aS_order aM aM_images aM_path aE aE_goals aE_marks aE_looked aE_underway aE_met aE_takenHere T_count_116 nT_heads_116 T_heads_116 nT_places_116 T_places_116 nT_olders_116 T_olders_116 nT_sizes_116 T_sizes_116 nT_withins_116 T_withins_116 T_newest_116 S_count S_premises S_premiseCounts S_conclusions M_images_116 M_path_116 E_level_116 E_steps E_tries E_taken E_first E_goals_116 E_marks_116 E_looked_116 g16 E_met) H := hP
      have hD : va_D A (wv_85 cI cJ cZ aT aT_heads_116 aT_places_116 aT_olders_116 aT_sizes_116 aT_withins_116 aT_newest aS aS_premises aS_premiseCounts aS_conclusions aS_order aM aM_images aM_path aE aE_goals aE_marks aE_looked aE_underway aE_met aE_takenHere T_count_116 nT_heads_116 T_heads_116 nT_places_116 T_places_116 nT_olders_116 T_olders_116 nT_sizes_116 T_sizes_116 nT_withins_116 T_withins_116 T_newest_116 S_count S_premises S_premiseCounts S_conclusions M_images_116 M_path_116 E_level_116 E_steps E_tries E_taken E_first E_goals_116 E_marks_116 E_looked_116 g16 E_met) := hD
      obtain rfl := Option.some.inj hf
      exact W.vret hx hb hr (fun t ht hW => ⟨rfl, fun i => ([aT_heads_116, aT_places_116, aT_olders_116, aT_sizes_116, aT_withins_116] : List Nat).getD i 0, by rw [ht]; exact hP, hD, hS.F ht⟩) hS.2.2 d_E_enterNewGoal_128
  have hG : nT_heads ≤ nT_heads := Nat.le_refl _
  have hM : nT_heads ≤ o.2.1 := mono_E_enterNewGoal hf
  have hC1 : PC o.2.1 ≤ PC nT_heads := PC_anti hM
  have hC2 : PC nT_heads ≤ PC nT_heads := PC_anti hG
  have hC3 : PS o.2.1 ≤ PS nT_heads := PS_anti hM
  have hC4 : PS nT_heads ≤ PS nT_heads := PS_anti hG
  refine W.widen (k := PC nT_heads - PC nT_heads) (n := PS nT_heads - PS nT_heads) (Nat.zero_le _) (Nat.zero_le _) ?_
  rw [f_E_enterNewGoal] at hf
  refine lv_aload_n hx hb d_E_enterNewGoal_0 rfl (lv_at hl 0 rfl) ?_
  refine va_get (D := D) (ci := 5) (v := .int E_level) (C := RR_E) (T := FF_E) (N := 14) hx hb hts kin_E hown hK.1 hP 14 rfl rfl 9 (by decide) (hts _ k1_144) (fun _ h9 => h9) rfl d_E_enterNewGoal_1 ?_
  refine lv_istore_n (lv' := [(2, .int E_level), (0, .ref aE), (1, .int p0)]) hx hb d_E_enterNewGoal_4 rfl hl (by decide) rfl (fun ls hl => ?_)
  refine lv_aload_n hx hb d_E_enterNewGoal_5 rfl (lv_at hl 1 rfl) ?_
  refine va_get (D := D) (ci := 5) (v := .ref aT) (C := RR_E) (T := FF_E) (N := 14) hx hb hts kin_E hown hK.1 hP 14 rfl rfl 0 (by decide) (hts _ k1_135) (fun _ h9 => h9) rfl d_E_enterNewGoal_6 ?_
  obtain ⟨r1, hr1, hf⟩ := of_bd hf
  refine rd_call (va_runV (As := []) (rest := []) ⟨hx, hb, hml, hown, hts⟩ (c_T_count l D cI cJ cZ aT aT_heads aT_places aT_olders aT_sizes aT_withins aT_newest T_count r1 hr1) (bigV 0 hts k3_220 k2_126 k2_127 k1_2 k2_128 rfl rfl hd_T_count ⟨Nat.le_of_ble_eq_true rfl, Nat.le_of_ble_eq_true rfl⟩) (rd_preV hK hP [0] rfl 0 rfl rfl rfl) rfl rfl hl.1 rfl (lv_room (Nat.le_of_ble_eq_true rfl)) d_E_enterNewGoal_9 ⟨by show _ ≤ PC nT_heads - PC o.2.1; omega, by show _ ≤ PS nT_heads - PS o.2.1; omega⟩) ?_
  refine lv_istore_n (lv' := [(3, .int r1), (2, .int E_level), (0, .ref aE), (1, .int p0)]) hx hb d_E_enterNewGoal_12 rfl hl (by decide) rfl (fun ls hl => ?_)
  refine lv_iconst (v := 0) hx hb d_E_enterNewGoal_13 (by decide) ?_
  refine lv_istore (lv' := [(4, .int (0 : Int32)), (3, .int r1), (2, .int E_level), (0, .ref aE), (1, .int p0)]) hx hb d_E_enterNewGoal_14 hl (by decide) rfl (fun ls hl => ?_)
  refine lv_aload_n hx hb d_E_enterNewGoal_16 rfl (lv_at hl 3 rfl) ?_
  refine va_get (D := D) (ci := 5) (v := .int E_level) (C := RR_E) (T := FF_E) (N := 14) hx hb hts kin_E hown hK.1 hP 14 rfl rfl 9 (by decide) (hts _ k1_144) (fun _ h9 => h9) rfl d_E_enterNewGoal_17 ?_
  refine lv_iconst (v := 1) hx hb d_E_enterNewGoal_20 (by decide) ?_
  refine lv_iadd hx hb d_E_enterNewGoal_21 ?_
  refine lv_aload_n hx hb d_E_enterNewGoal_22 rfl (lv_at hl 3 rfl) ?_
  refine va_get (D := D) (ci := 5) (v := .int E_steps) (C := RR_E) (T := FF_E) (N := 14) hx hb hts kin_E hown hK.1 hP 14 rfl rfl 10 (by decide) (hts _ k1_145) (fun _ h9 => h9) rfl d_E_enterNewGoal_23 ?_
  refine lv_icmp_ge (tgt := 116) hx hb d_E_enterNewGoal_26 (by decide) (fun c2 => ?_) (fun c2 => ?_)
  · have hf := ite_t c2 hf
    exact hB116 _ _ _ _ _ _ _ _ _ _ _ _ _ _ _ _ _ _ _ _ _ _ _ _ _ _ hG _ _ hP hD hS _ (lv_sub hl [3, 2, 0] rfl) hf
  · have hf := ite_f c2 hf
    refine lv_aload_n hx hb d_E_enterNewGoal_29 rfl (lv_at hl 3 rfl) ?_
    refine va_get (D := D) (ci := 5) (v := .ref aT) (C := RR_E) (T := FF_E) (N := 14) hx hb hts kin_E hown hK.1 hP 14 rfl rfl 0 (by decide) (hts _ k1_135) (fun _ h9 => h9) rfl d_E_enterNewGoal_30 ?_
    obtain ⟨r3, hr3, hf⟩ := of_bd hf
    have hN : nT_heads ≤ r3.1 := mono_T_makeRoom hr3
    have hG0 := hG
    have hG : nT_heads ≤ r3.1 := Nat.le_trans hG hN
    have hM : r3.1 ≤ o.2.1 := by
      obtain ⟨r5, hr5, hf⟩ := of_bd hf
      obtain ⟨h6, hf⟩ := of_gd hf
      obtain ⟨r7, hr7, hf⟩ := of_bd hf
      obtain ⟨h8, hf⟩ := of_gd hf
      obtain ⟨r9, hr9, hf⟩ := of_bd hf
      obtain ⟨r10, hr10, hf⟩ := of_bd hf
      rcases (Classical.em (r10.1 = (-1 : Int32))) with c11 | c11
      · have hf := ite_t c11 hf
        have hz := mono_E_enterNewGoal_B116 hf; omega
      · have hf := ite_f c11 hf
        obtain ⟨r12, hr12, hf⟩ := of_bd hf
        rcases (Classical.em (r12.1 = 0)) with c13 | c13
        · have hf := ite_t c13 hf
          have hz := mono_E_enterNewGoal_B116 hf; omega
        · have hf := ite_f c13 hf
          have hz := mono_E_enterNewGoal_B116 hf; omega
    have hD1 : PC r3.1 ≤ PC nT_heads := PC_anti hN
    have hD2 : PS r3.1 ≤ PS nT_heads := PS_anti hN
    have hD3 : PC o.2.1 ≤ PC r3.1 := PC_anti hM
    have hD4 : PS o.2.1 ≤ PS r3.1 := PS_anti hM
    refine wr_callx (ws' := fun as4 => (wv_85 cI cJ cZ aT (as4 0) (as4 1) (as4 2) (as4 3) (as4 4) aT_newest aS aS_premises aS_premiseCounts aS_conclusions aS_order aM aM_images aM_path aE aE_goals aE_marks aE_looked aE_underway aE_met aE_takenHere T_count r3.1 r3.2.1 r3.2.2.1 r3.2.2.2.1 r3.2.2.2.2.1 r3.2.2.2.2.2.1 r3.2.2.2.2.2.2.1 r3.2.2.2.2.2.2.2.1 r3.2.2.2.2.2.2.2.2.1 r3.2.2.2.2.2.2.2.2.2 T_newest S_count S_premises S_premiseCounts S_conclusions M_images M_path E_level E_steps E_tries E_taken E_first E_goals E_marks E_looked E_underway E_met)) (va_runV (As := []) (rest := []) ⟨hx, hb, hml, hown, hts⟩ (c_T_makeRoom l D cI cJ cZ aT aT_heads aT_places aT_olders aT_sizes aT_withins aT_newest _ T_count nT_heads T_heads nT_places T_places nT_olders T_olders nT_sizes T_sizes nT_withins T_withins r3 hr3) (bigV 0 hts k4_16 k4_17 k4_18 k1_2 k4_19 rfl rfl hd_T_makeRoom ⟨Nat.le_of_ble_eq_true rfl, Nat.le_of_ble_eq_true rfl⟩) (wr_preV hK hP hD [0, 1, 2, 3, 4, 5] rfl (by decide) rfl 0 rfl rfl rfl) rfl rfl hl.1 rfl (lv_room (Nat.le_of_ble_eq_true rfl)) d_E_enterNewGoal_33 ⟨by show _ ≤ PC nT_heads - PC o.2.1; omega, by show _ ≤ PS nT_heads - PS o.2.1; omega⟩) hP hD hS hA [0, 1, 2, 3, 4, 5] [6, 7, 8, 9, 10, 11, 12, 13, 14, 15, 16, 17, 18, 19] rfl rfl (by decide) (by decide) [14, 15, 16, 17, 18, 19, 0, 1, 2, 3, 4, 5, 6, 7, 8, 9, 10, 11, 12, 13] (by decide) (fun _ => rfl) (fun as4 H locs hP hD hS => ?_)
    refine W.widen (k := PC nT_heads - PC r3.1) (n := PS nT_heads - PS r3.1) (by omega) (by omega) ?_
    have hC1 : PC o.2.1 ≤ PC r3.1 := PC_anti hM
    have hC2 : PC r3.1 ≤ PC nT_heads := PC_anti hG
    have hC3 : PS o.2.1 ≤ PS r3.1 := PS_anti hM
    have hC4 : PS r3.1 ≤ PS nT_heads := PS_anti hG
    refine lv_aload_n hx hb d_E_enterNewGoal_36 rfl (lv_at hl 3 rfl) ?_
    refine va_get (D := D) (ci := 5) (v := .ref aM) (C := RR_E) (T := FF_E) (N := 14) hx hb hts kin_E hown hK.1 hP 14 rfl rfl 2 (by decide) (hts _ k1_137) (fun _ h9 => h9) rfl d_E_enterNewGoal_37 ?_
    refine lv_aload_n hx hb d_E_enterNewGoal_40 rfl (lv_at hl 3 rfl) ?_
    refine va_get (D := D) (ci := 5) (v := .ref aS) (C := RR_E) (T := FF_E) (N := 14) hx hb hts kin_E hown hK.1 hP 14 rfl rfl 1 (by decide) (hts _ k1_136) (fun _ h9 => h9) rfl d_E_enterNewGoal_41 ?_
    refine lv_iload_n hx hb d_E_enterNewGoal_44 rfl (lv_at hl 4 rfl) ?_
    obtain ⟨r5, hr5, hf⟩ := of_bd hf
    refine rd_call (va_runV (As := [.int p0]) (rest := [.ref aM]) ⟨hx, hb, hml, hown, hts⟩ (c_S_conclusion l D cI cJ cZ aS aS_premises aS_premiseCounts aS_conclusions aS_order S_count S_conclusions p0 r5 hr5) (bigV 1 hts k4_4 k2_101 k2_102 k1_4 k2_103 rfl rfl hd_S_conclusion ⟨Nat.le_of_ble_eq_true rfl, Nat.le_of_ble_eq_true rfl⟩) (rd_preV hK hP [7, 10] rfl 7 rfl rfl rfl) rfl rfl hl.1 rfl (lv_room (Nat.le_of_ble_eq_true rfl)) d_E_enterNewGoal_45 ⟨by show _ ≤ PC nT_heads - PC o.2.1; omega, by show _ ≤ PS nT_heads - PS o.2.1; omega⟩) ?_
    refine lv_aload_n hx hb d_E_enterNewGoal_48 rfl (lv_at hl 3 rfl) ?_
    refine va_get (D := D) (ci := 5) (v := .ref aE_goals) (C := RR_E) (T := FF_E) (N := 14) hx hb hts kin_E hown hK.1 hP 14 rfl rfl 3 (by decide) (hts _ k1_138) (fun _ h9 => h9) rfl d_E_enterNewGoal_49 ?_
    refine lv_aload_n hx hb d_E_enterNewGoal_52 rfl (lv_at hl 3 rfl) ?_
    refine va_get (D := D) (ci := 5) (v := .int E_level) (C := RR_E) (T := FF_E) (N := 14) hx hb hts kin_E hown hK.1 hP 14 rfl rfl 9 (by decide) (hts _ k1_144) (fun _ h9 => h9) rfl d_E_enterNewGoal_53 ?_
    obtain ⟨h6, hf⟩ := of_gd hf
    refine va_iald hx hb hK.1 hP 15 0 rfl rfl (ixb_in h6) d_E_enterNewGoal_56 ?_
    refine lv_ldc2 (v := 273804165120) hx hb hown (hts _ k4_5) d_E_enterNewGoal_57 ?_
    obtain ⟨r7, hr7, hf⟩ := of_bd hf
    refine wr_call (ws' := (wv_85 cI cJ cZ aT (as4 0) (as4 1) (as4 2) (as4 3) (as4 4) aT_newest aS aS_premises aS_premiseCounts aS_conclusions aS_order aM aM_images aM_path aE aE_goals aE_marks aE_looked aE_underway aE_met aE_takenHere T_count r3.1 r3.2.1 r3.2.2.1 r3.2.2.2.1 r3.2.2.2.2.1 r3.2.2.2.2.2.1 r3.2.2.2.2.2.2.1 r3.2.2.2.2.2.2.2.1 r3.2.2.2.2.2.2.2.2.1 r3.2.2.2.2.2.2.2.2.2 T_newest S_count S_premises S_premiseCounts S_conclusions r7.2 M_path E_level E_steps E_tries E_taken E_first E_goals E_marks E_looked E_underway E_met)) (va_runV (As := [.int r5, .int (E_goals E_level.toNatClampNeg), .long (273804165120 : Int64)]) (rest := []) ⟨hx, hb, hml, hown, hts⟩ (c_M_matches l D cI cJ cZ aT (as4 0) (as4 1) (as4 2) (as4 3) (as4 4) aT_newest aM aM_images aM_path _ T_count r3.1 r3.2.1 r3.2.2.1 r3.2.2.2.1 r3.2.2.2.2.2.2.2.2.1 r3.2.2.2.2.2.2.2.2.2 M_images r5 (E_goals E_level.toNatClampNeg) (273804165120 : Int64) r7 hr7) (bigV 3 hts k4_6 k2_59 k2_60 k1_5 k2_61 rfl rfl hd_M_matches ⟨Nat.le_of_ble_eq_true rfl, Nat.le_of_ble_eq_true rfl⟩) (wr_preV hK hP hD [0, 1, 2, 5, 11, 12] rfl (by decide) rfl 11 rfl rfl rfl) rfl rfl hl.1 rfl (lv_room (Nat.le_of_ble_eq_true rfl)) d_E_enterNewGoal_60 ⟨by show _ ≤ PC nT_heads - PC o.2.1; omega, by show _ ≤ PS nT_heads - PS o.2.1; omega⟩) hP hD hS hA [0, 1, 2, 5, 11, 12] [3, 4, 6, 7, 8, 9, 10, 13, 14, 15, 16, 17, 18, 19] rfl rfl (by decide) (by decide) [14, 15, 16, 0, 1, 17, 2, 3, 4, 5, 6, 18, 19, 7, 8, 9, 10, 11, 12, 13] (by decide) rfl (fun H locs hP hD hS => ?_)
    refine lv_pop hx hb d_E_enterNewGoal_63 rfl ?_
    refine lv_aload_n hx hb d_E_enterNewGoal_64 rfl (lv_at hl 3 rfl) ?_
    refine va_get (D := D) (ci := 5) (v := .ref aM) (C := RR_E) (T := FF_E) (N := 14) hx hb hts kin_E hown hK.1 hP 14 rfl rfl 2 (by decide) (hts _ k1_137) (fun _ h9 => h9) rfl d_E_enterNewGoal_65 ?_
    refine lv_aload_n hx hb d_E_enterNewGoal_68 rfl (lv_at hl 3 rfl) ?_
    refine va_get (D := D) (ci := 5) (v := .ref aS) (C := RR_E) (T := FF_E) (N := 14) hx hb hts kin_E hown hK.1 hP 14 rfl rfl 1 (by decide) (hts _ k1_136) (fun _ h9 => h9) rfl d_E_enterNewGoal_69 ?_
    refine lv_iload_n hx hb d_E_enterNewGoal_72 rfl (lv_at hl 4 rfl) ?_
    refine lv_aload_n hx hb d_E_enterNewGoal_73 rfl (lv_at hl 3 rfl) ?_
    refine va_get (D := D) (ci := 5) (v := .ref aE_met) (C := RR_E) (T := FF_E) (N := 14) hx hb hts kin_E hown hK.1 hP 14 rfl rfl 7 (by decide) (hts _ k1_142) (fun _ h9 => h9) rfl d_E_enterNewGoal_74 ?_
    refine lv_aload_n hx hb d_E_enterNewGoal_77 rfl (lv_at hl 3 rfl) ?_
    refine va_get (D := D) (ci := 5) (v := .int E_level) (C := RR_E) (T := FF_E) (N := 14) hx hb hts kin_E hown hK.1 hP 14 rfl rfl 9 (by decide) (hts _ k1_144) (fun _ h9 => h9) rfl d_E_enterNewGoal_78 ?_
    obtain ⟨h8, hf⟩ := of_gd hf
    refine va_iald hx hb hK.1 hP 19 0 rfl rfl (ixb_in h8) d_E_enterNewGoal_81 ?_
    obtain ⟨r9, hr9, hf⟩ := of_bd hf
    refine rd_call (va_runV (As := [.int p0, .int (E_met E_level.toNatClampNeg)]) (rest := [.ref aM]) ⟨hx, hb, hml, hown, hts⟩ (c_S_premise l D cI cJ cZ aS aS_premises aS_premiseCounts aS_conclusions aS_order S_count S_premises S_premiseCounts p0 (E_met E_level.toNatClampNeg) r9 hr9) (bigV 2 hts k4_42 k3_88 k3_89 k1_4 k3_90 rfl rfl hd_S_premise ⟨Nat.le_of_ble_eq_true rfl, Nat.le_of_ble_eq_true rfl⟩) (rd_preV hK hP [7, 8, 9] rfl 7 rfl rfl rfl) rfl rfl hl.1 rfl (lv_room (Nat.le_of_ble_eq_true rfl)) d_E_enterNewGoal_82 ⟨by show _ ≤ PC nT_heads - PC o.2.1; omega, by show _ ≤ PS nT_heads - PS o.2.1; omega⟩) ?_
    refine lv_sipush (v := 10000) hx hb d_E_enterNewGoal_85 (by decide) ?_
    obtain ⟨r10, hr10, hf⟩ := of_bd hf
    refine wr_call (ws' := (wv_85 cI cJ cZ aT (as4 0) (as4 1) (as4 2) (as4 3) (as4 4) aT_newest aS aS_premises aS_premiseCounts aS_conclusions aS_order aM aM_images aM_path aE aE_goals aE_marks aE_looked aE_underway aE_met aE_takenHere r10.2.1 r3.1 r10.2.2.1 r3.2.2.1 r10.2.2.2.1 r3.2.2.2.2.1 r10.2.2.2.2.1 r3.2.2.2.2.2.2.1 r10.2.2.2.2.2.1 r3.2.2.2.2.2.2.2.2.1 r10.2.2.2.2.2.2.1 r10.2.2.2.2.2.2.2.1 S_count S_premises S_premiseCounts S_conclusions r10.2.2.2.2.2.2.2.2.1 r10.2.2.2.2.2.2.2.2.2 E_level E_steps E_tries E_taken E_first E_goals E_marks E_looked E_underway E_met)) (va_runV (As := [.int r9, .int (10000 : Int32)]) (rest := []) ⟨hx, hb, hml, hown, hts⟩ (c_M_instance l D cI cJ cZ aT (as4 0) (as4 1) (as4 2) (as4 3) (as4 4) aT_newest aM aM_images aM_path _ T_count r3.1 r3.2.1 r3.2.2.1 r3.2.2.2.1 r3.2.2.2.2.1 r3.2.2.2.2.2.1 r3.2.2.2.2.2.2.1 r3.2.2.2.2.2.2.2.1 r3.2.2.2.2.2.2.2.2.1 r3.2.2.2.2.2.2.2.2.2 T_newest r7.2 M_path r9 (10000 : Int32) r10 hr10) (bigV 2 hts k4_43 k3_177 k3_178 k1_5 k3_179 rfl rfl hd_M_instance ⟨Nat.le_of_ble_eq_true rfl, Nat.le_of_ble_eq_true rfl⟩) (wr_preV hK hP hD [0, 1, 2, 3, 4, 5, 6, 11, 12, 13] rfl (by decide) rfl 11 rfl rfl rfl) rfl rfl hl.1 rfl (lv_room (Nat.le_of_ble_eq_true rfl)) d_E_enterNewGoal_88 ⟨by show _ ≤ PC nT_heads - PC o.2.1; omega, by show _ ≤ PS nT_heads - PS o.2.1; omega⟩) hP hD hS hA [0, 1, 2, 3, 4, 5, 6, 11, 12, 13] [7, 8, 9, 10, 14, 15, 16, 17, 18, 19] rfl rfl (by decide) (by decide) [10, 11, 12, 13, 14, 15, 16, 0, 1, 2, 3, 17, 18, 19, 4, 5, 6, 7, 8, 9] (by decide) rfl (fun H locs hP hD hS => ?_)
    refine lv_istore (lv' := [(5, .int r10.1), (4, .int (0 : Int32)), (3, .int r1), (2, .int E_level), (0, .ref aE), (1, .int p0)]) hx hb d_E_enterNewGoal_91 hl (by decide) rfl (fun ls hl => ?_)
    refine lv_iload hx hb d_E_enterNewGoal_93 (lv_at hl 0 rfl) ?_
    refine lv_iconst (v := -1) hx hb d_E_enterNewGoal_95 (by decide) ?_
    refine lv_icmp_eq (tgt := 113) hx hb d_E_enterNewGoal_96 (by decide) (fun c11 => ?_) (fun c11 => ?_)
    · have hf := ite_t c11 hf
      refine lv_iconst (v := 0) hx hb d_E_enterNewGoal_113 (by decide) ?_
      refine lv_istore (lv' := [(4, .int (0 : Int32)), (5, .int r10.1), (3, .int r1), (2, .int E_level), (0, .ref aE), (1, .int p0)]) hx hb d_E_enterNewGoal_114 hl (by decide) rfl (fun ls hl => ?_)
      exact hB116 _ _ _ _ _ _ _ _ _ _ _ _ _ _ _ _ _ _ _ _ _ _ _ _ _ _ hG _ _ hP hD hS _ (lv_sub hl [4, 3, 0] rfl) hf
    · have hf := ite_f c11 hf
      refine lv_aload_n hx hb d_E_enterNewGoal_99 rfl (lv_at hl 4 rfl) ?_
      refine lv_iload hx hb d_E_enterNewGoal_100 (lv_at hl 0 rfl) ?_
      refine lv_iload_n hx hb d_E_enterNewGoal_102 rfl (lv_at hl 2 rfl) ?_
      obtain ⟨r12, hr12, hf⟩ := of_bd hf
      refine wr_call (ws' := (wv_85 cI cJ cZ aT (as4 0) (as4 1) (as4 2) (as4 3) (as4 4) aT_newest aS aS_premises aS_premiseCounts aS_conclusions aS_order aM aM_images aM_path aE aE_goals aE_marks aE_looked aE_underway aE_met aE_takenHere r10.2.1 r3.1 r10.2.2.1 r3.2.2.1 r10.2.2.2.1 r3.2.2.2.2.1 r10.2.2.2.2.1 r3.2.2.2.2.2.2.1 r10.2.2.2.2.2.1 r3.2.2.2.2.2.2.2.2.1 r10.2.2.2.2.2.2.1 r10.2.2.2.2.2.2.2.1 S_count S_premises S_premiseCounts S_conclusions r10.2.2.2.2.2.2.2.2.1 r10.2.2.2.2.2.2.2.2.2 r12.2.1 E_steps E_tries E_taken E_first r12.2.2.1 r12.2.2.2.1 r12.2.2.2.2.1 r12.2.2.2.2.2 E_met)) (va_runV (As := [.int r10.1, .int r1]) (rest := []) ⟨hx, hb, hml, hown, hts⟩ (c_E_enter l D cI cJ cZ aT aS aM aE aE_goals aE_marks aE_looked aE_underway aE_met aE_takenHere _ E_level E_steps E_tries E_taken E_first E_goals E_marks E_looked E_underway r10.1 r1 r12 hr12) (bigV 2 hts k3_221 k3_223 ks_E_enter k1_7 k3_224 rfl rfl hd_E_enter ⟨Nat.le_of_ble_eq_true rfl, Nat.le_of_ble_eq_true rfl⟩) (wr_preV hK hP hD [14, 15, 16, 17, 18] rfl (by decide) rfl 14 rfl rfl rfl) rfl rfl hl.1 rfl (lv_room (Nat.le_of_ble_eq_true rfl)) d_E_enterNewGoal_103 ⟨by show _ ≤ PC nT_heads - PC o.2.1; omega, by show _ ≤ PS nT_heads - PS o.2.1; omega⟩) hP hD hS hA [14, 15, 16, 17, 18] [0, 1, 2, 3, 4, 5, 6, 7, 8, 9, 10, 11, 12, 13, 19] rfl rfl (by decide) (by decide) [0, 1, 2, 3, 4, 5, 6, 7, 8, 9, 10, 11, 12, 13, 15, 16, 17, 18, 19, 14] (by decide) rfl (fun H locs hP hD hS => ?_)
      refine lv_if_eq (tgt := 113) hx hb d_E_enterNewGoal_106 (by decide) (fun c13 => ?_) (fun c13 => ?_)
      · have hf := ite_t c13 hf
        refine lv_iconst (v := 0) hx hb d_E_enterNewGoal_113 (by decide) ?_
        refine lv_istore (lv' := [(4, .int (0 : Int32)), (5, .int r10.1), (3, .int r1), (2, .int E_level), (0, .ref aE), (1, .int p0)]) hx hb d_E_enterNewGoal_114 hl (by decide) rfl (fun ls hl => ?_)
        exact hB116 _ _ _ _ _ _ _ _ _ _ _ _ _ _ _ _ _ _ _ _ _ _ _ _ _ _ hG _ _ hP hD hS _ (lv_sub hl [4, 3, 0] rfl) hf
      · have hf := ite_f c13 hf
        refine lv_iconst (v := 1) hx hb d_E_enterNewGoal_109 (by decide) ?_
        refine lv_goto (tgt := 114) hx hb d_E_enterNewGoal_110 (by decide) ?_
        refine lv_istore (lv' := [(4, .int (1 : Int32)), (5, .int r10.1), (3, .int r1), (2, .int E_level), (0, .ref aE), (1, .int p0)]) hx hb d_E_enterNewGoal_114 hl (by decide) rfl (fun ls hl => ?_)
        exact hB116 _ _ _ _ _ _ _ _ _ _ _ _ _ _ _ _ _ _ _ _ _ _ _ _ _ _ hG _ _ hP hD hS _ (lv_sub hl [4, 3, 0] rfl) hf
