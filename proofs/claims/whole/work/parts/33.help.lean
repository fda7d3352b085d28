abbrev b_L_name : ByteArray := method_3_code
abbrev y_L_name : MethodName := ⟨"ShapeSearchLaw", "name", "(LShapeSearch;IIII[J)I"⟩
abbrev ws_L_name : List Cond := .codeWith y_L_name b_L_name 7 (some .int) [(0, 14, 17, 13), (0, 14, 21, 15), (0, 14, 25, 17)] :: BG
theorem hd_L_name : y_L_name.cls ≠ "java/lang/invoke/MethodHandle" ∧ y_L_name.cls ≠ "java/lang/invoke/VarHandle" ∧ (parseMethodDescriptor y_L_name.desc).map (fun d => d.parameters.length) = some 6 := by decide +kernel
theorem d_L_name_0 : decode b_L_name 0 = .ok (.aload 5, 2) := by decide +kernel
theorem d_L_name_2 : decode b_L_name 2 = .ok (.iconst 0, 1) := by decide +kernel
theorem d_L_name_3 : decode b_L_name 3 = .ok (.aload_n 0, 1) := by decide +kernel
theorem d_L_name_4 : decode b_L_name 4 = .ok (.iload_n 1, 1) := by decide +kernel
theorem d_L_name_5 : decode b_L_name 5 = .ok (.iload_n 2, 1) := by decide +kernel
theorem d_L_name_6 : decode b_L_name 6 = .ok (.iload_n 3, 1) := by decide +kernel
theorem d_L_name_7 : decode b_L_name 7 = .ok (.iload 4, 2) := by decide +kernel
theorem d_L_name_9 : decode b_L_name 9 = .ok (.invokevirtual 7, 3) := by decide +kernel
theorem d_L_name_12 : decode b_L_name 12 = .ok (.i2l, 1) := by decide +kernel
theorem d_L_name_13 : decode b_L_name 13 = .ok (.lastore, 1) := by decide +kernel
theorem d_L_name_14 : decode b_L_name 14 = .ok (.goto 15, 3) := by decide +kernel
theorem d_L_name_17 : decode b_L_name 17 = .ok (.astore 6, 2) := by decide +kernel
theorem d_L_name_19 : decode b_L_name 19 = .ok (.iconst 1, 1) := by decide +kernel
theorem d_L_name_20 : decode b_L_name 20 = .ok (.ireturn, 1) := by decide +kernel
theorem d_L_name_21 : decode b_L_name 21 = .ok (.astore 6, 2) := by decide +kernel
theorem d_L_name_23 : decode b_L_name 23 = .ok (.iconst 2, 1) := by decide +kernel
theorem d_L_name_24 : decode b_L_name 24 = .ok (.ireturn, 1) := by decide +kernel
theorem d_L_name_25 : decode b_L_name 25 = .ok (.astore 6, 2) := by decide +kernel
theorem d_L_name_27 : decode b_L_name 27 = .ok (.iconst 3, 1) := by decide +kernel
theorem d_L_name_28 : decode b_L_name 28 = .ok (.ireturn, 1) := by decide +kernel
theorem d_L_name_29 : decode b_L_name 29 = .ok (.iconst 0, 1) := by decide +kernel
theorem d_L_name_30 : decode b_L_name 30 = .ok (.ireturn, 1) := by decide +kernel
abbrev b_L_leaf : ByteArray := method_4_code
abbrev y_L_leaf : MethodName := ⟨"ShapeSearchLaw", "leaf", "(LShapeSearch;IZ[J)I"⟩
abbrev ws_L_leaf : List Cond := .codeWith y_L_leaf b_L_leaf 5 (some .int) [(0, 10, 13, 13), (0, 10, 17, 17)] :: BG
theorem hd_L_leaf : y_L_leaf.cls ≠ "java/lang/invoke/MethodHandle" ∧ y_L_leaf.cls ≠ "java/lang/invoke/VarHandle" ∧ (parseMethodDescriptor y_L_leaf.desc).map (fun d => d.parameters.length) = some 4 := by decide +kernel
theorem d_L_leaf_0 : decode b_L_leaf 0 = .ok (.aload_n 3, 1) := by decide +kernel
theorem d_L_leaf_1 : decode b_L_leaf 1 = .ok (.iconst 0, 1) := by decide +kernel
theorem d_L_leaf_2 : decode b_L_leaf 2 = .ok (.aload_n 0, 1) := by decide +kernel
theorem d_L_leaf_3 : decode b_L_leaf 3 = .ok (.iload_n 1, 1) := by decide +kernel
theorem d_L_leaf_4 : decode b_L_leaf 4 = .ok (.iload_n 2, 1) := by decide +kernel
theorem d_L_leaf_5 : decode b_L_leaf 5 = .ok (.invokevirtual 19, 3) := by decide +kernel
theorem d_L_leaf_8 : decode b_L_leaf 8 = .ok (.i2l, 1) := by decide +kernel
theorem d_L_leaf_9 : decode b_L_leaf 9 = .ok (.lastore, 1) := by decide +kernel
theorem d_L_leaf_10 : decode b_L_leaf 10 = .ok (.goto 11, 3) := by decide +kernel
theorem d_L_leaf_13 : decode b_L_leaf 13 = .ok (.astore 4, 2) := by decide +kernel
theorem d_L_leaf_15 : decode b_L_leaf 15 = .ok (.iconst 1, 1) := by decide +kernel
theorem d_L_leaf_16 : decode b_L_leaf 16 = .ok (.ireturn, 1) := by decide +kernel
theorem d_L_leaf_17 : decode b_L_leaf 17 = .ok (.astore 4, 2) := by decide +kernel
theorem d_L_leaf_19 : decode b_L_leaf 19 = .ok (.iconst 2, 1) := by decide +kernel
theorem d_L_leaf_20 : decode b_L_leaf 20 = .ok (.ireturn, 1) := by decide +kernel
theorem d_L_leaf_21 : decode b_L_leaf 21 = .ok (.iconst 0, 1) := by decide +kernel
theorem d_L_leaf_22 : decode b_L_leaf 22 = .ok (.ireturn, 1) := by decide +kernel
abbrev b_L_state : ByteArray := method_5_code
abbrev y_L_state : MethodName := ⟨"ShapeSearchLaw", "state", "(LShapeSearch;IIIII[J)I"⟩
abbrev ws_L_state : List Cond := .codeWith y_L_state b_L_state 8 (some .int) [(0, 16, 19, 13), (0, 16, 23, 15), (0, 16, 27, 17)] :: BG
theorem hd_L_state : y_L_state.cls ≠ "java/lang/invoke/MethodHandle" ∧ y_L_state.cls ≠ "java/lang/invoke/VarHandle" ∧ (parseMethodDescriptor y_L_state.desc).map (fun d => d.parameters.length) = some 7 := by decide +kernel
theorem d_L_state_0 : decode b_L_state 0 = .ok (.aload 6, 2) := by decide +kernel
theorem d_L_state_2 : decode b_L_state 2 = .ok (.iconst 0, 1) := by decide +kernel
theorem d_L_state_3 : decode b_L_state 3 = .ok (.aload_n 0, 1) := by decide +kernel
theorem d_L_state_4 : decode b_L_state 4 = .ok (.iload_n 1, 1) := by decide +kernel
theorem d_L_state_5 : decode b_L_state 5 = .ok (.iload_n 2, 1) := by decide +kernel
theorem d_L_state_6 : decode b_L_state 6 = .ok (.iload_n 3, 1) := by decide +kernel
theorem d_L_state_7 : decode b_L_state 7 = .ok (.iload 4, 2) := by decide +kernel
theorem d_L_state_9 : decode b_L_state 9 = .ok (.iload 5, 2) := by decide +kernel
theorem d_L_state_11 : decode b_L_state 11 = .ok (.invokevirtual 23, 3) := by decide +kernel
theorem d_L_state_14 : decode b_L_state 14 = .ok (.i2l, 1) := by decide +kernel
theorem d_L_state_15 : decode b_L_state 15 = .ok (.lastore, 1) := by decide +kernel
theorem d_L_state_16 : decode b_L_state 16 = .ok (.goto 15, 3) := by decide +kernel
theorem d_L_state_19 : decode b_L_state 19 = .ok (.astore 7, 2) := by decide +kernel
theorem d_L_state_21 : decode b_L_state 21 = .ok (.iconst 1, 1) := by decide +kernel
theorem d_L_state_22 : decode b_L_state 22 = .ok (.ireturn, 1) := by decide +kernel
theorem d_L_state_23 : decode b_L_state 23 = .ok (.astore 7, 2) := by decide +kernel
theorem d_L_state_25 : decode b_L_state 25 = .ok (.iconst 2, 1) := by decide +kernel
theorem d_L_state_26 : decode b_L_state 26 = .ok (.ireturn, 1) := by decide +kernel
theorem d_L_state_27 : decode b_L_state 27 = .ok (.astore 7, 2) := by decide +kernel
theorem d_L_state_29 : decode b_L_state 29 = .ok (.iconst 3, 1) := by decide +kernel
theorem d_L_state_30 : decode b_L_state 30 = .ok (.ireturn, 1) := by decide +kernel
theorem d_L_state_31 : decode b_L_state 31 = .ok (.iconst 0, 1) := by decide +kernel
theorem d_L_state_32 : decode b_L_state 32 = .ok (.ireturn, 1) := by decide +kernel
abbrev b_L_find : ByteArray := method_6_code
abbrev y_L_find : MethodName := ⟨"ShapeSearchLaw", "find", "(LShapeSearch;I[J)I"⟩
abbrev ws_L_find : List Cond := .codeWith y_L_find b_L_find 4 (some .int) [(0, 9, 12, 13)] :: BG
theorem hd_L_find : y_L_find.cls ≠ "java/lang/invoke/MethodHandle" ∧ y_L_find.cls ≠ "java/lang/invoke/VarHandle" ∧ (parseMethodDescriptor y_L_find.desc).map (fun d => d.parameters.length) = some 3 := by decide +kernel
theorem d_L_find_0 : decode b_L_find 0 = .ok (.aload_n 2, 1) := by decide +kernel
theorem d_L_find_1 : decode b_L_find 1 = .ok (.iconst 0, 1) := by decide +kernel
theorem d_L_find_2 : decode b_L_find 2 = .ok (.aload_n 0, 1) := by decide +kernel
theorem d_L_find_3 : decode b_L_find 3 = .ok (.iload_n 1, 1) := by decide +kernel
theorem d_L_find_4 : decode b_L_find 4 = .ok (.invokevirtual 27, 3) := by decide +kernel
theorem d_L_find_7 : decode b_L_find 7 = .ok (.i2l, 1) := by decide +kernel
theorem d_L_find_8 : decode b_L_find 8 = .ok (.lastore, 1) := by decide +kernel
theorem d_L_find_9 : decode b_L_find 9 = .ok (.goto 6, 3) := by decide +kernel
theorem d_L_find_12 : decode b_L_find 12 = .ok (.astore_n 3, 1) := by decide +kernel
theorem d_L_find_13 : decode b_L_find 13 = .ok (.iconst 1, 1) := by decide +kernel
theorem d_L_find_14 : decode b_L_find 14 = .ok (.ireturn, 1) := by decide +kernel
theorem d_L_find_15 : decode b_L_find 15 = .ok (.iconst 0, 1) := by decide +kernel
theorem d_L_find_16 : decode b_L_find 16 = .ok (.ireturn, 1) := by decide +kernel
abbrev b_L_fit : ByteArray := method_7_code
abbrev y_L_fit : MethodName := ⟨"ShapeSearchLaw", "fit", "(LShapeSearch;I[J)I"⟩
abbrev ws_L_fit : List Cond := .codeWith y_L_fit b_L_fit 4 (some .int) [(0, 9, 12, 13), (0, 9, 15, 15)] :: BG
theorem hd_L_fit : y_L_fit.cls ≠ "java/lang/invoke/MethodHandle" ∧ y_L_fit.cls ≠ "java/lang/invoke/VarHandle" ∧ (parseMethodDescriptor y_L_fit.desc).map (fun d => d.parameters.length) = some 3 := by decide +kernel
theorem d_L_fit_0 : decode b_L_fit 0 = .ok (.aload_n 2, 1) := by decide +kernel
theorem d_L_fit_1 : decode b_L_fit 1 = .ok (.iconst 0, 1) := by decide +kernel
theorem d_L_fit_2 : decode b_L_fit 2 = .ok (.aload_n 0, 1) := by decide +kernel
theorem d_L_fit_3 : decode b_L_fit 3 = .ok (.iload_n 1, 1) := by decide +kernel
theorem d_L_fit_4 : decode b_L_fit 4 = .ok (.invokevirtual 31, 3) := by decide +kernel
theorem d_L_fit_7 : decode b_L_fit 7 = .ok (.i2l, 1) := by decide +kernel
theorem d_L_fit_8 : decode b_L_fit 8 = .ok (.lastore, 1) := by decide +kernel
theorem d_L_fit_9 : decode b_L_fit 9 = .ok (.goto 9, 3) := by decide +kernel
theorem d_L_fit_12 : decode b_L_fit 12 = .ok (.astore_n 3, 1) := by decide +kernel
theorem d_L_fit_13 : decode b_L_fit 13 = .ok (.iconst 1, 1) := by decide +kernel
theorem d_L_fit_14 : decode b_L_fit 14 = .ok (.ireturn, 1) := by decide +kernel
theorem d_L_fit_15 : decode b_L_fit 15 = .ok (.astore_n 3, 1) := by decide +kernel
theorem d_L_fit_16 : decode b_L_fit 16 = .ok (.iconst 2, 1) := by decide +kernel
theorem d_L_fit_17 : decode b_L_fit 17 = .ok (.ireturn, 1) := by decide +kernel
theorem d_L_fit_18 : decode b_L_fit 18 = .ok (.iconst 0, 1) := by decide +kernel
theorem d_L_fit_19 : decode b_L_fit 19 = .ok (.ireturn, 1) := by decide +kernel
abbrev b_L_rank : ByteArray := method_8_code
abbrev y_L_rank : MethodName := ⟨"ShapeSearchLaw", "rank", "(LShapeSearch;I[J)I"⟩
abbrev ws_L_rank : List Cond := .codeWith y_L_rank b_L_rank 4 (some .int) [(0, 9, 12, 13), (0, 9, 15, 15)] :: BG
theorem hd_L_rank : y_L_rank.cls ≠ "java/lang/invoke/MethodHandle" ∧ y_L_rank.cls ≠ "java/lang/invoke/VarHandle" ∧ (parseMethodDescriptor y_L_rank.desc).map (fun d => d.parameters.length) = some 3 := by decide +kernel
theorem d_L_rank_0 : decode b_L_rank 0 = .ok (.aload_n 2, 1) := by decide +kernel
theorem d_L_rank_1 : decode b_L_rank 1 = .ok (.iconst 0, 1) := by decide +kernel
theorem d_L_rank_2 : decode b_L_rank 2 = .ok (.aload_n 0, 1) := by decide +kernel
theorem d_L_rank_3 : decode b_L_rank 3 = .ok (.iload_n 1, 1) := by decide +kernel
theorem d_L_rank_4 : decode b_L_rank 4 = .ok (.invokevirtual 34, 3) := by decide +kernel
theorem d_L_rank_7 : decode b_L_rank 7 = .ok (.i2l, 1) := by decide +kernel
theorem d_L_rank_8 : decode b_L_rank 8 = .ok (.lastore, 1) := by decide +kernel
theorem d_L_rank_9 : decode b_L_rank 9 = .ok (.goto 9, 3) := by decide +kernel
theorem d_L_rank_12 : decode b_L_rank 12 = .ok (.astore_n 3, 1) := by decide +kernel
theorem d_L_rank_13 : decode b_L_rank 13 = .ok (.iconst 1, 1) := by decide +kernel
theorem d_L_rank_14 : decode b_L_rank 14 = .ok (.ireturn, 1) := by decide +kernel
theorem d_L_rank_15 : decode b_L_rank 15 = .ok (.astore_n 3, 1) := by decide +kernel
theorem d_L_rank_16 : decode b_L_rank 16 = .ok (.iconst 2, 1) := by decide +kernel
theorem d_L_rank_17 : decode b_L_rank 17 = .ok (.ireturn, 1) := by decide +kernel
theorem d_L_rank_18 : decode b_L_rank 18 = .ok (.iconst 0, 1) := by decide +kernel
theorem d_L_rank_19 : decode b_L_rank 19 = .ok (.ireturn, 1) := by decide +kernel
abbrev b_L_goal : ByteArray := method_9_code
abbrev y_L_goal : MethodName := ⟨"ShapeSearchLaw", "goal", "(LShapeSearch;II[J)I"⟩
abbrev ws_L_goal : List Cond := .codeWith y_L_goal b_L_goal 5 (some .int) [(0, 10, 13, 13), (0, 10, 17, 17)] :: BG
theorem hd_L_goal : y_L_goal.cls ≠ "java/lang/invoke/MethodHandle" ∧ y_L_goal.cls ≠ "java/lang/invoke/VarHandle" ∧ (parseMethodDescriptor y_L_goal.desc).map (fun d => d.parameters.length) = some 4 := by decide +kernel
theorem d_L_goal_0 : decode b_L_goal 0 = .ok (.aload_n 3, 1) := by decide +kernel
theorem d_L_goal_1 : decode b_L_goal 1 = .ok (.iconst 0, 1) := by decide +kernel
theorem d_L_goal_2 : decode b_L_goal 2 = .ok (.aload_n 0, 1) := by decide +kernel
theorem d_L_goal_3 : decode b_L_goal 3 = .ok (.iload_n 1, 1) := by decide +kernel
theorem d_L_goal_4 : decode b_L_goal 4 = .ok (.iload_n 2, 1) := by decide +kernel
theorem d_L_goal_5 : decode b_L_goal 5 = .ok (.invokevirtual 37, 3) := by decide +kernel
theorem d_L_goal_8 : decode b_L_goal 8 = .ok (.i2l, 1) := by decide +kernel
theorem d_L_goal_9 : decode b_L_goal 9 = .ok (.lastore, 1) := by decide +kernel
theorem d_L_goal_10 : decode b_L_goal 10 = .ok (.goto 11, 3) := by decide +kernel
theorem d_L_goal_13 : decode b_L_goal 13 = .ok (.astore 4, 2) := by decide +kernel
theorem d_L_goal_15 : decode b_L_goal 15 = .ok (.iconst 1, 1) := by decide +kernel
theorem d_L_goal_16 : decode b_L_goal 16 = .ok (.ireturn, 1) := by decide +kernel
theorem d_L_goal_17 : decode b_L_goal 17 = .ok (.astore 4, 2) := by decide +kernel
theorem d_L_goal_19 : decode b_L_goal 19 = .ok (.iconst 2, 1) := by decide +kernel
theorem d_L_goal_20 : decode b_L_goal 20 = .ok (.ireturn, 1) := by decide +kernel
theorem d_L_goal_21 : decode b_L_goal 21 = .ok (.iconst 0, 1) := by decide +kernel
theorem d_L_goal_22 : decode b_L_goal 22 = .ok (.ireturn, 1) := by decide +kernel
abbrev b_L_twin : ByteArray := method_10_code
abbrev y_L_twin : MethodName := ⟨"ShapeSearchLaw", "twin", "(LShapeSearch;I[J)I"⟩
abbrev ws_L_twin : List Cond := .codeWith y_L_twin b_L_twin 4 (some .int) [(0, 9, 12, 13)] :: BG
theorem hd_L_twin : y_L_twin.cls ≠ "java/lang/invoke/MethodHandle" ∧ y_L_twin.cls ≠ "java/lang/invoke/VarHandle" ∧ (parseMethodDescriptor y_L_twin.desc).map (fun d => d.parameters.length) = some 3 := by decide +kernel
theorem d_L_twin_0 : decode b_L_twin 0 = .ok (.aload_n 2, 1) := by decide +kernel
theorem d_L_twin_1 : decode b_L_twin 1 = .ok (.iconst 0, 1) := by decide +kernel
theorem d_L_twin_2 : decode b_L_twin 2 = .ok (.aload_n 0, 1) := by decide +kernel
theorem d_L_twin_3 : decode b_L_twin 3 = .ok (.iload_n 1, 1) := by decide +kernel
theorem d_L_twin_4 : decode b_L_twin 4 = .ok (.invokevirtual 41, 3) := by decide +kernel
theorem d_L_twin_7 : decode b_L_twin 7 = .ok (.i2l, 1) := by decide +kernel
theorem d_L_twin_8 : decode b_L_twin 8 = .ok (.lastore, 1) := by decide +kernel
theorem d_L_twin_9 : decode b_L_twin 9 = .ok (.goto 6, 3) := by decide +kernel
theorem d_L_twin_12 : decode b_L_twin 12 = .ok (.astore_n 3, 1) := by decide +kernel
theorem d_L_twin_13 : decode b_L_twin 13 = .ok (.iconst 1, 1) := by decide +kernel
theorem d_L_twin_14 : decode b_L_twin 14 = .ok (.ireturn, 1) := by decide +kernel
theorem d_L_twin_15 : decode b_L_twin 15 = .ok (.iconst 0, 1) := by decide +kernel
theorem d_L_twin_16 : decode b_L_twin 16 = .ok (.ireturn, 1) := by decide +kernel
theorem k2_143 : Cond.methodLink "ShapeSearchLaw" 7 ⟨"ShapeSearch", "name", "(IIII)I"⟩ ∈ BG := List.mem_filter.mpr ⟨in_2 (List.mem_of_getElem? (i := 143) rfl), rfl⟩
theorem k2_146 : Cond.code ⟨"ShapeSearch", "name", "(IIII)I"⟩ prog_1_method_2_code 9 (some .int) ∈ BG := List.mem_filter.mpr ⟨in_2 (List.mem_of_getElem? (i := 146) rfl), rfl⟩
theorem k2_144 : Cond.instanceMethod ⟨"ShapeSearch", "name", "(IIII)I"⟩ ∈ BG := List.mem_filter.mpr ⟨in_2 (List.mem_of_getElem? (i := 144) rfl), rfl⟩
theorem k2_145 : Cond.selects "ShapeSearch" ⟨"ShapeSearch", "name", "(IIII)I"⟩ ⟨"ShapeSearch", "name", "(IIII)I"⟩ ∈ BG := List.mem_filter.mpr ⟨in_2 (List.mem_of_getElem? (i := 145) rfl), rfl⟩
theorem k2_140 : Cond.classLink "ShapeSearchLaw" 13 "java/lang/IndexOutOfBoundsException" ∈ BG := List.mem_filter.mpr ⟨in_2 (List.mem_of_getElem? (i := 140) rfl), rfl⟩
theorem k2_141 : Cond.classLink "ShapeSearchLaw" 15 "java/lang/IllegalArgumentException" ∈ BG := List.mem_filter.mpr ⟨in_2 (List.mem_of_getElem? (i := 141) rfl), rfl⟩
theorem k2_142 : Cond.classLink "ShapeSearchLaw" 17 "java/lang/IllegalStateException" ∈ BG := List.mem_filter.mpr ⟨in_2 (List.mem_of_getElem? (i := 142) rfl), rfl⟩
theorem k3_31 : Cond.methodLink "ShapeSearchLaw" 19 ⟨"ShapeSearch", "leaf", "(IZ)I"⟩ ∈ BG := List.mem_filter.mpr ⟨in_3 (List.mem_of_getElem? (i := 31) rfl), rfl⟩
theorem k3_34 : Cond.code ⟨"ShapeSearch", "leaf", "(IZ)I"⟩ prog_1_method_3_code 5 (some .int) ∈ BG := List.mem_filter.mpr ⟨in_3 (List.mem_of_getElem? (i := 34) rfl), rfl⟩
theorem k3_32 : Cond.instanceMethod ⟨"ShapeSearch", "leaf", "(IZ)I"⟩ ∈ BG := List.mem_filter.mpr ⟨in_3 (List.mem_of_getElem? (i := 32) rfl), rfl⟩
theorem k3_33 : Cond.selects "ShapeSearch" ⟨"ShapeSearch", "leaf", "(IZ)I"⟩ ⟨"ShapeSearch", "leaf", "(IZ)I"⟩ ∈ BG := List.mem_filter.mpr ⟨in_3 (List.mem_of_getElem? (i := 33) rfl), rfl⟩
theorem k3_39 : Cond.methodLink "ShapeSearchLaw" 23 ⟨"ShapeSearch", "state", "(IIIII)I"⟩ ∈ BG := List.mem_filter.mpr ⟨in_3 (List.mem_of_getElem? (i := 39) rfl), rfl⟩
theorem k3_42 : Cond.code ⟨"ShapeSearch", "state", "(IIIII)I"⟩ prog_1_method_5_code 8 (some .int) ∈ BG := List.mem_filter.mpr ⟨in_3 (List.mem_of_getElem? (i := 42) rfl), rfl⟩
theorem k3_40 : Cond.instanceMethod ⟨"ShapeSearch", "state", "(IIIII)I"⟩ ∈ BG := List.mem_filter.mpr ⟨in_3 (List.mem_of_getElem? (i := 40) rfl), rfl⟩
theorem k3_41 : Cond.selects "ShapeSearch" ⟨"ShapeSearch", "state", "(IIIII)I"⟩ ⟨"ShapeSearch", "state", "(IIIII)I"⟩ ∈ BG := List.mem_filter.mpr ⟨in_3 (List.mem_of_getElem? (i := 41) rfl), rfl⟩
theorem k3_58 : Cond.methodLink "ShapeSearchLaw" 27 ⟨"ShapeSearch", "find", "(I)I"⟩ ∈ BG := List.mem_filter.mpr ⟨in_3 (List.mem_of_getElem? (i := 58) rfl), rfl⟩
theorem k3_61 : Cond.code ⟨"ShapeSearch", "find", "(I)I"⟩ prog_1_method_7_code 3 (some .int) ∈ BG := List.mem_filter.mpr ⟨in_3 (List.mem_of_getElem? (i := 61) rfl), rfl⟩
theorem k3_59 : Cond.instanceMethod ⟨"ShapeSearch", "find", "(I)I"⟩ ∈ BG := List.mem_filter.mpr ⟨in_3 (List.mem_of_getElem? (i := 59) rfl), rfl⟩
theorem k3_60 : Cond.selects "ShapeSearch" ⟨"ShapeSearch", "find", "(I)I"⟩ ⟨"ShapeSearch", "find", "(I)I"⟩ ∈ BG := List.mem_filter.mpr ⟨in_3 (List.mem_of_getElem? (i := 60) rfl), rfl⟩
theorem k3_111 : Cond.methodLink "ShapeSearchLaw" 31 ⟨"ShapeSearch", "fit", "(I)I"⟩ ∈ BG := List.mem_filter.mpr ⟨in_3 (List.mem_of_getElem? (i := 111) rfl), rfl⟩
theorem k3_114 : Cond.code ⟨"ShapeSearch", "fit", "(I)I"⟩ prog_1_method_8_code 4 (some .int) ∈ BG := List.mem_filter.mpr ⟨in_3 (List.mem_of_getElem? (i := 114) rfl), rfl⟩
theorem k3_112 : Cond.instanceMethod ⟨"ShapeSearch", "fit", "(I)I"⟩ ∈ BG := List.mem_filter.mpr ⟨in_3 (List.mem_of_getElem? (i := 112) rfl), rfl⟩
theorem k3_113 : Cond.selects "ShapeSearch" ⟨"ShapeSearch", "fit", "(I)I"⟩ ⟨"ShapeSearch", "fit", "(I)I"⟩ ∈ BG := List.mem_filter.mpr ⟨in_3 (List.mem_of_getElem? (i := 113) rfl), rfl⟩
theorem k3_151 : Cond.methodLink "ShapeSearchLaw" 34 ⟨"ShapeSearch", "rank", "(I)I"⟩ ∈ BG := List.mem_filter.mpr ⟨in_3 (List.mem_of_getElem? (i := 151) rfl), rfl⟩
theorem k3_154 : Cond.code ⟨"ShapeSearch", "rank", "(I)I"⟩ prog_1_method_9_code 8 (some .int) ∈ BG := List.mem_filter.mpr ⟨in_3 (List.mem_of_getElem? (i := 154) rfl), rfl⟩
theorem k3_152 : Cond.instanceMethod ⟨"ShapeSearch", "rank", "(I)I"⟩ ∈ BG := List.mem_filter.mpr ⟨in_3 (List.mem_of_getElem? (i := 152) rfl), rfl⟩
theorem k3_153 : Cond.selects "ShapeSearch" ⟨"ShapeSearch", "rank", "(I)I"⟩ ⟨"ShapeSearch", "rank", "(I)I"⟩ ∈ BG := List.mem_filter.mpr ⟨in_3 (List.mem_of_getElem? (i := 153) rfl), rfl⟩
theorem k3_170 : Cond.methodLink "ShapeSearchLaw" 37 ⟨"ShapeSearch", "goal", "(II)I"⟩ ∈ BG := List.mem_filter.mpr ⟨in_3 (List.mem_of_getElem? (i := 170) rfl), rfl⟩
theorem k3_173 : Cond.code ⟨"ShapeSearch", "goal", "(II)I"⟩ prog_1_method_11_code 5 (some .int) ∈ BG := List.mem_filter.mpr ⟨in_3 (List.mem_of_getElem? (i := 173) rfl), rfl⟩
theorem k3_171 : Cond.instanceMethod ⟨"ShapeSearch", "goal", "(II)I"⟩ ∈ BG := List.mem_filter.mpr ⟨in_3 (List.mem_of_getElem? (i := 171) rfl), rfl⟩
theorem k3_172 : Cond.selects "ShapeSearch" ⟨"ShapeSearch", "goal", "(II)I"⟩ ⟨"ShapeSearch", "goal", "(II)I"⟩ ∈ BG := List.mem_filter.mpr ⟨in_3 (List.mem_of_getElem? (i := 172) rfl), rfl⟩
theorem k3_193 : Cond.methodLink "ShapeSearchLaw" 41 ⟨"ShapeSearch", "twin", "(I)I"⟩ ∈ BG := List.mem_filter.mpr ⟨in_3 (List.mem_of_getElem? (i := 193) rfl), rfl⟩
theorem k3_196 : Cond.code ⟨"ShapeSearch", "twin", "(I)I"⟩ prog_1_method_12_code 3 (some .int) ∈ BG := List.mem_filter.mpr ⟨in_3 (List.mem_of_getElem? (i := 196) rfl), rfl⟩
theorem k3_194 : Cond.instanceMethod ⟨"ShapeSearch", "twin", "(I)I"⟩ ∈ BG := List.mem_filter.mpr ⟨in_3 (List.mem_of_getElem? (i := 194) rfl), rfl⟩
theorem k3_195 : Cond.selects "ShapeSearch" ⟨"ShapeSearch", "twin", "(I)I"⟩ ⟨"ShapeSearch", "twin", "(I)I"⟩ ∈ BG := List.mem_filter.mpr ⟨in_3 (List.mem_of_getElem? (i := 195) rfl), rfl⟩
abbrev wv_96 (cI cJ cZ : ClassId) (aX aX_arities aT aT_heads aT_places aT_olders aT_sizes aT_withins aT_newest aS aM aF aE aH aO_out : Nat) (X_namesUsed : Int32) (X_arities : (Nat → Int32)) (T_count : Int32) (nT_heads : Nat) (T_heads : (Nat → Int32)) (nT_places : Nat) (T_places : (Nat → Int32)) (nT_olders : Nat) (T_olders : (Nat → Int32)) (nT_sizes : Nat) (T_sizes : (Nat → Int32)) (nT_withins : Nat) (T_withins : (Nat → Int64)) (T_newest : (Nat → Int32)) (O_out : (Nat → Int64)) : va_W := [(aX, .inr (0, [.ref aT, .ref aX_arities, .int X_namesUsed, .ref aS, .ref aM, .ref aF, .ref aE, .ref aH])), (aX_arities, .inl (cI, 30, .inl X_arities)), (aT, .inr (1, [.ref aT_heads, .ref aT_places, .ref aT_olders, .ref aT_sizes, .ref aT_withins, .ref aT_newest, .int T_count])), (aT_heads, .inl (cI, nT_heads, .inl T_heads)), (aT_places, .inl (cI, nT_places, .inl T_places)), (aT_olders, .inl (cI, nT_olders, .inl T_olders)), (aT_sizes, .inl (cI, nT_sizes, .inl T_sizes)), (aT_withins, .inl (cJ, nT_withins, .inr (.inl T_withins))), (aT_newest, .inl (cI, 256, .inl T_newest)), (aO_out, .inl (cJ, 1, .inr (.inl O_out)))]
abbrev wv_97 (cI cJ cZ : ClassId) (aX aX_arities aT aT_heads aT_places aT_olders aT_sizes aT_withins aT_newest aS aM aF aE aH aO_out : Nat) (X_namesUsed : Int32) (T_count : Int32) (nT_heads : Nat) (T_heads : (Nat → Int32)) (nT_places : Nat) (T_places : (Nat → Int32)) (nT_olders : Nat) (T_olders : (Nat → Int32)) (nT_sizes : Nat) (T_sizes : (Nat → Int32)) (nT_withins : Nat) (T_withins : (Nat → Int64)) (T_newest : (Nat → Int32)) (O_out : (Nat → Int64)) : va_W := [(aX, .inr (0, [.ref aT, .ref aX_arities, .int X_namesUsed, .ref aS, .ref aM, .ref aF, .ref aE, .ref aH])), (aT, .inr (1, [.ref aT_heads, .ref aT_places, .ref aT_olders, .ref aT_sizes, .ref aT_withins, .ref aT_newest, .int T_count])), (aT_heads, .inl (cI, nT_heads, .inl T_heads)), (aT_places, .inl (cI, nT_places, .inl T_places)), (aT_olders, .inl (cI, nT_olders, .inl T_olders)), (aT_sizes, .inl (cI, nT_sizes, .inl T_sizes)), (aT_withins, .inl (cJ, nT_withins, .inr (.inl T_withins))), (aT_newest, .inl (cI, 256, .inl T_newest)), (aO_out, .inl (cJ, 1, .inr (.inl O_out)))]
abbrev wv_98 (cI cJ cZ : ClassId) (aX aX_arities aT aT_heads aT_places aT_olders aT_sizes aT_withins aT_newest aS aS_premises aS_premiseCounts aS_conclusions aS_order aM aF aE aH aH_statementRow aH_firstRow aH_secondRow aO_out : Nat) (X_namesUsed : Int32) (T_count : Int32) (nT_withins : Nat) (T_withins : (Nat → Int64)) (S_count : Int32) (S_premises : (Nat → Int32)) (S_premiseCounts : (Nat → Int32)) (S_conclusions : (Nat → Int32)) (H_kind : Int32) (H_subject : Int32) (H_count : Int32) (O_out : (Nat → Int64)) : va_W := [(aX, .inr (0, [.ref aT, .ref aX_arities, .int X_namesUsed, .ref aS, .ref aM, .ref aF, .ref aE, .ref aH])), (aT, .inr (1, [.ref aT_heads, .ref aT_places, .ref aT_olders, .ref aT_sizes, .ref aT_withins, .ref aT_newest, .int T_count])), (aT_withins, .inl (cJ, nT_withins, .inr (.inl T_withins))), (aS, .inr (2, [.ref aS_premises, .ref aS_premiseCounts, .ref aS_conclusions, .ref aS_order, .int S_count])), (aS_premises, .inl (cI, 120, .inl S_premises)), (aS_premiseCounts, .inl (cI, 30, .inl S_premiseCounts)), (aS_conclusions, .inl (cI, 30, .inl S_conclusions)), (aH, .inr (6, [.ref aH_statementRow, .ref aH_firstRow, .ref aH_secondRow, .int H_kind, .int H_subject, .int H_count])), (aO_out, .inl (cJ, 1, .inr (.inl O_out)))]
abbrev wv_99 (cI cJ cZ : ClassId) (aX aX_arities aT aT_heads aT_places aT_olders aT_sizes aT_withins aT_newest aS aS_premises aS_premiseCounts aS_conclusions aS_order aM aM_images aM_path aF aF_seen aF_waiting aE aH aH_statementRow aH_firstRow aH_secondRow aO_out : Nat) (X_namesUsed : Int32) (T_count : Int32) (nT_heads : Nat) (T_heads : (Nat → Int32)) (nT_places : Nat) (T_places : (Nat → Int32)) (nT_withins : Nat) (T_withins : (Nat → Int64)) (S_count : Int32) (S_premises : (Nat → Int32)) (S_premiseCounts : (Nat → Int32)) (S_conclusions : (Nat → Int32)) (M_images : (Nat → Int32)) (F_shape : Int32) (F_match : Int32) (F_premise : Int32) (F_seen : (Nat → Int32)) (F_waiting : (Nat → Int32)) (H_kind : Int32) (H_subject : Int32) (H_count : Int32) (H_statementRow : (Nat → Int32)) (H_firstRow : (Nat → Int32)) (H_secondRow : (Nat → Int32)) (O_out : (Nat → Int64)) : va_W := [(aX, .inr (0, [.ref aT, .ref aX_arities, .int X_namesUsed, .ref aS, .ref aM, .ref aF, .ref aE, .ref aH])), (aT, .inr (1, [.ref aT_heads, .ref aT_places, .ref aT_olders, .ref aT_sizes, .ref aT_withins, .ref aT_newest, .int T_count])), (aT_heads, .inl (cI, nT_heads, .inl T_heads)), (aT_places, .inl (cI, nT_places, .inl T_places)), (aT_withins, .inl (cJ, nT_withins, .inr (.inl T_withins))), (aS, .inr (2, [.ref aS_premises, .ref aS_premiseCounts, .ref aS_conclusions, .ref aS_order, .int S_count])), (aS_premises, .inl (cI, 120, .inl S_premises)), (aS_premiseCounts, .inl (cI, 30, .inl S_premiseCounts)), (aS_conclusions, .inl (cI, 30, .inl S_conclusions)), (aM, .inr (3, [.ref aT, .ref aM_images, .ref aM_path])), (aM_images, .inl (cI, 100, .inl M_images)), (aF, .inr (4, [.ref aT, .ref aM, .ref aF_seen, .ref aF_waiting, .int F_shape, .int F_match, .int F_premise])), (aF_seen, .inl (cZ, 100, .inl F_seen)), (aF_waiting, .inl (cI, 301, .inl F_waiting)), (aH, .inr (6, [.ref aH_statementRow, .ref aH_firstRow, .ref aH_secondRow, .int H_kind, .int H_subject, .int H_count])), (aH_statementRow, .inl (cI, 30, .inl H_statementRow)), (aH_firstRow, .inl (cI, 30, .inl H_firstRow)), (aH_secondRow, .inl (cI, 30, .inl H_secondRow)), (aO_out, .inl (cJ, 1, .inr (.inl O_out)))]
abbrev wv_100 (cI cJ cZ : ClassId) (aX aX_arities aT aT_heads aT_places aT_olders aT_sizes aT_withins aT_newest aS aS_premises aS_premiseCounts aS_conclusions aS_order aM aM_images aM_path aF aE aH aH_statementRow aH_firstRow aH_secondRow aO_out : Nat) (X_namesUsed : Int32) (T_count : Int32) (nT_heads : Nat) (T_heads : (Nat → Int32)) (nT_places : Nat) (T_places : (Nat → Int32)) (nT_withins : Nat) (T_withins : (Nat → Int64)) (S_count : Int32) (S_premises : (Nat → Int32)) (S_premiseCounts : (Nat → Int32)) (S_conclusions : (Nat → Int32)) (S_order : (Nat → Int32)) (M_images : (Nat → Int32)) (H_kind : Int32) (H_subject : Int32) (H_count : Int32) (H_statementRow : (Nat → Int32)) (H_firstRow : (Nat → Int32)) (H_secondRow : (Nat → Int32)) (O_out : (Nat → Int64)) : va_W := [(aX, .inr (0, [.ref aT, .ref aX_arities, .int X_namesUsed, .ref aS, .ref aM, .ref aF, .ref aE, .ref aH])), (aT, .inr (1, [.ref aT_heads, .ref aT_places, .ref aT_olders, .ref aT_sizes, .ref aT_withins, .ref aT_newest, .int T_count])), (aT_heads, .inl (cI, nT_heads, .inl T_heads)), (aT_places, .inl (cI, nT_places, .inl T_places)), (aT_withins, .inl (cJ, nT_withins, .inr (.inl T_withins))), (aS, .inr (2, [.ref aS_premises, .ref aS_premiseCounts, .ref aS_conclusions, .ref aS_order, .int S_count])), (aS_premises, .inl (cI, 120, .inl S_premises)), (aS_premiseCounts, .inl (cI, 30, .inl S_premiseCounts)), (aS_conclusions, .inl (cI, 30, .inl S_conclusions)), (aS_order, .inl (cI, 30, .inl S_order)), (aM, .inr (3, [.ref aT, .ref aM_images, .ref aM_path])), (aM_images, .inl (cI, 100, .inl M_images)), (aH, .inr (6, [.ref aH_statementRow, .ref aH_firstRow, .ref aH_secondRow, .int H_kind, .int H_subject, .int H_count])), (aH_statementRow, .inl (cI, 30, .inl H_statementRow)), (aH_firstRow, .inl (cI, 30, .inl H_firstRow)), (aH_secondRow, .inl (cI, 30, .inl H_secondRow)), (aO_out, .inl (cJ, 1, .inr (.inl O_out)))]
abbrev wv_101 (cI cJ cZ : ClassId) (aX aX_arities aT aT_heads aT_places aT_olders aT_sizes aT_withins aT_newest aS aS_premises aS_premiseCounts aS_conclusions aS_order aM aF aE aH aH_statementRow aH_firstRow aH_secondRow aO_out : Nat) (X_namesUsed : Int32) (T_count : Int32) (nT_withins : Nat) (T_withins : (Nat → Int64)) (S_count : Int32) (S_premises : (Nat → Int32)) (S_premiseCounts : (Nat → Int32)) (S_conclusions : (Nat → Int32)) (H_kind : Int32) (H_subject : Int32) (H_count : Int32) (H_statementRow : (Nat → Int32)) (H_firstRow : (Nat → Int32)) (H_secondRow : (Nat → Int32)) (O_out : (Nat → Int64)) : va_W := [(aX, .inr (0, [.ref aT, .ref aX_arities, .int X_namesUsed, .ref aS, .ref aM, .ref aF, .ref aE, .ref aH])), (aT, .inr (1, [.ref aT_heads, .ref aT_places, .ref aT_olders, .ref aT_sizes, .ref aT_withins, .ref aT_newest, .int T_count])), (aT_withins, .inl (cJ, nT_withins, .inr (.inl T_withins))), (aS, .inr (2, [.ref aS_premises, .ref aS_premiseCounts, .ref aS_conclusions, .ref aS_order, .int S_count])), (aS_premises, .inl (cI, 120, .inl S_premises)), (aS_premiseCounts, .inl (cI, 30, .inl S_premiseCounts)), (aS_conclusions, .inl (cI, 30, .inl S_conclusions)), (aH, .inr (6, [.ref aH_statementRow, .ref aH_firstRow, .ref aH_secondRow, .int H_kind, .int H_subject, .int H_count])), (aH_statementRow, .inl (cI, 30, .inl H_statementRow)), (aH_firstRow, .inl (cI, 30, .inl H_firstRow)), (aH_secondRow, .inl (cI, 30, .inl H_secondRow)), (aO_out, .inl (cJ, 1, .inr (.inl O_out)))]
abbrev wv_102 (cI cJ cZ : ClassId) (aX aX_arities aT aT_heads aT_places aT_olders aT_sizes aT_withins aT_newest aS aS_premises aS_premiseCounts aS_conclusions aS_order aM aM_images aM_path aF aE aH aH_statementRow aH_firstRow aH_secondRow aO_out : Nat) (X_namesUsed : Int32) (T_count : Int32) (nT_heads : Nat) (T_heads : (Nat → Int32)) (nT_places : Nat) (T_places : (Nat → Int32)) (nT_olders : Nat) (T_olders : (Nat → Int32)) (nT_sizes : Nat) (T_sizes : (Nat → Int32)) (nT_withins : Nat) (T_withins : (Nat → Int64)) (T_newest : (Nat → Int32)) (S_count : Int32) (S_premises : (Nat → Int32)) (S_premiseCounts : (Nat → Int32)) (S_conclusions : (Nat → Int32)) (M_images : (Nat → Int32)) (M_path : (Nat → Int32)) (H_kind : Int32) (H_subject : Int32) (H_count : Int32) (H_statementRow : (Nat → Int32)) (H_secondRow : (Nat → Int32)) (O_out : (Nat → Int64)) : va_W := [(aX, .inr (0, [.ref aT, .ref aX_arities, .int X_namesUsed, .ref aS, .ref aM, .ref aF, .ref aE, .ref aH])), (aT, .inr (1, [.ref aT_heads, .ref aT_places, .ref aT_olders, .ref aT_sizes, .ref aT_withins, .ref aT_newest, .int T_count])), (aT_heads, .inl (cI, nT_heads, .inl T_heads)), (aT_places, .inl (cI, nT_places, .inl T_places)), (aT_olders, .inl (cI, nT_olders, .inl T_olders)), (aT_sizes, .inl (cI, nT_sizes, .inl T_sizes)), (aT_withins, .inl (cJ, nT_withins, .inr (.inl T_withins))), (aT_newest, .inl (cI, 256, .inl T_newest)), (aS, .inr (2, [.ref aS_premises, .ref aS_premiseCounts, .ref aS_conclusions, .ref aS_order, .int S_count])), (aS_premises, .inl (cI, 120, .inl S_premises)), (aS_premiseCounts, .inl (cI, 30, .inl S_premiseCounts)), (aS_conclusions, .inl (cI, 30, .inl S_conclusions)), (aM, .inr (3, [.ref aT, .ref aM_images, .ref aM_path])), (aM_images, .inl (cI, 100, .inl M_images)), (aM_path, .inl (cI, 100, .inl M_path)), (aH, .inr (6, [.ref aH_statementRow, .ref aH_firstRow, .ref aH_secondRow, .int H_kind, .int H_subject, .int H_count])), (aH_statementRow, .inl (cI, 30, .inl H_statementRow)), (aH_secondRow, .inl (cI, 30, .inl H_secondRow)), (aO_out, .inl (cJ, 1, .inr (.inl O_out)))]
abbrev wv_103 (cI cJ cZ : ClassId) (aX aX_arities aT aT_heads aT_places aT_olders aT_sizes aT_withins aT_newest aS aS_premises aS_premiseCounts aS_conclusions aS_order aM aM_images aM_path aF aE aH aO_out : Nat) (X_namesUsed : Int32) (T_count : Int32) (nT_heads : Nat) (T_heads : (Nat → Int32)) (nT_places : Nat) (T_places : (Nat → Int32)) (nT_withins : Nat) (T_withins : (Nat → Int64)) (S_count : Int32) (S_premises : (Nat → Int32)) (S_premiseCounts : (Nat → Int32)) (S_conclusions : (Nat → Int32)) (M_images : (Nat → Int32)) (O_out : (Nat → Int64)) : va_W := [(aX, .inr (0, [.ref aT, .ref aX_arities, .int X_namesUsed, .ref aS, .ref aM, .ref aF, .ref aE, .ref aH])), (aT, .inr (1, [.ref aT_heads, .ref aT_places, .ref aT_olders, .ref aT_sizes, .ref aT_withins, .ref aT_newest, .int T_count])), (aT_heads, .inl (cI, nT_heads, .inl T_heads)), (aT_places, .inl (cI, nT_places, .inl T_places)), (aT_withins, .inl (cJ, nT_withins, .inr (.inl T_withins))), (aS, .inr (2, [.ref aS_premises, .ref aS_premiseCounts, .ref aS_conclusions, .ref aS_order, .int S_count])), (aS_premises, .inl (cI, 120, .inl S_premises)), (aS_premiseCounts, .inl (cI, 30, .inl S_premiseCounts)), (aS_conclusions, .inl (cI, 30, .inl S_conclusions)), (aM, .inr (3, [.ref aT, .ref aM_images, .ref aM_path])), (aM_images, .inl (cI, 100, .inl M_images)), (aO_out, .inl (cJ, 1, .inr (.inl O_out)))]
def f_L_name (X_namesUsed : Int32) (X_arities : (Nat → Int32)) (T_count : Int32) (nT_heads : Nat) (T_heads : (Nat → Int32)) (nT_places : Nat) (T_places : (Nat → Int32)) (nT_olders : Nat) (T_olders : (Nat → Int32)) (nT_sizes : Nat) (T_sizes : (Nat → Int32)) (nT_withins : Nat) (T_withins : (Nat → Int64)) (T_newest : (Nat → Int32)) (O_out : (Nat → Int64)) (p0 : Int32) (p1 : Int32) (p2 : Int32) (p3 : Int32) : Option (Int32 × Int32 × (Nat → Int32) × Int32 × (Nat → Int32) × (Nat → Int32) × (Nat → Int32) × (Nat → Int32) × (Nat → Int64) × (Nat → Int32) × (Nat → Int64)) :=
  (f_X_name X_namesUsed X_arities T_count nT_heads T_heads nT_places T_places nT_olders T_olders nT_sizes T_sizes nT_withins T_withins T_newest p0 p1 p2 p3).bind fun r1 =>
  if r1.1 = 0 then
    gd (ixb (0 : Int32) 1) <| nm (vp_updL O_out (0 : Int32).toNatClampNeg r1.2.1.toInt64) fun g4 =>
    some ((0 : Int32), r1.2.2.1, r1.2.2.2.1, r1.2.2.2.2.1, r1.2.2.2.2.2.1, r1.2.2.2.2.2.2.1, r1.2.2.2.2.2.2.2.1, r1.2.2.2.2.2.2.2.2.1, r1.2.2.2.2.2.2.2.2.2.1, r1.2.2.2.2.2.2.2.2.2.2, g4)
  else
    if r1.1 = 1 then some ((1 : Int32), r1.2.2.1, r1.2.2.2.1, r1.2.2.2.2.1, r1.2.2.2.2.2.1, r1.2.2.2.2.2.2.1, r1.2.2.2.2.2.2.2.1, r1.2.2.2.2.2.2.2.2.1, r1.2.2.2.2.2.2.2.2.2.1, r1.2.2.2.2.2.2.2.2.2.2, O_out)
    else
    if r1.1 = 2 then some ((2 : Int32), r1.2.2.1, r1.2.2.2.1, r1.2.2.2.2.1, r1.2.2.2.2.2.1, r1.2.2.2.2.2.2.1, r1.2.2.2.2.2.2.2.1, r1.2.2.2.2.2.2.2.2.1, r1.2.2.2.2.2.2.2.2.2.1, r1.2.2.2.2.2.2.2.2.2.2, O_out)
    else
    if r1.1 = 3 then some ((3 : Int32), r1.2.2.1, r1.2.2.2.1, r1.2.2.2.2.1, r1.2.2.2.2.2.1, r1.2.2.2.2.2.2.1, r1.2.2.2.2.2.2.2.1, r1.2.2.2.2.2.2.2.2.1, r1.2.2.2.2.2.2.2.2.2.1, r1.2.2.2.2.2.2.2.2.2.2, O_out)
    else
    none
abbrev rm_L_name : Room := { frames := 7, cells := 1, slots := 6, locals := 118 }
set_option maxHeartbeats 4000000 in
set_option maxRecDepth 100000 in
theorem c_L_name (l : Launch) (D : va_G) (cI cJ cZ : ClassId) (aX aX_arities aT aT_heads aT_places aT_olders aT_sizes aT_withins aT_newest aS aM aF aE aH aO_out : Nat) (sz : Nat) (X_namesUsed : Int32) (X_arities : (Nat → Int32)) (T_count : Int32) (nT_heads : Nat) (T_heads : (Nat → Int32)) (nT_places : Nat) (T_places : (Nat → Int32)) (nT_olders : Nat) (T_olders : (Nat → Int32)) (nT_sizes : Nat) (T_sizes : (Nat → Int32)) (nT_withins : Nat) (T_withins : (Nat → Int64)) (T_newest : (Nat → Int32)) (O_out : (Nat → Int64)) (p0 : Int32) (p1 : Int32) (p2 : Int32) (p3 : Int32) (aK : Nat) (cK : Cell) (hst : l.stackTraces = false) (o : Int32 × Int32 × (Nat → Int32) × Int32 × (Nat → Int32) × (Nat → Int32) × (Nat → Int32) × (Nat → Int32) × (Nat → Int64) × (Nat → Int32) × (Nat → Int64)) (hf : f_L_name X_namesUsed X_arities T_count nT_heads T_heads nT_places T_places nT_olders T_olders nT_sizes T_sizes nT_withins T_withins T_newest O_out p0 p1 p2 p3 = some o) : Met l y_L_name (ws_L_name) rm_L_name (LPc D vwCl cI cJ cZ aK cK [.ref aX, .int p0, .int p1, .int p2, .int p3, .ref aO_out] (wv_96 cI cJ cZ aX aX_arities aT aT_heads aT_places aT_olders aT_sizes aT_withins aT_newest aS aM aF aE aH aO_out X_namesUsed X_arities T_count nT_heads T_heads nT_places T_places nT_olders T_olders nT_sizes T_sizes nT_withins T_withins T_newest O_out) sz) (WQx D vwCl (some (.int o.1)) (fun as => (wv_96 cI cJ cZ aX aX_arities aT aT_heads aT_places aT_olders aT_sizes aT_withins aT_newest aS aM aF aE aH aO_out o.2.1 o.2.2.1 o.2.2.2.1 nT_heads o.2.2.2.2.1 nT_places o.2.2.2.2.2.1 nT_olders o.2.2.2.2.2.2.1 nT_sizes o.2.2.2.2.2.2.2.1 nT_withins o.2.2.2.2.2.2.2.2.1 o.2.2.2.2.2.2.2.2.2.1 o.2.2.2.2.2.2.2.2.2.2)) (va_A (wv_96 cI cJ cZ aX aX_arities aT aT_heads aT_places aT_olders aT_sizes aT_withins aT_newest aS aM aF aE aH aO_out X_namesUsed X_arities T_count nT_heads T_heads nT_places T_places nT_olders T_olders nT_sizes T_sizes nT_withins T_withins T_newest O_out) sz)) 1 6 (va_A (wv_96 cI cJ cZ aX aX_arities aT aT_heads aT_places aT_olders aT_sizes aT_withins aT_newest aS aM aF aE aH aO_out X_namesUsed X_arities T_count nT_heads T_heads nT_places T_places nT_olders T_olders nT_sizes T_sizes nT_withins T_withins T_newest O_out) sz) := by
  refine va_MetW (cc := b_L_name) (maxL := 7) (ret := (some .int)) (hh := [(0, 14, 17, 13), (0, 14, 21, 15), (0, 14, 25, 17)]) (by decide) rfl ?_
  intro p e s m args below meth c s₁ B hml hv
  obtain ⟨⟨rfl, rfl, hP, hK, hD0, ⟨hcS0, hE, hSR⟩, hnA⟩, hNC⟩ := hv
  have hx := B.exec
  have hb := B.bytes
  have hr := B.returns
  have hts0 := atoms_spec (ws := (ws_L_name)) B.pre
  have htab := tab_of B (hts0 _ List.mem_cons_self)
  have hts : ∀ w ∈ BG, w.before _ s = true := fun w h => hts0 w (List.mem_cons_of_mem _ h)
  have hown : s.vm.findClass "ShapeSearchLaw" = some m.cls := findClass_of_methodNamed B.named
  have hlocks := B.notSynchronized
  obtain ⟨tx0, L0, te0, tf0, htab⟩ := tab_cons htab
  obtain ⟨tx1, L1, te1, tf1, htab⟩ := tab_cons htab
  obtain ⟨tx2, L2, te2, tf2, htab⟩ := tab_cons htab
  have te9 := tab_nil htab
  have ht9 : c.exceptionTable.toList = [tx0, tx1, tx2] := by rw [te0, te1, te2, te9]
  have hD := hD0.self (sz := s.heap.size)
  have hA : ∀ q : Nat, s.heap.size ≤ q → va_A (wv_96 cI cJ cZ aX aX_arities aT aT_heads aT_places aT_olders aT_sizes aT_withins aT_newest aS aM aF aE aH aO_out X_namesUsed X_arities T_count nT_heads T_heads nT_places T_places nT_olders T_olders nT_sizes T_sizes nT_withins T_withins T_newest O_out) s.heap.size q := fun q h => Or.inr h
  have hS : va_S (va_A (wv_96 cI cJ cZ aX aX_arities aT aT_heads aT_places aT_olders aT_sizes aT_withins aT_newest aS aM aF aE aH aO_out X_namesUsed X_arities T_count nT_heads T_heads nT_places T_places nT_olders T_olders nT_sizes T_sizes nT_withins T_withins T_newest O_out) s.heap.size) s.heap s.heap [] := va_S.rf
  generalize va_A (wv_96 cI cJ cZ aX aX_arities aT aT_heads aT_places aT_olders aT_sizes aT_withins aT_newest aS aM aF aE aH aO_out X_namesUsed X_arities T_count nT_heads T_heads nT_places T_places nT_olders T_olders nT_sizes T_sizes nT_withins T_withins T_newest O_out) s.heap.size = A at hD hA hS hnA ⊢
  have hl := lv_entry ([.ref aX, .int p0, .int p1, .int p2, .int p3, .ref aO_out]) (n := 7) (Nat.le_of_ble_eq_true rfl)
  rw [lg_entry_eq]
  generalize (lg_sl ([.ref aX, .int p0, .int p1, .int p2, .int p3, .ref aO_out]) ++ List.replicate (7 - (lg_sl ([.ref aX, .int p0, .int p1, .int p2, .int p3, .ref aO_out])).length) Slot.unset).toArray = ls at hl ⊢
  have hl : lv_has ls 7 [(0, .ref aX), (1, .int p0), (2, .int p1), (3, .int p2), (4, .int p3), (5, .ref aO_out)] := hl
  rw [f_L_name] at hf
  refine lv_aload hx hb d_L_name_0 (lv_at hl 5 rfl) ?_
  refine lv_iconst (v := 0) hx hb d_L_name_2 (by decide) ?_
  refine lv_aload_n hx hb d_L_name_3 rfl (lv_at hl 0 rfl) ?_
  refine lv_iload_n hx hb d_L_name_4 rfl (lv_at hl 1 rfl) ?_
  refine lv_iload_n hx hb d_L_name_5 rfl (lv_at hl 2 rfl) ?_
  refine lv_iload_n hx hb d_L_name_6 rfl (lv_at hl 3 rfl) ?_
  refine lv_iload hx hb d_L_name_7 (lv_at hl 4 rfl) ?_
  obtain ⟨r1, hr1, hf⟩ := of_bd hf
  refine x_call (ws' := fun as2 => (wv_96 cI cJ cZ aX aX_arities aT aT_heads aT_places aT_olders aT_sizes aT_withins aT_newest aS aM aF aE aH aO_out r1.2.2.1 r1.2.2.2.1 r1.2.2.2.2.1 nT_heads r1.2.2.2.2.2.1 nT_places r1.2.2.2.2.2.2.1 nT_olders r1.2.2.2.2.2.2.2.1 nT_sizes r1.2.2.2.2.2.2.2.2.1 nT_withins r1.2.2.2.2.2.2.2.2.2.1 r1.2.2.2.2.2.2.2.2.2.2 O_out)) (xrunV (As := [.int p0, .int p1, .int p2, .int p3]) (rest := [.int (0 : Int32), .ref aO_out]) ⟨hx, hb, hml, hown, hts⟩ (c_X_name l D cI cJ cZ aX aX_arities aT aT_heads aT_places aT_olders aT_sizes aT_withins aT_newest aS aM aF aE aH _ X_namesUsed X_arities T_count nT_heads T_heads nT_places T_places nT_olders T_olders nT_sizes T_sizes nT_withins T_withins T_newest p0 p1 p2 p3 aK cK hst r1 hr1) (bigV 4 hts k2_143 k2_144 k2_145 k1_1 k2_146 rfl rfl hd_X_name ⟨Nat.le_of_ble_eq_true rfl, Nat.le_of_ble_eq_true rfl⟩) (x_preV hK hP hD hE hSR (keepS hS hcS0 hnA) hnA [0, 1, 2, 3, 4, 5, 6, 7, 8] rfl (by decide) rfl 0 rfl rfl rfl) rfl rfl hl.1 rfl (lv_room (Nat.le_of_ble_eq_true rfl)) d_L_name_9 ⟨(Nat.le_of_ble_eq_true rfl), (Nat.le_of_ble_eq_true rfl)⟩) hP hD hS hA [0, 1, 2, 3, 4, 5, 6, 7, 8] [9] rfl rfl (by decide) (by decide) [1, 2, 3, 4, 5, 6, 7, 8, 9, 0] (by decide) (fun _ => rfl) (fun hz as2 H locs hP hD hS => ?_) (fun hz as2 H locs q9 ce9 hP hD hS hc1 hc2 hc3 => ?_)
  · have hf := ite_t hz hf
    refine W.widen (k := 1) (n := 6) (by omega) (by omega) ?_
    refine lv_i2l (v := r1.2.1.toInt64) hx hb d_L_name_12 rfl ?_
    obtain ⟨h3, hf⟩ := of_gd hf
    obtain ⟨g4, eg4⟩ : ∃ y : Nat → Int64, y = vp_updL O_out (0 : Int32).toNatClampNeg r1.2.1.toInt64 := ⟨_, rfl⟩
    have hf := of_nm eg4 hf
    refine va_last hx hb hK.1 hP hD hS 9 1 rfl rfl (ixb_in h3) d_L_name_13 (fun H locs hP hD hS => ?_)
    rw [← eg4] at hP hD
    have hP : va_P D vwCl (wv_96 cI cJ cZ aX aX_arities aT aT_heads aT_places aT_olders aT_sizes aT_withins aT_newest aS aM aF aE aH aO_out r1.2.2.1 r1.2.2.2.1 r1.2.2.2.2.1 nT_heads r1.2.2.2.2.2.1 nT_places r1.2.2.2.2.2.2.1 nT_olders r1.2.2.2.2.2.2.2.1 nT_sizes r1.2.2.2.2.2.2.2.2.1 nT_withins r1.2.2.2.2.2.2.2.2.2.1 r1.2.2.2.2.2.2.2.2.2.2 g4) H := hP
    have hD : va_D A (wv_96 cI cJ cZ aX aX_arities aT aT_heads aT_places aT_olders aT_sizes aT_withins aT_newest aS aM aF aE aH aO_out r1.2.2.1 r1.2.2.2.1 r1.2.2.2.2.1 nT_heads r1.2.2.2.2.2.1 nT_places r1.2.2.2.2.2.2.1 nT_olders r1.2.2.2.2.2.2.2.1 nT_sizes r1.2.2.2.2.2.2.2.2.1 nT_withins r1.2.2.2.2.2.2.2.2.2.1 r1.2.2.2.2.2.2.2.2.2.2 g4) := hD
    refine lv_goto (tgt := 29) hx hb d_L_name_14 (by decide) ?_
    refine lv_iconst (v := 0) hx hb d_L_name_29 (by decide) ?_
    obtain rfl := Option.some.inj hf
    refine W.widen (k := 1) (n := 6) (by omega) (by omega) ?_
    exact W.iret (v := (0 : Int32)) hx hb hr (fun t ht hW => ⟨rfl, fun _ => 0, by rw [ht]; exact hP, hD, hS.F ht⟩) hS.2.2 d_L_name_30
  · have hf := ite_f hz hf
    by_cases z0 : r1.1 = 1
    · have hf := ite_t z0 hf
      obtain rfl := Option.some.inj hf
      rw [z0] at hc3
      refine wx_catch [] tx0 [tx1, tx2] ht9 (fun pl hpl y hy => by cases hy) (tab_cov tf0 (by decide) (by decide)) (fun pl hpl => row_yes hpl hown (by rw [(tab_pc tf0).2]; decide) (by rw [(tab_pc tf0).2]; exact hts _ k2_140) (hE s (State.WarmedH.refl s) hcS0 #[] (.castable (exn 1) (exn 1)) (by decide)) hc3) hc1 hc2 hc3 ?_
      rw [(tab_pc tf0).1]
      refine lv_astore (lv' := [(6, .ref q9), (0, .ref aX), (1, .int p0), (2, .int p1), (3, .int p2), (4, .int p3), (5, .ref aO_out)]) hx hb d_L_name_17 hl (by decide) rfl (fun ls hl => ?_)
      refine lv_iconst (v := 1) hx hb d_L_name_19 (by decide) ?_
      refine W.widen (k := 1) (n := 6) (by omega) (by omega) ?_
      exact W.iret (v := 1) hx hb hr (fun t ht hW => ⟨rfl, fun _ => 0, by rw [ht]; exact hP, hD, hS.F ht⟩) hS.2.2 d_L_name_20
    have hf := ite_f z0 hf
    by_cases z1 : r1.1 = 2
    · have hf := ite_t z1 hf
      obtain rfl := Option.some.inj hf
      rw [z1] at hc3
      refine wx_catch [tx0] tx1 [tx2] ht9 (fun pl hpl => List.forall_mem_cons.mpr ⟨⟨tab_cov tf0 (by decide) (by decide), row_no hpl hown (by rw [(tab_pc tf0).2]; decide) (by rw [(tab_pc tf0).2]; exact hts _ k2_140) (hNC 2 1 (by decide) (by decide) (by decide)) hc3⟩, fun _ h => absurd h List.not_mem_nil⟩) (tab_cov tf1 (by decide) (by decide)) (fun pl hpl => row_yes hpl hown (by rw [(tab_pc tf1).2]; decide) (by rw [(tab_pc tf1).2]; exact hts _ k2_141) (hE s (State.WarmedH.refl s) hcS0 #[] (.castable (exn 2) (exn 2)) (by decide)) hc3) hc1 hc2 hc3 ?_
      rw [(tab_pc tf1).1]
      refine lv_astore (lv' := [(6, .ref q9), (0, .ref aX), (1, .int p0), (2, .int p1), (3, .int p2), (4, .int p3), (5, .ref aO_out)]) hx hb d_L_name_21 hl (by decide) rfl (fun ls hl => ?_)
      refine lv_iconst (v := 2) hx hb d_L_name_23 (by decide) ?_
      refine W.widen (k := 1) (n := 6) (by omega) (by omega) ?_
      exact W.iret (v := 2) hx hb hr (fun t ht hW => ⟨rfl, fun _ => 0, by rw [ht]; exact hP, hD, hS.F ht⟩) hS.2.2 d_L_name_24
    have hf := ite_f z1 hf
    by_cases z2 : r1.1 = 3
    · have hf := ite_t z2 hf
      obtain rfl := Option.some.inj hf
      rw [z2] at hc3
      refine wx_catch [tx0, tx1] tx2 [] ht9 (fun pl hpl => List.forall_mem_cons.mpr ⟨⟨tab_cov tf0 (by decide) (by decide), row_no hpl hown (by rw [(tab_pc tf0).2]; decide) (by rw [(tab_pc tf0).2]; exact hts _ k2_140) (hNC 3 1 (by decide) (by decide) (by decide)) hc3⟩, List.forall_mem_cons.mpr ⟨⟨tab_cov tf1 (by decide) (by decide), row_no hpl hown (by rw [(tab_pc tf1).2]; decide) (by rw [(tab_pc tf1).2]; exact hts _ k2_141) (hNC 3 2 (by decide) (by decide) (by decide)) hc3⟩, fun _ h => absurd h List.not_mem_nil⟩⟩) (tab_cov tf2 (by decide) (by decide)) (fun pl hpl => row_yes hpl hown (by rw [(tab_pc tf2).2]; decide) (by rw [(tab_pc tf2).2]; exact hts _ k2_142) (hE s (State.WarmedH.refl s) hcS0 #[] (.castable (exn 3) (exn 3)) (by decide)) hc3) hc1 hc2 hc3 ?_
      rw [(tab_pc tf2).1]
      refine lv_astore (lv' := [(6, .ref q9), (0, .ref aX), (1, .int p0), (2, .int p1), (3, .int p2), (4, .int p3), (5, .ref aO_out)]) hx hb d_L_name_25 hl (by decide) rfl (fun ls hl => ?_)
      refine lv_iconst (v := 3) hx hb d_L_name_27 (by decide) ?_
      refine W.widen (k := 1) (n := 6) (by omega) (by omega) ?_
      exact W.iret (v := 3) hx hb hr (fun t ht hW => ⟨rfl, fun _ => 0, by rw [ht]; exact hP, hD, hS.F ht⟩) hS.2.2 d_L_name_28
    have hf := ite_f z2 hf
    cases hf
def f_L_leaf (T_count : Int32) (nT_heads : Nat) (T_heads : (Nat → Int32)) (nT_places : Nat) (T_places : (Nat → Int32)) (nT_olders : Nat) (T_olders : (Nat → Int32)) (nT_sizes : Nat) (T_sizes : (Nat → Int32)) (nT_withins : Nat) (T_withins : (Nat → Int64)) (T_newest : (Nat → Int32)) (O_out : (Nat → Int64)) (p0 : Int32) (p1 : Int32) : Option (Int32 × Int32 × (Nat → Int32) × (Nat → Int32) × (Nat → Int32) × (Nat → Int32) × (Nat → Int64) × (Nat → Int32) × (Nat → Int64)) :=
  (f_X_leaf T_count nT_heads T_heads nT_places T_places nT_olders T_olders nT_sizes T_sizes nT_withins T_withins T_newest p0 p1).bind fun r1 =>
  if r1.1 = 0 then
    gd (ixb (0 : Int32) 1) <| nm (vp_updL O_out (0 : Int32).toNatClampNeg r1.2.1.toInt64) fun g4 =>
    some ((0 : Int32), r1.2.2.1, r1.2.2.2.1, r1.2.2.2.2.1, r1.2.2.2.2.2.1, r1.2.2.2.2.2.2.1, r1.2.2.2.2.2.2.2.1, r1.2.2.2.2.2.2.2.2, g4)
  else
    if r1.1 = 1 then some ((1 : Int32), r1.2.2.1, r1.2.2.2.1, r1.2.2.2.2.1, r1.2.2.2.2.2.1, r1.2.2.2.2.2.2.1, r1.2.2.2.2.2.2.2.1, r1.2.2.2.2.2.2.2.2, O_out)
    else
    if r1.1 = 3 then some ((2 : Int32), r1.2.2.1, r1.2.2.2.1, r1.2.2.2.2.1, r1.2.2.2.2.2.1, r1.2.2.2.2.2.2.1, r1.2.2.2.2.2.2.2.1, r1.2.2.2.2.2.2.2.2, O_out)
    else
    none
abbrev rm_L_leaf : Room := { frames := 7, cells := 1, slots := 6, locals := 114 }
set_option maxHeartbeats 4000000 in
set_option maxRecDepth 100000 in
theorem c_L_leaf (l : Launch) (D : va_G) (cI cJ cZ : ClassId) (aX aX_arities aT aT_heads aT_places aT_olders aT_sizes aT_withins aT_newest aS aM aF aE aH aO_out : Nat) (sz : Nat) (X_namesUsed : Int32) (T_count : Int32) (nT_heads : Nat) (T_heads : (Nat → Int32)) (nT_places : Nat) (T_places : (Nat → Int32)) (nT_olders : Nat) (T_olders : (Nat → Int32)) (nT_sizes : Nat) (T_sizes : (Nat → Int32)) (nT_withins : Nat) (T_withins : (Nat → Int64)) (T_newest : (Nat → Int32)) (O_out : (Nat → Int64)) (p0 : Int32) (p1 : Int32) (aK : Nat) (cK : Cell) (hst : l.stackTraces = false) (o : Int32 × Int32 × (Nat → Int32) × (Nat → Int32) × (Nat → Int32) × (Nat → Int32) × (Nat → Int64) × (Nat → Int32) × (Nat → Int64)) (hf : f_L_leaf T_count nT_heads T_heads nT_places T_places nT_olders T_olders nT_sizes T_sizes nT_withins T_withins T_newest O_out p0 p1 = some o) : Met l y_L_leaf (ws_L_leaf) rm_L_leaf (LPc D vwCl cI cJ cZ aK cK [.ref aX, .int p0, .int p1, .ref aO_out] (wv_97 cI cJ cZ aX aX_arities aT aT_heads aT_places aT_olders aT_sizes aT_withins aT_newest aS aM aF aE aH aO_out X_namesUsed T_count nT_heads T_heads nT_places T_places nT_olders T_olders nT_sizes T_sizes nT_withins T_withins T_newest O_out) sz) (WQx D vwCl (some (.int o.1)) (fun as => (wv_97 cI cJ cZ aX aX_arities aT aT_heads aT_places aT_olders aT_sizes aT_withins aT_newest aS aM aF aE aH aO_out X_namesUsed o.2.1 nT_heads o.2.2.1 nT_places o.2.2.2.1 nT_olders o.2.2.2.2.1 nT_sizes o.2.2.2.2.2.1 nT_withins o.2.2.2.2.2.2.1 o.2.2.2.2.2.2.2.1 o.2.2.2.2.2.2.2.2)) (va_A (wv_97 cI cJ cZ aX aX_arities aT aT_heads aT_places aT_olders aT_sizes aT_withins aT_newest aS aM aF aE aH aO_out X_namesUsed T_count nT_heads T_heads nT_places T_places nT_olders T_olders nT_sizes T_sizes nT_withins T_withins T_newest O_out) sz)) 1 6 (va_A (wv_97 cI cJ cZ aX aX_arities aT aT_heads aT_places aT_olders aT_sizes aT_withins aT_newest aS aM aF aE aH aO_out X_namesUsed T_count nT_heads T_heads nT_places T_places nT_olders T_olders nT_sizes T_sizes nT_withins T_withins T_newest O_out) sz) := by
  refine va_MetW (cc := b_L_leaf) (maxL := 5) (ret := (some .int)) (hh := [(0, 10, 13, 13), (0, 10, 17, 17)]) (by decide) rfl ?_
  intro p e s m args below meth c s₁ B hml hv
  obtain ⟨⟨rfl, rfl, hP, hK, hD0, ⟨hcS0, hE, hSR⟩, hnA⟩, hNC⟩ := hv
  have hx := B.exec
  have hb := B.bytes
  have hr := B.returns
  have hts0 := atoms_spec (ws := (ws_L_leaf)) B.pre
  have htab := tab_of B (hts0 _ List.mem_cons_self)
  have hts : ∀ w ∈ BG, w.before _ s = true := fun w h => hts0 w (List.mem_cons_of_mem _ h)
  have hown : s.vm.findClass "ShapeSearchLaw" = some m.cls := findClass_of_methodNamed B.named
  have hlocks := B.notSynchronized
  obtain ⟨tx0, L0, te0, tf0, htab⟩ := tab_cons htab
  obtain ⟨tx1, L1, te1, tf1, htab⟩ := tab_cons htab
  have te9 := tab_nil htab
  have ht9 : c.exceptionTable.toList = [tx0, tx1] := by rw [te0, te1, te9]
  have hD := hD0.self (sz := s.heap.size)
  have hA : ∀ q : Nat, s.heap.size ≤ q → va_A (wv_97 cI cJ cZ aX aX_arities aT aT_heads aT_places aT_olders aT_sizes aT_withins aT_newest aS aM aF aE aH aO_out X_namesUsed T_count nT_heads T_heads nT_places T_places nT_olders T_olders nT_sizes T_sizes nT_withins T_withins T_newest O_out) s.heap.size q := fun q h => Or.inr h
  have hS : va_S (va_A (wv_97 cI cJ cZ aX aX_arities aT aT_heads aT_places aT_olders aT_sizes aT_withins aT_newest aS aM aF aE aH aO_out X_namesUsed T_count nT_heads T_heads nT_places T_places nT_olders T_olders nT_sizes T_sizes nT_withins T_withins T_newest O_out) s.heap.size) s.heap s.heap [] := va_S.rf
  generalize va_A (wv_97 cI cJ cZ aX aX_arities aT aT_heads aT_places aT_olders aT_sizes aT_withins aT_newest aS aM aF aE aH aO_out X_namesUsed T_count nT_heads T_heads nT_places T_places nT_olders T_olders nT_sizes T_sizes nT_withins T_withins T_newest O_out) s.heap.size = A at hD hA hS hnA ⊢
  have hl := lv_entry ([.ref aX, .int p0, .int p1, .ref aO_out]) (n := 5) (Nat.le_of_ble_eq_true rfl)
  rw [lg_entry_eq]
  generalize (lg_sl ([.ref aX, .int p0, .int p1, .ref aO_out]) ++ List.replicate (5 - (lg_sl ([.ref aX, .int p0, .int p1, .ref aO_out])).length) Slot.unset).toArray = ls at hl ⊢
  have hl : lv_has ls 5 [(0, .ref aX), (1, .int p0), (2, .int p1), (3, .ref aO_out)] := hl
  rw [f_L_leaf] at hf
  refine lv_aload_n hx hb d_L_leaf_0 rfl (lv_at hl 3 rfl) ?_
  refine lv_iconst (v := 0) hx hb d_L_leaf_1 (by decide) ?_
  refine lv_aload_n hx hb d_L_leaf_2 rfl (lv_at hl 0 rfl) ?_
  refine lv_iload_n hx hb d_L_leaf_3 rfl (lv_at hl 1 rfl) ?_
  refine lv_iload_n hx hb d_L_leaf_4 rfl (lv_at hl 2 rfl) ?_
  obtain ⟨r1, hr1, hf⟩ := of_bd hf
  refine x_call (ws' := fun as2 => (wv_97 cI cJ cZ aX aX_arities aT aT_heads aT_places aT_olders aT_sizes aT_withins aT_newest aS aM aF aE aH aO_out X_namesUsed r1.2.2.1 nT_heads r1.2.2.2.1 nT_places r1.2.2.2.2.1 nT_olders r1.2.2.2.2.2.1 nT_sizes r1.2.2.2.2.2.2.1 nT_withins r1.2.2.2.2.2.2.2.1 r1.2.2.2.2.2.2.2.2 O_out)) (xrunV (As := [.int p0, .int p1]) (rest := [.int (0 : Int32), .ref aO_out]) ⟨hx, hb, hml, hown, hts⟩ (c_X_leaf l D cI cJ cZ aX aX_arities aT aT_heads aT_places aT_olders aT_sizes aT_withins aT_newest aS aM aF aE aH _ X_namesUsed T_count nT_heads T_heads nT_places T_places nT_olders T_olders nT_sizes T_sizes nT_withins T_withins T_newest p0 p1 aK cK hst r1 hr1) (bigV 2 hts k3_31 k3_32 k3_33 k1_1 k3_34 rfl rfl hd_X_leaf ⟨Nat.le_of_ble_eq_true rfl, Nat.le_of_ble_eq_true rfl⟩) (x_preV hK hP hD hE hSR (keepS hS hcS0 hnA) hnA [0, 1, 2, 3, 4, 5, 6, 7] rfl (by decide) rfl 0 rfl rfl rfl) rfl rfl hl.1 rfl (lv_room (Nat.le_of_ble_eq_true rfl)) d_L_leaf_5 ⟨(Nat.le_of_ble_eq_true rfl), (Nat.le_of_ble_eq_true rfl)⟩) hP hD hS hA [0, 1, 2, 3, 4, 5, 6, 7] [8] rfl rfl (by decide) (by decide) [1, 2, 3, 4, 5, 6, 7, 8, 0] (by decide) (fun _ => rfl) (fun hz as2 H locs hP hD hS => ?_) (fun hz as2 H locs q9 ce9 hP hD hS hc1 hc2 hc3 => ?_)
  · have hf := ite_t hz hf
    refine W.widen (k := 1) (n := 6) (by omega) (by omega) ?_
    refine lv_i2l (v := r1.2.1.toInt64) hx hb d_L_leaf_8 rfl ?_
    obtain ⟨h3, hf⟩ := of_gd hf
    obtain ⟨g4, eg4⟩ : ∃ y : Nat → Int64, y = vp_updL O_out (0 : Int32).toNatClampNeg r1.2.1.toInt64 := ⟨_, rfl⟩
    have hf := of_nm eg4 hf
    refine va_last hx hb hK.1 hP hD hS 8 1 rfl rfl (ixb_in h3) d_L_leaf_9 (fun H locs hP hD hS => ?_)
    rw [← eg4] at hP hD
    have hP : va_P D vwCl (wv_97 cI cJ cZ aX aX_arities aT aT_heads aT_places aT_olders aT_sizes aT_withins aT_newest aS aM aF aE aH aO_out X_namesUsed r1.2.2.1 nT_heads r1.2.2.2.1 nT_places r1.2.2.2.2.1 nT_olders r1.2.2.2.2.2.1 nT_sizes r1.2.2.2.2.2.2.1 nT_withins r1.2.2.2.2.2.2.2.1 r1.2.2.2.2.2.2.2.2 g4) H := hP
    have hD : va_D A (wv_97 cI cJ cZ aX aX_arities aT aT_heads aT_places aT_olders aT_sizes aT_withins aT_newest aS aM aF aE aH aO_out X_namesUsed r1.2.2.1 nT_heads r1.2.2.2.1 nT_places r1.2.2.2.2.1 nT_olders r1.2.2.2.2.2.1 nT_sizes r1.2.2.2.2.2.2.1 nT_withins r1.2.2.2.2.2.2.2.1 r1.2.2.2.2.2.2.2.2 g4) := hD
    refine lv_goto (tgt := 21) hx hb d_L_leaf_10 (by decide) ?_
    refine lv_iconst (v := 0) hx hb d_L_leaf_21 (by decide) ?_
    obtain rfl := Option.some.inj hf
    refine W.widen (k := 1) (n := 6) (by omega) (by omega) ?_
    exact W.iret (v := (0 : Int32)) hx hb hr (fun t ht hW => ⟨rfl, fun _ => 0, by rw [ht]; exact hP, hD, hS.F ht⟩) hS.2.2 d_L_leaf_22
  · have hf := ite_f hz hf
    by_cases z0 : r1.1 = 1
    · have hf := ite_t z0 hf
      obtain rfl := Option.some.inj hf
      rw [z0] at hc3
      refine wx_catch [] tx0 [tx1] ht9 (fun pl hpl y hy => by cases hy) (tab_cov tf0 (by decide) (by decide)) (fun pl hpl => row_yes hpl hown (by rw [(tab_pc tf0).2]; decide) (by rw [(tab_pc tf0).2]; exact hts _ k2_140) (hE s (State.WarmedH.refl s) hcS0 #[] (.castable (exn 1) (exn 1)) (by decide)) hc3) hc1 hc2 hc3 ?_
      rw [(tab_pc tf0).1]
      refine lv_astore (lv' := [(4, .ref q9), (0, .ref aX), (1, .int p0), (2, .int p1), (3, .ref aO_out)]) hx hb d_L_leaf_13 hl (by decide) rfl (fun ls hl => ?_)
      refine lv_iconst (v := 1) hx hb d_L_leaf_15 (by decide) ?_
      refine W.widen (k := 1) (n := 6) (by omega) (by omega) ?_
      exact W.iret (v := 1) hx hb hr (fun t ht hW => ⟨rfl, fun _ => 0, by rw [ht]; exact hP, hD, hS.F ht⟩) hS.2.2 d_L_leaf_16
    have hf := ite_f z0 hf
    by_cases z1 : r1.1 = 3
    · have hf := ite_t z1 hf
      obtain rfl := Option.some.inj hf
      rw [z1] at hc3
      refine wx_catch [tx0] tx1 [] ht9 (fun pl hpl => List.forall_mem_cons.mpr ⟨⟨tab_cov tf0 (by decide) (by decide), row_no hpl hown (by rw [(tab_pc tf0).2]; decide) (by rw [(tab_pc tf0).2]; exact hts _ k2_140) (hNC 3 1 (by decide) (by decide) (by decide)) hc3⟩, fun _ h => absurd h List.not_mem_nil⟩) (tab_cov tf1 (by decide) (by decide)) (fun pl hpl => row_yes hpl hown (by rw [(tab_pc tf1).2]; decide) (by rw [(tab_pc tf1).2]; exact hts _ k2_142) (hE s (State.WarmedH.refl s) hcS0 #[] (.castable (exn 3) (exn 3)) (by decide)) hc3) hc1 hc2 hc3 ?_
      rw [(tab_pc tf1).1]
      refine lv_astore (lv' := [(4, .ref q9), (0, .ref aX), (1, .int p0), (2, .int p1), (3, .ref aO_out)]) hx hb d_L_leaf_17 hl (by decide) rfl (fun ls hl => ?_)
      refine lv_iconst (v := 2) hx hb d_L_leaf_19 (by decide) ?_
      refine W.widen (k := 1) (n := 6) (by omega) (by omega) ?_
      exact W.iret (v := 2) hx hb hr (fun t ht hW => ⟨rfl, fun _ => 0, by rw [ht]; exact hP, hD, hS.F ht⟩) hS.2.2 d_L_leaf_20
    have hf := ite_f z1 hf
    cases hf
def f_L_state (T_count : Int32) (nT_withins : Nat) (T_withins : (Nat → Int64)) (S_count : Int32) (S_premises : (Nat → Int32)) (S_premiseCounts : (Nat → Int32)) (S_conclusions : (Nat → Int32)) (H_kind : Int32) (H_subject : Int32) (H_count : Int32) (O_out : (Nat → Int64)) (p0 : Int32) (p1 : Int32) (p2 : Int32) (p3 : Int32) (p4 : Int32) : Option (Int32 × Int32 × (Nat → Int32) × (Nat → Int32) × (Nat → Int32) × Int32 × Int32 × Int32 × (Nat → Int64)) :=
  (f_X_state T_count nT_withins T_withins S_count S_premises S_premiseCounts S_conclusions H_kind H_subject H_count p0 p1 p2 p3 p4).bind fun r1 =>
  if r1.1 = 0 then
    gd (ixb (0 : Int32) 1) <| nm (vp_updL O_out (0 : Int32).toNatClampNeg r1.2.1.toInt64) fun g4 =>
    some ((0 : Int32), r1.2.2.1, r1.2.2.2.1, r1.2.2.2.2.1, r1.2.2.2.2.2.1, r1.2.2.2.2.2.2.1, r1.2.2.2.2.2.2.2.1, r1.2.2.2.2.2.2.2.2, g4)
  else
    if r1.1 = 1 then some ((1 : Int32), r1.2.2.1, r1.2.2.2.1, r1.2.2.2.2.1, r1.2.2.2.2.2.1, r1.2.2.2.2.2.2.1, r1.2.2.2.2.2.2.2.1, r1.2.2.2.2.2.2.2.2, O_out)
    else
    if r1.1 = 2 then some ((2 : Int32), r1.2.2.1, r1.2.2.2.1, r1.2.2.2.2.1, r1.2.2.2.2.2.1, r1.2.2.2.2.2.2.1, r1.2.2.2.2.2.2.2.1, r1.2.2.2.2.2.2.2.2, O_out)
    else
    if r1.1 = 3 then some ((3 : Int32), r1.2.2.1, r1.2.2.2.1, r1.2.2.2.2.1, r1.2.2.2.2.2.1, r1.2.2.2.2.2.2.1, r1.2.2.2.2.2.2.2.1, r1.2.2.2.2.2.2.2.2, O_out)
    else
    none
abbrev rm_L_state : Room := { frames := 7, cells := 1, slots := 6, locals := 117 }
set_option maxHeartbeats 4000000 in
set_option maxRecDepth 100000 in
theorem c_L_state (l : Launch) (D : va_G) (cI cJ cZ : ClassId) (aX aX_arities aT aT_heads aT_places aT_olders aT_sizes aT_withins aT_newest aS aS_premises aS_premiseCounts aS_conclusions aS_order aM aF aE aH aH_statementRow aH_firstRow aH_secondRow aO_out : Nat) (sz : Nat) (X_namesUsed : Int32) (T_count : Int32) (nT_withins : Nat) (T_withins : (Nat → Int64)) (S_count : Int32) (S_premises : (Nat → Int32)) (S_premiseCounts : (Nat → Int32)) (S_conclusions : (Nat → Int32)) (H_kind : Int32) (H_subject : Int32) (H_count : Int32) (O_out : (Nat → Int64)) (p0 : Int32) (p1 : Int32) (p2 : Int32) (p3 : Int32) (p4 : Int32) (aK : Nat) (cK : Cell) (hst : l.stackTraces = false) (o : Int32 × Int32 × (Nat → Int32) × (Nat → Int32) × (Nat → Int32) × Int32 × Int32 × Int32 × (Nat → Int64)) (hf : f_L_state T_count nT_withins T_withins S_count S_premises S_premiseCounts S_conclusions H_kind H_subject H_count O_out p0 p1 p2 p3 p4 = some o) : Met l y_L_state (ws_L_state) rm_L_state (LPc D vwCl cI cJ cZ aK cK [.ref aX, .int p0, .int p1, .int p2, .int p3, .int p4, .ref aO_out] (wv_98 cI cJ cZ aX aX_arities aT aT_heads aT_places aT_olders aT_sizes aT_withins aT_newest aS aS_premises aS_premiseCounts aS_conclusions aS_order aM aF aE aH aH_statementRow aH_firstRow aH_secondRow aO_out X_namesUsed T_count nT_withins T_withins S_count S_premises S_premiseCounts S_conclusions H_kind H_subject H_count O_out) sz) (WQx D vwCl (some (.int o.1)) (fun as => (wv_98 cI cJ cZ aX aX_arities aT aT_heads aT_places aT_olders aT_sizes aT_withins aT_newest aS aS_premises aS_premiseCounts aS_conclusions aS_order aM aF aE aH aH_statementRow aH_firstRow aH_secondRow aO_out X_namesUsed T_count nT_withins T_withins o.2.1 o.2.2.1 o.2.2.2.1 o.2.2.2.2.1 o.2.2.2.2.2.1 o.2.2.2.2.2.2.1 o.2.2.2.2.2.2.2.1 o.2.2.2.2.2.2.2.2)) (va_A (wv_98 cI cJ cZ aX aX_arities aT aT_heads aT_places aT_olders aT_sizes aT_withins aT_newest aS aS_premises aS_premiseCounts aS_conclusions aS_order aM aF aE aH aH_statementRow aH_firstRow aH_secondRow aO_out X_namesUsed T_count nT_withins T_withins S_count S_premises S_premiseCounts S_conclusions H_kind H_subject H_count O_out) sz)) 1 6 (va_A (wv_98 cI cJ cZ aX aX_arities aT aT_heads aT_places aT_olders aT_sizes aT_withins aT_newest aS aS_premises aS_premiseCounts aS_conclusions aS_order aM aF aE aH aH_statementRow aH_firstRow aH_secondRow aO_out X_namesUsed T_count nT_withins T_withins S_count S_premises S_premiseCounts S_conclusions H_kind H_subject H_count O_out) sz) := by
  refine va_MetW (cc := b_L_state) (maxL := 8) (ret := (some .int)) (hh := [(0, 16, 19, 13), (0, 16, 23, 15), (0, 16, 27, 17)]) (by decide) rfl ?_
  intro p e s m args below meth c s₁ B hml hv
  obtain ⟨⟨rfl, rfl, hP, hK, hD0, ⟨hcS0, hE, hSR⟩, hnA⟩, hNC⟩ := hv
  have hx := B.exec
  have hb := B.bytes
  have hr := B.returns
  have hts0 := atoms_spec (ws := (ws_L_state)) B.pre
  have htab := tab_of B (hts0 _ List.mem_cons_self)
  have hts : ∀ w ∈ BG, w.before _ s = true := fun w h => hts0 w (List.mem_cons_of_mem _ h)
  have hown : s.vm.findClass "ShapeSearchLaw" = some m.cls := findClass_of_methodNamed B.named
  have hlocks := B.notSynchronized
  obtain ⟨tx0, L0, te0, tf0, htab⟩ := tab_cons htab
  obtain ⟨tx1, L1, te1, tf1, htab⟩ := tab_cons htab
  obtain ⟨tx2, L2, te2, tf2, htab⟩ := tab_cons htab
  have te9 := tab_nil htab
  have ht9 : c.exceptionTable.toList = [tx0, tx1, tx2] := by rw [te0, te1, te2, te9]
  have hD := hD0.self (sz := s.heap.size)
  have hA : ∀ q : Nat, s.heap.size ≤ q → va_A (wv_98 cI cJ cZ aX aX_arities aT aT_heads aT_places aT_olders aT_sizes aT_withins aT_newest aS aS_premises aS_premiseCounts aS_conclusions aS_order aM aF aE aH aH_statementRow aH_firstRow aH_secondRow aO_out X_namesUsed T_count nT_withins T_withins S_count S_premises S_premiseCounts S_conclusions H_kind H_subject H_count O_out) s.heap.size q := fun q h => Or.inr h
  have hS : va_S (va_A (wv_98 cI cJ cZ aX aX_arities aT aT_heads aT_places aT_olders aT_sizes aT_withins aT_newest aS aS_premises aS_premiseCounts aS_conclusions aS_order aM aF aE aH aH_statementRow aH_firstRow aH_secondRow aO_out X_namesUsed T_count nT_withins T_withins S_count S_premises S_premiseCounts S_conclusions H_kind H_subject H_count O_out) s.heap.size) s.heap s.heap [] := va_S.rf
  generalize va_A (wv_98 cI cJ cZ aX aX_arities aT aT_heads aT_places aT_olders aT_sizes aT_withins aT_newest aS aS_premises aS_premiseCounts aS_conclusions aS_order aM aF aE aH aH_statementRow aH_firstRow aH_secondRow aO_out X_namesUsed T_count nT_withins T_withins S_count S_premises S_premiseCounts S_conclusions H_kind H_subject H_count O_out) s.heap.size = A at hD hA hS hnA ⊢
  have hl := lv_entry ([.ref aX, .int p0, .int p1, .int p2, .int p3, .int p4, .ref aO_out]) (n := 8) (Nat.le_of_ble_eq_true rfl)
  rw [lg_entry_eq]
  generalize (lg_sl ([.ref aX, .int p0, .int p1, .int p2, .int p3, .int p4, .ref aO_out]) ++ List.replicate (8 - (lg_sl ([.ref aX, .int p0, .int p1, .int p2, .int p3, .int p4, .ref aO_out])).length) Slot.unset).toArray = ls at hl ⊢
  have hl : lv_has ls 8 [(0, .ref aX), (1, .int p0), (2, .int p1), (3, .int p2), (4, .int p3), (5, .int p4), (6, .ref aO_out)] := hl
  rw [f_L_state] at hf
  refine lv_aload hx hb d_L_state_0 (lv_at hl 6 rfl) ?_
  refine lv_iconst (v := 0) hx hb d_L_state_2 (by decide) ?_
  refine lv_aload_n hx hb d_L_state_3 rfl (lv_at hl 0 rfl) ?_
  refine lv_iload_n hx hb d_L_state_4 rfl (lv_at hl 1 rfl) ?_
  refine lv_iload_n hx hb d_L_state_5 rfl (lv_at hl 2 rfl) ?_
  refine lv_iload_n hx hb d_L_state_6 rfl (lv_at hl 3 rfl) ?_
  refine lv_iload hx hb d_L_state_7 (lv_at hl 4 rfl) ?_
  refine lv_iload hx hb d_L_state_9 (lv_at hl 5 rfl) ?_
  obtain ⟨r1, hr1, hf⟩ := of_bd hf
  refine x_call (ws' := fun as2 => (wv_98 cI cJ cZ aX aX_arities aT aT_heads aT_places aT_olders aT_sizes aT_withins aT_newest aS aS_premises aS_premiseCounts aS_conclusions aS_order aM aF aE aH aH_statementRow aH_firstRow aH_secondRow aO_out X_namesUsed T_count nT_withins T_withins r1.2.2.1 r1.2.2.2.1 r1.2.2.2.2.1 r1.2.2.2.2.2.1 r1.2.2.2.2.2.2.1 r1.2.2.2.2.2.2.2.1 r1.2.2.2.2.2.2.2.2 O_out)) (xrunV (As := [.int p0, .int p1, .int p2, .int p3, .int p4]) (rest := [.int (0 : Int32), .ref aO_out]) ⟨hx, hb, hml, hown, hts⟩ (c_X_state l D cI cJ cZ aX aX_arities aT aT_heads aT_places aT_olders aT_sizes aT_withins aT_newest aS aS_premises aS_premiseCounts aS_conclusions aS_order aM aF aE aH aH_statementRow aH_firstRow aH_secondRow _ X_namesUsed T_count nT_withins T_withins S_count S_premises S_premiseCounts S_conclusions H_kind H_subject H_count p0 p1 p2 p3 p4 aK cK hst r1 hr1) (bigV 5 hts k3_39 k3_40 k3_41 k1_1 k3_42 rfl rfl hd_X_state ⟨Nat.le_of_ble_eq_true rfl, Nat.le_of_ble_eq_true rfl⟩) (x_preV hK hP hD hE hSR (keepS hS hcS0 hnA) hnA [0, 1, 2, 3, 4, 5, 6, 7] rfl (by decide) rfl 0 rfl rfl rfl) rfl rfl hl.1 rfl (lv_room (Nat.le_of_ble_eq_true rfl)) d_L_state_11 ⟨(Nat.le_of_ble_eq_true rfl), (Nat.le_of_ble_eq_true rfl)⟩) hP hD hS hA [0, 1, 2, 3, 4, 5, 6, 7] [8] rfl rfl (by decide) (by decide) [1, 2, 3, 4, 5, 6, 7, 8, 0] (by decide) (fun _ => rfl) (fun hz as2 H locs hP hD hS => ?_) (fun hz as2 H locs q9 ce9 hP hD hS hc1 hc2 hc3 => ?_)
  · have hf := ite_t hz hf
    refine W.widen (k := 1) (n := 6) (by omega) (by omega) ?_
    refine lv_i2l (v := r1.2.1.toInt64) hx hb d_L_state_14 rfl ?_
    obtain ⟨h3, hf⟩ := of_gd hf
    obtain ⟨g4, eg4⟩ : ∃ y : Nat → Int64, y = vp_updL O_out (0 : Int32).toNatClampNeg r1.2.1.toInt64 := ⟨_, rfl⟩
    have hf := of_nm eg4 hf
    refine va_last hx hb hK.1 hP hD hS 8 1 rfl rfl (ixb_in h3) d_L_state_15 (fun H locs hP hD hS => ?_)
    rw [← eg4] at hP hD
    have hP : va_P D vwCl (wv_98 cI cJ cZ aX aX_arities aT aT_heads aT_places aT_olders aT_sizes aT_withins aT_newest aS aS_premises aS_premiseCounts aS_conclusions aS_order aM aF aE aH aH_statementRow aH_firstRow aH_secondRow aO_out X_namesUsed T_count nT_withins T_withins r1.2.2.1 r1.2.2.2.1 r1.2.2.2.2.1 r1.2.2.2.2.2.1 r1.2.2.2.2.2.2.1 r1.2.2.2.2.2.2.2.1 r1.2.2.2.2.2.2.2.2 g4) H := hP
    have hD : va_D A (wv_98 cI cJ cZ aX aX_arities aT aT_heads aT_places aT_olders aT_sizes aT_withins aT_newest aS aS_premises aS_premiseCounts aS_conclusions aS_order aM aF aE aH aH_statementRow aH_firstRow aH_secondRow aO_out X_namesUsed T_count nT_withins T_withins r1.2.2.1 r1.2.2.2.1 r1.2.2.2.2.1 r1.2.2.2.2.2.1 r1.2.2.2.2.2.2.1 r1.2.2.2.2.2.2.2.1 r1.2.2.2.2.2.2.2.2 g4) := hD
    refine lv_goto (tgt := 31) hx hb d_L_state_16 (by decide) ?_
    refine lv_iconst (v := 0) hx hb d_L_state_31 (by decide) ?_
    obtain rfl := Option.some.inj hf
    refine W.widen (k := 1) (n := 6) (by omega) (by omega) ?_
    exact W.iret (v := (0 : Int32)) hx hb hr (fun t ht hW => ⟨rfl, fun _ => 0, by rw [ht]; exact hP, hD, hS.F ht⟩) hS.2.2 d_L_state_32
  · have hf := ite_f hz hf
    by_cases z0 : r1.1 = 1
    · have hf := ite_t z0 hf
      obtain rfl := Option.some.inj hf
      rw [z0] at hc3
      refine wx_catch [] tx0 [tx1, tx2] ht9 (fun pl hpl y hy => by cases hy) (tab_cov tf0 (by decide) (by decide)) (fun pl hpl => row_yes hpl hown (by rw [(tab_pc tf0).2]; decide) (by rw [(tab_pc tf0).2]; exact hts _ k2_140) (hE s (State.WarmedH.refl s) hcS0 #[] (.castable (exn 1) (exn 1)) (by decide)) hc3) hc1 hc2 hc3 ?_
      rw [(tab_pc tf0).1]
      refine lv_astore (lv' := [(7, .ref q9), (0, .ref aX), (1, .int p0), (2, .int p1), (3, .int p2), (4, .int p3), (5, .int p4), (6, .ref aO_out)]) hx hb d_L_state_19 hl (by decide) rfl (fun ls hl => ?_)
      refine lv_iconst (v := 1) hx hb d_L_state_21 (by decide) ?_
      refine W.widen (k := 1) (n := 6) (by omega) (by omega) ?_
      exact W.iret (v := 1) hx hb hr (fun t ht hW => ⟨rfl, fun _ => 0, by rw [ht]; exact hP, hD, hS.F ht⟩) hS.2.2 d_L_state_22
    have hf := ite_f z0 hf
    by_cases z1 : r1.1 = 2
    · have hf := ite_t z1 hf
      obtain rfl := Option.some.inj hf
      rw [z1] at hc3
      refine wx_catch [tx0] tx1 [tx2] ht9 (fun pl hpl => List.forall_mem_cons.mpr ⟨⟨tab_cov tf0 (by decide) (by decide), row_no hpl hown (by rw [(tab_pc tf0).2]; decide) (by rw [(tab_pc tf0).2]; exact hts _ k2_140) (hNC 2 1 (by decide) (by decide) (by decide)) hc3⟩, fun _ h => absurd h List.not_mem_nil⟩) (tab_cov tf1 (by decide) (by decide)) (fun pl hpl => row_yes hpl hown (by rw [(tab_pc tf1).2]; decide) (by rw [(tab_pc tf1).2]; exact hts _ k2_141) (hE s (State.WarmedH.refl s) hcS0 #[] (.castable (exn 2) (exn 2)) (by decide)) hc3) hc1 hc2 hc3 ?_
      rw [(tab_pc tf1).1]
      refine lv_astore (lv' := [(7, .ref q9), (0, .ref aX), (1, .int p0), (2, .int p1), (3, .int p2), (4, .int p3), (5, .int p4), (6, .ref aO_out)]) hx hb d_L_state_23 hl (by decide) rfl (fun ls hl => ?_)
      refine lv_iconst (v := 2) hx hb d_L_state_25 (by decide) ?_
      refine W.widen (k := 1) (n := 6) (by omega) (by omega) ?_
      exact W.iret (v := 2) hx hb hr (fun t ht hW => ⟨rfl, fun _ => 0, by rw [ht]; exact hP, hD, hS.F ht⟩) hS.2.2 d_L_state_26
    have hf := ite_f z1 hf
    by_cases z2 : r1.1 = 3
    · have hf := ite_t z2 hf
      obtain rfl := Option.some.inj hf
      rw [z2] at hc3
      refine wx_catch [tx0, tx1] tx2 [] ht9 (fun pl hpl => List.forall_mem_cons.mpr ⟨⟨tab_cov tf0 (by decide) (by decide), row_no hpl hown (by rw [(tab_pc tf0).2]; decide) (by rw [(tab_pc tf0).2]; exact hts _ k2_140) (hNC 3 1 (by decide) (by decide) (by decide)) hc3⟩, List.forall_mem_cons.mpr ⟨⟨tab_cov tf1 (by decide) (by decide), row_no hpl hown (by rw [(tab_pc tf1).2]; decide) (by rw [(tab_pc tf1).2]; exact hts _ k2_141) (hNC 3 2 (by decide) (by decide) (by decide)) hc3⟩, fun _ h => absurd h List.not_mem_nil⟩⟩) (tab_cov tf2 (by decide) (by decide)) (fun pl hpl => row_yes hpl hown (by rw [(tab_pc tf2).2]; decide) (by rw [(tab_pc tf2).2]; exact hts _ k2_142) (hE s (State.WarmedH.refl s) hcS0 #[] (.castable (exn 3) (exn 3)) (by decide)) hc3) hc1 hc2 hc3 ?_
      rw [(tab_pc tf2).1]
      refine lv_astore (lv' := [(7, .ref q9), (0, .ref aX), (1, .int p0), (2, .int p1), (3, .int p2), (4, .int p3), (5, .int p4), (6, .ref aO_out)]) hx hb d_L_state_27 hl (by decide) rfl (fun ls hl => ?_)
      refine lv_iconst (v := 3) hx hb d_L_state_29 (by decide) ?_
      refine W.widen (k := 1) (n := 6) (by omega) (by omega) ?_
      exact W.iret (v := 3) hx hb hr (fun t ht hW => ⟨rfl, fun _ => 0, by rw [ht]; exact hP, hD, hS.F ht⟩) hS.2.2 d_L_state_30
    have hf := ite_f z2 hf
    cases hf
def f_L_find (T_count : Int32) (nT_heads : Nat) (T_heads : (Nat → Int32)) (nT_places : Nat) (T_places : (Nat → Int32)) (nT_withins : Nat) (T_withins : (Nat → Int64)) (S_count : Int32) (S_premises : (Nat → Int32)) (S_premiseCounts : (Nat → Int32)) (S_conclusions : (Nat → Int32)) (M_images : (Nat → Int32)) (F_shape : Int32) (F_match : Int32) (F_premise : Int32) (F_seen : (Nat → Int32)) (F_waiting : (Nat → Int32)) (H_kind : Int32) (H_subject : Int32) (H_count : Int32) (H_statementRow : (Nat → Int32)) (H_firstRow : (Nat → Int32)) (H_secondRow : (Nat → Int32)) (O_out : (Nat → Int64)) (p0 : Int32) : Option (Int32 × (Nat → Int32) × Int32 × Int32 × Int32 × (Nat → Int32) × (Nat → Int32) × Int32 × Int32 × Int32 × (Nat → Int32) × (Nat → Int32) × (Nat → Int32) × (Nat → Int64)) :=
  (f_X_find T_count nT_heads T_heads nT_places T_places nT_withins T_withins S_count S_premises S_premiseCounts S_conclusions M_images F_shape F_match F_premise F_seen F_waiting H_kind H_subject H_count H_statementRow H_firstRow H_secondRow p0).bind fun r1 =>
  if r1.1 = 0 then
    gd (ixb (0 : Int32) 1) <| nm (vp_updL O_out (0 : Int32).toNatClampNeg r1.2.1.toInt64) fun g4 =>
    some ((0 : Int32), r1.2.2.1, r1.2.2.2.1, r1.2.2.2.2.1, r1.2.2.2.2.2.1, r1.2.2.2.2.2.2.1, r1.2.2.2.2.2.2.2.1, r1.2.2.2.2.2.2.2.2.1, r1.2.2.2.2.2.2.2.2.2.1, r1.2.2.2.2.2.2.2.2.2.2.1, r1.2.2.2.2.2.2.2.2.2.2.2.1, r1.2.2.2.2.2.2.2.2.2.2.2.2.1, r1.2.2.2.2.2.2.2.2.2.2.2.2.2, g4)
  else
    if r1.1 = 1 then some ((1 : Int32), r1.2.2.1, r1.2.2.2.1, r1.2.2.2.2.1, r1.2.2.2.2.2.1, r1.2.2.2.2.2.2.1, r1.2.2.2.2.2.2.2.1, r1.2.2.2.2.2.2.2.2.1, r1.2.2.2.2.2.2.2.2.2.1, r1.2.2.2.2.2.2.2.2.2.2.1, r1.2.2.2.2.2.2.2.2.2.2.2.1, r1.2.2.2.2.2.2.2.2.2.2.2.2.1, r1.2.2.2.2.2.2.2.2.2.2.2.2.2, O_out)
    else
    none
abbrev rm_L_find : Room := { frames := 7, cells := 1, slots := 6, locals := 169 }
set_option maxHeartbeats 4000000 in
set_option maxRecDepth 100000 in
theorem c_L_find (l : Launch) (D : va_G) (cI cJ cZ : ClassId) (aX aX_arities aT aT_heads aT_places aT_olders aT_sizes aT_withins aT_newest aS aS_premises aS_premiseCounts aS_conclusions aS_order aM aM_images aM_path aF aF_seen aF_waiting aE aH aH_statementRow aH_firstRow aH_secondRow aO_out : Nat) (sz : Nat) (X_namesUsed : Int32) (T_count : Int32) (nT_heads : Nat) (T_heads : (Nat → Int32)) (nT_places : Nat) (T_places : (Nat → Int32)) (nT_withins : Nat) (T_withins : (Nat → Int64)) (S_count : Int32) (S_premises : (Nat → Int32)) (S_premiseCounts : (Nat → Int32)) (S_conclusions : (Nat → Int32)) (M_images : (Nat → Int32)) (F_shape : Int32) (F_match : Int32) (F_premise : Int32) (F_seen : (Nat → Int32)) (F_waiting : (Nat → Int32)) (H_kind : Int32) (H_subject : Int32) (H_count : Int32) (H_statementRow : (Nat → Int32)) (H_firstRow : (Nat → Int32)) (H_secondRow : (Nat → Int32)) (O_out : (Nat → Int64)) (p0 : Int32) (aK : Nat) (cK : Cell) (hst : l.stackTraces = false) (o : Int32 × (Nat → Int32) × Int32 × Int32 × Int32 × (Nat → Int32) × (Nat → Int32) × Int32 × Int32 × Int32 × (Nat → Int32) × (Nat → Int32) × (Nat → Int32) × (Nat → Int64)) (hf : f_L_find T_count nT_heads T_heads nT_places T_places nT_withins T_withins S_count S_premises S_premiseCounts S_conclusions M_images F_shape F_match F_premise F_seen F_waiting H_kind H_subject H_count H_statementRow H_firstRow H_secondRow O_out p0 = some o) : Met l y_L_find (ws_L_find) rm_L_find (LPc D vwCl cI cJ cZ aK cK [.ref aX, .int p0, .ref aO_out] (wv_99 cI cJ cZ aX aX_arities aT aT_heads aT_places aT_olders aT_sizes aT_withins aT_newest aS aS_premises aS_premiseCounts aS_conclusions aS_order aM aM_images aM_path aF aF_seen aF_waiting aE aH aH_statementRow aH_firstRow aH_secondRow aO_out X_namesUsed T_count nT_heads T_heads nT_places T_places nT_withins T_withins S_count S_premises S_premiseCounts S_conclusions M_images F_shape F_match F_premise F_seen F_waiting H_kind H_subject H_count H_statementRow H_firstRow H_secondRow O_out) sz) (WQx D vwCl (some (.int o.1)) (fun as => (wv_99 cI cJ cZ aX aX_arities aT aT_heads aT_places aT_olders aT_sizes aT_withins aT_newest aS aS_premises aS_premiseCounts aS_conclusions aS_order aM aM_images aM_path aF aF_seen aF_waiting aE aH aH_statementRow aH_firstRow aH_secondRow aO_out X_namesUsed T_count nT_heads T_heads nT_places T_places nT_withins T_withins S_count S_premises S_premiseCounts S_conclusions o.2.1 o.2.2.1 o.2.2.2.1 o.2.2.2.2.1 o.2.2.2.2.2.1 o.2.2.2.2.2.2.1 o.2.2.2.2.2.2.2.1 o.2.2.2.2.2.2.2.2.1 o.2.2.2.2.2.2.2.2.2.1 o.2.2.2.2.2.2.2.2.2.2.1 o.2.2.2.2.2.2.2.2.2.2.2.1 o.2.2.2.2.2.2.2.2.2.2.2.2.1 o.2.2.2.2.2.2.2.2.2.2.2.2.2)) (va_A (wv_99 cI cJ cZ aX aX_arities aT aT_heads aT_places aT_olders aT_sizes aT_withins aT_newest aS aS_premises aS_premiseCounts aS_conclusions aS_order aM aM_images aM_path aF aF_seen aF_waiting aE aH aH_statementRow aH_firstRow aH_secondRow aO_out X_namesUsed T_count nT_heads T_heads nT_places T_places nT_withins T_withins S_count S_premises S_premiseCounts S_conclusions M_images F_shape F_match F_premise F_seen F_waiting H_kind H_subject H_count H_statementRow H_firstRow H_secondRow O_out) sz)) 1 6 (va_A (wv_99 cI cJ cZ aX aX_arities aT aT_heads aT_places aT_olders aT_sizes aT_withins aT_newest aS aS_premises aS_premiseCounts aS_conclusions aS_order aM aM_images aM_path aF aF_seen aF_waiting aE aH aH_statementRow aH_firstRow aH_secondRow aO_out X_namesUsed T_count nT_heads T_heads nT_places T_places nT_withins T_withins S_count S_premises S_premiseCounts S_conclusions M_images F_shape F_match F_premise F_seen F_waiting H_kind H_subject H_count H_statementRow H_firstRow H_secondRow O_out) sz) := by
  refine va_MetW (cc := b_L_find) (maxL := 4) (ret := (some .int)) (hh := [(0, 9, 12, 13)]) (by decide) rfl ?_
  intro p e s m args below meth c s₁ B hml hv
  obtain ⟨⟨rfl, rfl, hP, hK, hD0, ⟨hcS0, hE, hSR⟩, hnA⟩, hNC⟩ := hv
  have hx := B.exec
  have hb := B.bytes
  have hr := B.returns
  have hts0 := atoms_spec (ws := (ws_L_find)) B.pre
  have htab := tab_of B (hts0 _ List.mem_cons_self)
  have hts : ∀ w ∈ BG, w.before _ s = true := fun w h => hts0 w (List.mem_cons_of_mem _ h)
  have hown : s.vm.findClass "ShapeSearchLaw" = some m.cls := findClass_of_methodNamed B.named
  have hlocks := B.notSynchronized
  obtain ⟨tx0, L0, te0, tf0, htab⟩ := tab_cons htab
  have te9 := tab_nil htab
  have ht9 : c.exceptionTable.toList = [tx0] := by rw [te0, te9]
  have hD := hD0.self (sz := s.heap.size)
  have hA : ∀ q : Nat, s.heap.size ≤ q → va_A (wv_99 cI cJ cZ aX aX_arities aT aT_heads aT_places aT_olders aT_sizes aT_withins aT_newest aS aS_premises aS_premiseCounts aS_conclusions aS_order aM aM_images aM_path aF aF_seen aF_waiting aE aH aH_statementRow aH_firstRow aH_secondRow aO_out X_namesUsed T_count nT_heads T_heads nT_places T_places nT_withins T_withins S_count S_premises S_premiseCounts S_conclusions M_images F_shape F_match F_premise F_seen F_waiting H_kind H_subject H_count H_statementRow H_firstRow H_secondRow O_out) s.heap.size q := fun q h => Or.inr h
  have hS : va_S (va_A (wv_99 cI cJ cZ aX aX_arities aT aT_heads aT_places aT_olders aT_sizes aT_withins aT_newest aS aS_premises aS_premiseCounts aS_conclusions aS_order aM aM_images aM_path aF aF_seen aF_waiting aE aH aH_statementRow aH_firstRow aH_secondRow aO_out X_namesUsed T_count nT_heads T_heads nT_places T_places nT_withins T_withins S_count S_premises S_premiseCounts S_conclusions M_images F_shape F_match F_premise F_seen F_waiting H_kind H_subject H_count H_statementRow H_firstRow H_secondRow O_out) s.heap.size) s.heap s.heap [] := va_S.rf
  generalize va_A (wv_99 cI cJ cZ aX aX_arities aT aT_heads aT_places aT_olders aT_sizes aT_withins aT_newest aS aS_premises aS_premiseCounts aS_conclusions aS_order aM aM_images aM_path aF aF_seen aF_waiting aE aH aH_statementRow aH_firstRow aH_secondRow aO_out X_namesUsed T_count nT_heads T_heads nT_places T_places nT_withins T_withins S_count S_premises S_premiseCounts S_conclusions M_images F_shape F_match F_premise F_seen F_waiting H_kind H_subject H_count H_statementRow H_firstRow H_secondRow O_out) s.heap.size = A at hD hA hS hnA ⊢
  have hl := lv_entry ([.ref aX, .int p0, .ref aO_out]) (n := 4) (Nat.le_of_ble_eq_true rfl)
  rw [lg_entry_eq]
  generalize (lg_sl ([.ref aX, .int p0, .ref aO_out]) ++ List.replicate (4 - (lg_sl ([.ref aX, .int p0, .ref aO_out])).length) Slot.unset).toArray = ls at hl ⊢
  have hl : lv_has ls 4 [(0, .ref aX), (1, .int p0), (2, .ref aO_out)] := hl
  rw [f_L_find] at hf
  refine lv_aload_n hx hb d_L_find_0 rfl (lv_at hl 2 rfl) ?_
  refine lv_iconst (v := 0) hx hb d_L_find_1 (by decide) ?_
  refine lv_aload_n hx hb d_L_find_2 rfl (lv_at hl 0 rfl) ?_
  refine lv_iload_n hx hb d_L_find_3 rfl (lv_at hl 1 rfl) ?_
  obtain ⟨r1, hr1, hf⟩ := of_bd hf
  refine x_call (ws' := fun as2 => (wv_99 cI cJ cZ aX aX_arities aT aT_heads aT_places aT_olders aT_sizes aT_withins aT_newest aS aS_premises aS_premiseCounts aS_conclusions aS_order aM aM_images aM_path aF aF_seen aF_waiting aE aH aH_statementRow aH_firstRow aH_secondRow aO_out X_namesUsed T_count nT_heads T_heads nT_places T_places nT_withins T_withins S_count S_premises S_premiseCounts S_conclusions r1.2.2.1 r1.2.2.2.1 r1.2.2.2.2.1 r1.2.2.2.2.2.1 r1.2.2.2.2.2.2.1 r1.2.2.2.2.2.2.2.1 r1.2.2.2.2.2.2.2.2.1 r1.2.2.2.2.2.2.2.2.2.1 r1.2.2.2.2.2.2.2.2.2.2.1 r1.2.2.2.2.2.2.2.2.2.2.2.1 r1.2.2.2.2.2.2.2.2.2.2.2.2.1 r1.2.2.2.2.2.2.2.2.2.2.2.2.2 O_out)) (xrunV (As := [.int p0]) (rest := [.int (0 : Int32), .ref aO_out]) ⟨hx, hb, hml, hown, hts⟩ (c_X_find l D cI cJ cZ aX aX_arities aT aT_heads aT_places aT_olders aT_sizes aT_withins aT_newest aS aS_premises aS_premiseCounts aS_conclusions aS_order aM aM_images aM_path aF aF_seen aF_waiting aE aH aH_statementRow aH_firstRow aH_secondRow _ X_namesUsed T_count nT_heads T_heads nT_places T_places nT_withins T_withins S_count S_premises S_premiseCounts S_conclusions M_images F_shape F_match F_premise F_seen F_waiting H_kind H_subject H_count H_statementRow H_firstRow H_secondRow p0 aK cK hst r1 hr1) (bigV 1 hts k3_58 k3_59 k3_60 k1_1 k3_61 rfl rfl hd_X_find ⟨Nat.le_of_ble_eq_true rfl, Nat.le_of_ble_eq_true rfl⟩) (x_preV hK hP hD hE hSR (keepS hS hcS0 hnA) hnA [0, 1, 2, 3, 4, 5, 6, 7, 8, 9, 10, 11, 12, 13, 14, 15, 16, 17] rfl (by decide) rfl 0 rfl rfl rfl) rfl rfl hl.1 rfl (lv_room (Nat.le_of_ble_eq_true rfl)) d_L_find_4 ⟨(Nat.le_of_ble_eq_true rfl), (Nat.le_of_ble_eq_true rfl)⟩) hP hD hS hA [0, 1, 2, 3, 4, 5, 6, 7, 8, 9, 10, 11, 12, 13, 14, 15, 16, 17] [18] rfl rfl (by decide) (by decide) [1, 2, 3, 4, 5, 6, 7, 8, 9, 10, 11, 12, 13, 14, 15, 16, 17, 18, 0] (by decide) (fun _ => rfl) (fun hz as2 H locs hP hD hS => ?_) (fun hz as2 H locs q9 ce9 hP hD hS hc1 hc2 hc3 => ?_)
  · have hf := ite_t hz hf
    refine W.widen (k := 1) (n := 6) (by omega) (by omega) ?_
    refine lv_i2l (v := r1.2.1.toInt64) hx hb d_L_find_7 rfl ?_
    obtain ⟨h3, hf⟩ := of_gd hf
    obtain ⟨g4, eg4⟩ : ∃ y : Nat → Int64, y = vp_updL O_out (0 : Int32).toNatClampNeg r1.2.1.toInt64 := ⟨_, rfl⟩
    have hf := of_nm eg4 hf
    refine va_last hx hb hK.1 hP hD hS 18 1 rfl rfl (ixb_in h3) d_L_find_8 (fun H locs hP hD hS => ?_)
    rw [← eg4] at hP hD
    have hP : va_P D vwCl (wv_99 cI cJ cZ aX aX_arities aT aT_heads aT_places aT_olders aT_sizes aT_withins aT_newest aS aS_premises aS_premiseCounts aS_conclusions aS_order aM aM_images aM_path aF aF_seen aF_waiting aE aH aH_statementRow aH_firstRow aH_secondRow aO_out X_namesUsed T_count nT_heads T_heads nT_places T_places nT_withins T_withins S_count S_premises S_premiseCounts S_conclusions r1.2.2.1 r1.2.2.2.1 r1.2.2.2.2.1 r1.2.2.2.2.2.1 r1.2.2.2.2.2.2.1 r1.2.2.2.2.2.2.2.1 r1.2.2.2.2.2.2.2.2.1 r1.2.2.2.2.2.2.2.2.2.1 r1.2.2.2.2.2.2.2.2.2.2.1 r1.2.2.2.2.2.2.2.2.2.2.2.1 r1.2.2.2.2.2.2.2.2.2.2.2.2.1 r1.2.2.2.2.2.2.2.2.2.2.2.2.2 g4) H := hP
    have hD : va_D A (wv_99 cI cJ cZ aX aX_arities aT aT_heads aT_places aT_olders aT_sizes aT_withins aT_newest aS aS_premises aS_premiseCounts aS_conclusions aS_order aM aM_images aM_path aF aF_seen aF_waiting aE aH aH_statementRow aH_firstRow aH_secondRow aO_out X_namesUsed T_count nT_heads T_heads nT_places T_places nT_withins T_withins S_count S_premises S_premiseCounts S_conclusions r1.2.2.1 r1.2.2.2.1 r1.2.2.2.2.1 r1.2.2.2.2.2.1 r1.2.2.2.2.2.2.1 r1.2.2.2.2.2.2.2.1 r1.2.2.2.2.2.2.2.2.1 r1.2.2.2.2.2.2.2.2.2.1 r1.2.2.2.2.2.2.2.2.2.2.1 r1.2.2.2.2.2.2.2.2.2.2.2.1 r1.2.2.2.2.2.2.2.2.2.2.2.2.1 r1.2.2.2.2.2.2.2.2.2.2.2.2.2 g4) := hD
    refine lv_goto (tgt := 15) hx hb d_L_find_9 (by decide) ?_
    refine lv_iconst (v := 0) hx hb d_L_find_15 (by decide) ?_
    obtain rfl := Option.some.inj hf
    refine W.widen (k := 1) (n := 6) (by omega) (by omega) ?_
    exact W.iret (v := (0 : Int32)) hx hb hr (fun t ht hW => ⟨rfl, fun _ => 0, by rw [ht]; exact hP, hD, hS.F ht⟩) hS.2.2 d_L_find_16
  · have hf := ite_f hz hf
    by_cases z0 : r1.1 = 1
    · have hf := ite_t z0 hf
      obtain rfl := Option.some.inj hf
      rw [z0] at hc3
      refine wx_catch [] tx0 [] ht9 (fun pl hpl y hy => by cases hy) (tab_cov tf0 (by decide) (by decide)) (fun pl hpl => row_yes hpl hown (by rw [(tab_pc tf0).2]; decide) (by rw [(tab_pc tf0).2]; exact hts _ k2_140) (hE s (State.WarmedH.refl s) hcS0 #[] (.castable (exn 1) (exn 1)) (by decide)) hc3) hc1 hc2 hc3 ?_
      rw [(tab_pc tf0).1]
      refine lv_astore_n (lv' := [(3, .ref q9), (0, .ref aX), (1, .int p0), (2, .ref aO_out)]) hx hb d_L_find_12 rfl hl (by decide) rfl (fun ls hl => ?_)
      refine lv_iconst (v := 1) hx hb d_L_find_13 (by decide) ?_
      refine W.widen (k := 1) (n := 6) (by omega) (by omega) ?_
      exact W.iret (v := 1) hx hb hr (fun t ht hW => ⟨rfl, fun _ => 0, by rw [ht]; exact hP, hD, hS.F ht⟩) hS.2.2 d_L_find_14
    have hf := ite_f z0 hf
    cases hf
def f_L_fit (T_count : Int32) (nT_heads : Nat) (T_heads : (Nat → Int32)) (nT_places : Nat) (T_places : (Nat → Int32)) (nT_withins : Nat) (T_withins : (Nat → Int64)) (S_count : Int32) (S_premises : (Nat → Int32)) (S_premiseCounts : (Nat → Int32)) (S_conclusions : (Nat → Int32)) (S_order : (Nat → Int32)) (M_images : (Nat → Int32)) (H_kind : Int32) (H_subject : Int32) (H_count : Int32) (H_statementRow : (Nat → Int32)) (H_firstRow : (Nat → Int32)) (H_secondRow : (Nat → Int32)) (O_out : (Nat → Int64)) (p0 : Int32) : Option (Int32 × (Nat → Int32) × (Nat → Int32) × Int32 × Int32 × Int32 × (Nat → Int32) × (Nat → Int32) × (Nat → Int32) × (Nat → Int64)) :=
  (f_X_fit T_count nT_heads T_heads nT_places T_places nT_withins T_withins S_count S_premises S_premiseCounts S_conclusions S_order M_images H_kind H_subject H_count H_statementRow H_firstRow H_secondRow p0).bind fun r1 =>
  if r1.1 = 0 then
    gd (ixb (0 : Int32) 1) <| nm (vp_updL O_out (0 : Int32).toNatClampNeg r1.2.1.toInt64) fun g4 =>
    some ((0 : Int32), r1.2.2.1, r1.2.2.2.1, r1.2.2.2.2.1, r1.2.2.2.2.2.1, r1.2.2.2.2.2.2.1, r1.2.2.2.2.2.2.2.1, r1.2.2.2.2.2.2.2.2.1, r1.2.2.2.2.2.2.2.2.2, g4)
  else
    if r1.1 = 1 then some ((1 : Int32), r1.2.2.1, r1.2.2.2.1, r1.2.2.2.2.1, r1.2.2.2.2.2.1, r1.2.2.2.2.2.2.1, r1.2.2.2.2.2.2.2.1, r1.2.2.2.2.2.2.2.2.1, r1.2.2.2.2.2.2.2.2.2, O_out)
    else
    if r1.1 = 2 then some ((2 : Int32), r1.2.2.1, r1.2.2.2.1, r1.2.2.2.2.1, r1.2.2.2.2.2.1, r1.2.2.2.2.2.2.1, r1.2.2.2.2.2.2.2.1, r1.2.2.2.2.2.2.2.2.1, r1.2.2.2.2.2.2.2.2.2, O_out)
    else
    none
abbrev rm_L_fit : Room := { frames := 8, cells := 1, slots := 6, locals := 134 }
set_option maxHeartbeats 4000000 in
set_option maxRecDepth 100000 in
theorem c_L_fit (l : Launch) (D : va_G) (cI cJ cZ : ClassId) (aX aX_arities aT aT_heads aT_places aT_olders aT_sizes aT_withins aT_newest aS aS_premises aS_premiseCounts aS_conclusions aS_order aM aM_images aM_path aF aE aH aH_statementRow aH_firstRow aH_secondRow aO_out : Nat) (sz : Nat) (X_namesUsed : Int32) (T_count : Int32) (nT_heads : Nat) (T_heads : (Nat → Int32)) (nT_places : Nat) (T_places : (Nat → Int32)) (nT_withins : Nat) (T_withins : (Nat → Int64)) (S_count : Int32) (S_premises : (Nat → Int32)) (S_premiseCounts : (Nat → Int32)) (S_conclusions : (Nat → Int32)) (S_order : (Nat → Int32)) (M_images : (Nat → Int32)) (H_kind : Int32) (H_subject : Int32) (H_count : Int32) (H_statementRow : (Nat → Int32)) (H_firstRow : (Nat → Int32)) (H_secondRow : (Nat → Int32)) (O_out : (Nat → Int64)) (p0 : Int32) (aK : Nat) (cK : Cell) (hst : l.stackTraces = false) (o : Int32 × (Nat → Int32) × (Nat → Int32) × Int32 × Int32 × Int32 × (Nat → Int32) × (Nat → Int32) × (Nat → Int32) × (Nat → Int64)) (hf : f_L_fit T_count nT_heads T_heads nT_places T_places nT_withins T_withins S_count S_premises S_premiseCounts S_conclusions S_order M_images H_kind H_subject H_count H_statementRow H_firstRow H_secondRow O_out p0 = some o) : Met l y_L_fit (ws_L_fit) rm_L_fit (LPc D vwCl cI cJ cZ aK cK [.ref aX, .int p0, .ref aO_out] (wv_100 cI cJ cZ aX aX_arities aT aT_heads aT_places aT_olders aT_sizes aT_withins aT_newest aS aS_premises aS_premiseCounts aS_conclusions aS_order aM aM_images aM_path aF aE aH aH_statementRow aH_firstRow aH_secondRow aO_out X_namesUsed T_count nT_heads T_heads nT_places T_places nT_withins T_withins S_count S_premises S_premiseCounts S_conclusions S_order M_images H_kind H_subject H_count H_statementRow H_firstRow H_secondRow O_out) sz) (WQx D vwCl (some (.int o.1)) (fun as => (wv_100 cI cJ cZ aX aX_arities aT aT_heads aT_places aT_olders aT_sizes aT_withins aT_newest aS aS_premises aS_premiseCounts aS_conclusions aS_order aM aM_images aM_path aF aE aH aH_statementRow aH_firstRow aH_secondRow aO_out X_namesUsed T_count nT_heads T_heads nT_places T_places nT_withins T_withins S_count S_premises S_premiseCounts S_conclusions o.2.1 o.2.2.1 o.2.2.2.1 o.2.2.2.2.1 o.2.2.2.2.2.1 o.2.2.2.2.2.2.1 o.2.2.2.2.2.2.2.1 o.2.2.2.2.2.2.2.2.1 o.2.2.2.2.2.2.2.2.2)) (va_A (wv_100 cI cJ cZ aX aX_arities aT aT_heads aT_places aT_olders aT_sizes aT_withins aT_newest aS aS_premises aS_premiseCounts aS_conclusions aS_order aM aM_images aM_path aF aE aH aH_statementRow aH_firstRow aH_secondRow aO_out X_namesUsed T_count nT_heads T_heads nT_places T_places nT_withins T_withins S_count S_premises S_premiseCounts S_conclusions S_order M_images H_kind H_subject H_count H_statementRow H_firstRow H_secondRow O_out) sz)) 1 6 (va_A (wv_100 cI cJ cZ aX aX_arities aT aT_heads aT_places aT_olders aT_sizes aT_withins aT_newest aS aS_premises aS_premiseCounts aS_conclusions aS_order aM aM_images aM_path aF aE aH aH_statementRow aH_firstRow aH_secondRow aO_out X_namesUsed T_count nT_heads T_heads nT_places T_places nT_withins T_withins S_count S_premises S_premiseCounts S_conclusions S_order M_images H_kind H_subject H_count H_statementRow H_firstRow H_secondRow O_out) sz) := by
  refine va_MetW (cc := b_L_fit) (maxL := 4) (ret := (some .int)) (hh := [(0, 9, 12, 13), (0, 9, 15, 15)]) (by decide) rfl ?_
  intro p e s m args below meth c s₁ B hml hv
  obtain ⟨⟨rfl, rfl, hP, hK, hD0, ⟨hcS0, hE, hSR⟩, hnA⟩, hNC⟩ := hv
  have hx := B.exec
  have hb := B.bytes
  have hr := B.returns
  have hts0 := atoms_spec (ws := (ws_L_fit)) B.pre
  have htab := tab_of B (hts0 _ List.mem_cons_self)
  have hts : ∀ w ∈ BG, w.before _ s = true := fun w h => hts0 w (List.mem_cons_of_mem _ h)
  have hown : s.vm.findClass "ShapeSearchLaw" = some m.cls := findClass_of_methodNamed B.named
  have hlocks := B.notSynchronized
  obtain ⟨tx0, L0, te0, tf0, htab⟩ := tab_cons htab
  obtain ⟨tx1, L1, te1, tf1, htab⟩ := tab_cons htab
  have te9 := tab_nil htab
  have ht9 : c.exceptionTable.toList = [tx0, tx1] := by rw [te0, te1, te9]
  have hD := hD0.self (sz := s.heap.size)
  have hA : ∀ q : Nat, s.heap.size ≤ q → va_A (wv_100 cI cJ cZ aX aX_arities aT aT_heads aT_places aT_olders aT_sizes aT_withins aT_newest aS aS_premises aS_premiseCounts aS_conclusions aS_order aM aM_images aM_path aF aE aH aH_statementRow aH_firstRow aH_secondRow aO_out X_namesUsed T_count nT_heads T_heads nT_places T_places nT_withins T_withins S_count S_premises S_premiseCounts S_conclusions S_order M_images H_kind H_subject H_count H_statementRow H_firstRow H_secondRow O_out) s.heap.size q := fun q h => Or.inr h
  have hS : va_S (va_A (wv_100 cI cJ cZ aX aX_arities aT aT_heads aT_places aT_olders aT_sizes aT_withins aT_newest aS aS_premises aS_premiseCounts aS_conclusions aS_order aM aM_images aM_path aF aE aH aH_statementRow aH_firstRow aH_secondRow aO_out X_namesUsed T_count nT_heads T_heads nT_places T_places nT_withins T_withins S_count S_premises S_premiseCounts S_conclusions S_order M_images H_kind H_subject H_count H_statementRow H_firstRow H_secondRow O_out) s.heap.size) s.heap s.heap [] := va_S.rf
  generalize va_A (wv_100 cI cJ cZ aX aX_arities aT aT_heads aT_places aT_olders aT_sizes aT_withins aT_newest aS aS_premises aS_premiseCounts aS_conclusions aS_order aM aM_images aM_path aF aE aH aH_statementRow aH_firstRow aH_secondRow aO_out X_namesUsed T_count nT_heads T_heads nT_places T_places nT_withins T_withins S_count S_premises S_premiseCounts S_conclusions S_order M_images H_kind H_subject H_count H_statementRow H_firstRow H_secondRow O_out) s.heap.size = A at hD hA hS hnA ⊢
  have hl := lv_entry ([.ref aX, .int p0, .ref aO_out]) (n := 4) (Nat.le_of_ble_eq_true rfl)
  rw [lg_entry_eq]
  generalize (lg_sl ([.ref aX, .int p0, .ref aO_out]) ++ List.replicate (4 - (lg_sl ([.ref aX, .int p0, .ref aO_out])).length) Slot.unset).toArray = ls at hl ⊢
  have hl : lv_has ls 4 [(0, .ref aX), (1, .int p0), (2, .ref aO_out)] := hl
  rw [f_L_fit] at hf
  refine lv_aload_n hx hb d_L_fit_0 rfl (lv_at hl 2 rfl) ?_
  refine lv_iconst (v := 0) hx hb d_L_fit_1 (by decide) ?_
  refine lv_aload_n hx hb d_L_fit_2 rfl (lv_at hl 0 rfl) ?_
  refine lv_iload_n hx hb d_L_fit_3 rfl (lv_at hl 1 rfl) ?_
  obtain ⟨r1, hr1, hf⟩ := of_bd hf
  refine x_call (ws' := fun as2 => (wv_100 cI cJ cZ aX aX_arities aT aT_heads aT_places aT_olders aT_sizes aT_withins aT_newest aS aS_premises aS_premiseCounts aS_conclusions aS_order aM aM_images aM_path aF aE aH aH_statementRow aH_firstRow aH_secondRow aO_out X_namesUsed T_count nT_heads T_heads nT_places T_places nT_withins T_withins S_count S_premises S_premiseCounts S_conclusions r1.2.2.1 r1.2.2.2.1 r1.2.2.2.2.1 r1.2.2.2.2.2.1 r1.2.2.2.2.2.2.1 r1.2.2.2.2.2.2.2.1 r1.2.2.2.2.2.2.2.2.1 r1.2.2.2.2.2.2.2.2.2 O_out)) (xrunV (As := [.int p0]) (rest := [.int (0 : Int32), .ref aO_out]) ⟨hx, hb, hml, hown, hts⟩ (c_X_fit l D cI cJ cZ aX aX_arities aT aT_heads aT_places aT_olders aT_sizes aT_withins aT_newest aS aS_premises aS_premiseCounts aS_conclusions aS_order aM aM_images aM_path aF aE aH aH_statementRow aH_firstRow aH_secondRow _ X_namesUsed T_count nT_heads T_heads nT_places T_places nT_withins T_withins S_count S_premises S_premiseCounts S_conclusions S_order M_images H_kind H_subject H_count H_statementRow H_firstRow H_secondRow p0 aK cK hst r1 hr1) (bigV 1 hts k3_111 k3_112 k3_113 k1_1 k3_114 rfl rfl hd_X_fit ⟨Nat.le_of_ble_eq_true rfl, Nat.le_of_ble_eq_true rfl⟩) (x_preV hK hP hD hE hSR (keepS hS hcS0 hnA) hnA [0, 1, 2, 3, 4, 5, 6, 7, 8, 9, 10, 11, 12, 13, 14, 15] rfl (by decide) rfl 0 rfl rfl rfl) rfl rfl hl.1 rfl (lv_room (Nat.le_of_ble_eq_true rfl)) d_L_fit_4 ⟨(Nat.le_of_ble_eq_true rfl), (Nat.le_of_ble_eq_true rfl)⟩) hP hD hS hA [0, 1, 2, 3, 4, 5, 6, 7, 8, 9, 10, 11, 12, 13, 14, 15] [16] rfl rfl (by decide) (by decide) [1, 2, 3, 4, 5, 6, 7, 8, 9, 10, 11, 12, 13, 14, 15, 16, 0] (by decide) (fun _ => rfl) (fun hz as2 H locs hP hD hS => ?_) (fun hz as2 H locs q9 ce9 hP hD hS hc1 hc2 hc3 => ?_)
  · have hf := ite_t hz hf
    refine W.widen (k := 1) (n := 6) (by omega) (by omega) ?_
    refine lv_i2l (v := r1.2.1.toInt64) hx hb d_L_fit_7 rfl ?_
    obtain ⟨h3, hf⟩ := of_gd hf
    obtain ⟨g4, eg4⟩ : ∃ y : Nat → Int64, y = vp_updL O_out (0 : Int32).toNatClampNeg r1.2.1.toInt64 := ⟨_, rfl⟩
    have hf := of_nm eg4 hf
    refine va_last hx hb hK.1 hP hD hS 16 1 rfl rfl (ixb_in h3) d_L_fit_8 (fun H locs hP hD hS => ?_)
    rw [← eg4] at hP hD
    have hP : va_P D vwCl (wv_100 cI cJ cZ aX aX_arities aT aT_heads aT_places aT_olders aT_sizes aT_withins aT_newest aS aS_premises aS_premiseCounts aS_conclusions aS_order aM aM_images aM_path aF aE aH aH_statementRow aH_firstRow aH_secondRow aO_out X_namesUsed T_count nT_heads T_heads nT_places T_places nT_withins T_withins S_count S_premises S_premiseCounts S_conclusions r1.2.2.1 r1.2.2.2.1 r1.2.2.2.2.1 r1.2.2.2.2.2.1 r1.2.2.2.2.2.2.1 r1.2.2.2.2.2.2.2.1 r1.2.2.2.2.2.2.2.2.1 r1.2.2.2.2.2.2.2.2.2 g4) H := hP
    have hD : va_D A (wv_100 cI cJ cZ aX aX_arities aT aT_heads aT_places aT_olders aT_sizes aT_withins aT_newest aS aS_premises aS_premiseCounts aS_conclusions aS_order aM aM_images aM_path aF aE aH aH_statementRow aH_firstRow aH_secondRow aO_out X_namesUsed T_count nT_heads T_heads nT_places T_places nT_withins T_withins S_count S_premises S_premiseCounts S_conclusions r1.2.2.1 r1.2.2.2.1 r1.2.2.2.2.1 r1.2.2.2.2.2.1 r1.2.2.2.2.2.2.1 r1.2.2.2.2.2.2.2.1 r1.2.2.2.2.2.2.2.2.1 r1.2.2.2.2.2.2.2.2.2 g4) := hD
    refine lv_goto (tgt := 18) hx hb d_L_fit_9 (by decide) ?_
    refine lv_iconst (v := 0) hx hb d_L_fit_18 (by decide) ?_
    obtain rfl := Option.some.inj hf
    refine W.widen (k := 1) (n := 6) (by omega) (by omega) ?_
    exact W.iret (v := (0 : Int32)) hx hb hr (fun t ht hW => ⟨rfl, fun _ => 0, by rw [ht]; exact hP, hD, hS.F ht⟩) hS.2.2 d_L_fit_19
  · have hf := ite_f hz hf
    by_cases z0 : r1.1 = 1
    · have hf := ite_t z0 hf
      obtain rfl := Option.some.inj hf
      rw [z0] at hc3
      refine wx_catch [] tx0 [tx1] ht9 (fun pl hpl y hy => by cases hy) (tab_cov tf0 (by decide) (by decide)) (fun pl hpl => row_yes hpl hown (by rw [(tab_pc tf0).2]; decide) (by rw [(tab_pc tf0).2]; exact hts _ k2_140) (hE s (State.WarmedH.refl s) hcS0 #[] (.castable (exn 1) (exn 1)) (by decide)) hc3) hc1 hc2 hc3 ?_
      rw [(tab_pc tf0).1]
      refine lv_astore_n (lv' := [(3, .ref q9), (0, .ref aX), (1, .int p0), (2, .ref aO_out)]) hx hb d_L_fit_12 rfl hl (by decide) rfl (fun ls hl => ?_)
      refine lv_iconst (v := 1) hx hb d_L_fit_13 (by decide) ?_
      refine W.widen (k := 1) (n := 6) (by omega) (by omega) ?_
      exact W.iret (v := 1) hx hb hr (fun t ht hW => ⟨rfl, fun _ => 0, by rw [ht]; exact hP, hD, hS.F ht⟩) hS.2.2 d_L_fit_14
    have hf := ite_f z0 hf
    by_cases z1 : r1.1 = 2
    · have hf := ite_t z1 hf
      obtain rfl := Option.some.inj hf
      rw [z1] at hc3
      refine wx_catch [tx0] tx1 [] ht9 (fun pl hpl => List.forall_mem_cons.mpr ⟨⟨tab_cov tf0 (by decide) (by decide), row_no hpl hown (by rw [(tab_pc tf0).2]; decide) (by rw [(tab_pc tf0).2]; exact hts _ k2_140) (hNC 2 1 (by decide) (by decide) (by decide)) hc3⟩, fun _ h => absurd h List.not_mem_nil⟩) (tab_cov tf1 (by decide) (by decide)) (fun pl hpl => row_yes hpl hown (by rw [(tab_pc tf1).2]; decide) (by rw [(tab_pc tf1).2]; exact hts _ k2_141) (hE s (State.WarmedH.refl s) hcS0 #[] (.castable (exn 2) (exn 2)) (by decide)) hc3) hc1 hc2 hc3 ?_
      rw [(tab_pc tf1).1]
      refine lv_astore_n (lv' := [(3, .ref q9), (0, .ref aX), (1, .int p0), (2, .ref aO_out)]) hx hb d_L_fit_15 rfl hl (by decide) rfl (fun ls hl => ?_)
      refine lv_iconst (v := 2) hx hb d_L_fit_16 (by decide) ?_
      refine W.widen (k := 1) (n := 6) (by omega) (by omega) ?_
      exact W.iret (v := 2) hx hb hr (fun t ht hW => ⟨rfl, fun _ => 0, by rw [ht]; exact hP, hD, hS.F ht⟩) hS.2.2 d_L_fit_17
    have hf := ite_f z1 hf
    cases hf
def f_L_rank (T_count : Int32) (nT_withins : Nat) (T_withins : (Nat → Int64)) (S_count : Int32) (S_premises : (Nat → Int32)) (S_premiseCounts : (Nat → Int32)) (S_conclusions : (Nat → Int32)) (H_kind : Int32) (H_subject : Int32) (H_count : Int32) (H_statementRow : (Nat → Int32)) (H_firstRow : (Nat → Int32)) (H_secondRow : (Nat → Int32)) (O_out : (Nat → Int64)) (p0 : Int32) : Option (Int32 × Int32 × Int32 × Int32 × (Nat → Int32) × (Nat → Int32) × (Nat → Int32) × (Nat → Int64)) :=
  (f_X_rank T_count nT_withins T_withins S_count S_premises S_premiseCounts S_conclusions H_kind H_subject H_count H_statementRow H_firstRow H_secondRow p0).bind fun r1 =>
  if r1.1 = 0 then
    gd (ixb (0 : Int32) 1) <| nm (vp_updL O_out (0 : Int32).toNatClampNeg r1.2.1.toInt64) fun g4 =>
    some ((0 : Int32), r1.2.2.1, r1.2.2.2.1, r1.2.2.2.2.1, r1.2.2.2.2.2.1, r1.2.2.2.2.2.2.1, r1.2.2.2.2.2.2.2, g4)
  else
    if r1.1 = 1 then some ((1 : Int32), r1.2.2.1, r1.2.2.2.1, r1.2.2.2.2.1, r1.2.2.2.2.2.1, r1.2.2.2.2.2.2.1, r1.2.2.2.2.2.2.2, O_out)
    else
    if r1.1 = 2 then some ((2 : Int32), r1.2.2.1, r1.2.2.2.1, r1.2.2.2.2.1, r1.2.2.2.2.2.1, r1.2.2.2.2.2.2.1, r1.2.2.2.2.2.2.2, O_out)
    else
    none
abbrev rm_L_rank : Room := { frames := 8, cells := 1, slots := 6, locals := 138 }
set_option maxHeartbeats 4000000 in
set_option maxRecDepth 100000 in
theorem c_L_rank (l : Launch) (D : va_G) (cI cJ cZ : ClassId) (aX aX_arities aT aT_heads aT_places aT_olders aT_sizes aT_withins aT_newest aS aS_premises aS_premiseCounts aS_conclusions aS_order aM aF aE aH aH_statementRow aH_firstRow aH_secondRow aO_out : Nat) (sz : Nat) (X_namesUsed : Int32) (T_count : Int32) (nT_withins : Nat) (T_withins : (Nat → Int64)) (S_count : Int32) (S_premises : (Nat → Int32)) (S_premiseCounts : (Nat → Int32)) (S_conclusions : (Nat → Int32)) (H_kind : Int32) (H_subject : Int32) (H_count : Int32) (H_statementRow : (Nat → Int32)) (H_firstRow : (Nat → Int32)) (H_secondRow : (Nat → Int32)) (O_out : (Nat → Int64)) (p0 : Int32) (aK : Nat) (cK : Cell) (hst : l.stackTraces = false) (o : Int32 × Int32 × Int32 × Int32 × (Nat → Int32) × (Nat → Int32) × (Nat → Int32) × (Nat → Int64)) (hf : f_L_rank T_count nT_withins T_withins S_count S_premises S_premiseCounts S_conclusions H_kind H_subject H_count H_statementRow H_firstRow H_secondRow O_out p0 = some o) : Met l y_L_rank (ws_L_rank) rm_L_rank (LPc D vwCl cI cJ cZ aK cK [.ref aX, .int p0, .ref aO_out] (wv_101 cI cJ cZ aX aX_arities aT aT_heads aT_places aT_olders aT_sizes aT_withins aT_newest aS aS_premises aS_premiseCounts aS_conclusions aS_order aM aF aE aH aH_statementRow aH_firstRow aH_secondRow aO_out X_namesUsed T_count nT_withins T_withins S_count S_premises S_premiseCounts S_conclusions H_kind H_subject H_count H_statementRow H_firstRow H_secondRow O_out) sz) (WQx D vwCl (some (.int o.1)) (fun as => (wv_101 cI cJ cZ aX aX_arities aT aT_heads aT_places aT_olders aT_sizes aT_withins aT_newest aS aS_premises aS_premiseCounts aS_conclusions aS_order aM aF aE aH aH_statementRow aH_firstRow aH_secondRow aO_out X_namesUsed T_count nT_withins T_withins S_count S_premises S_premiseCounts S_conclusions o.2.1 o.2.2.1 o.2.2.2.1 o.2.2.2.2.1 o.2.2.2.2.2.1 o.2.2.2.2.2.2.1 o.2.2.2.2.2.2.2)) (va_A (wv_101 cI cJ cZ aX aX_arities aT aT_heads aT_places aT_olders aT_sizes aT_withins aT_newest aS aS_premises aS_premiseCounts aS_conclusions aS_order aM aF aE aH aH_statementRow aH_firstRow aH_secondRow aO_out X_namesUsed T_count nT_withins T_withins S_count S_premises S_premiseCounts S_conclusions H_kind H_subject H_count H_statementRow H_firstRow H_secondRow O_out) sz)) 1 6 (va_A (wv_101 cI cJ cZ aX aX_arities aT aT_heads aT_places aT_olders aT_sizes aT_withins aT_newest aS aS_premises aS_premiseCounts aS_conclusions aS_order aM aF aE aH aH_statementRow aH_firstRow aH_secondRow aO_out X_namesUsed T_count nT_withins T_withins S_count S_premises S_premiseCounts S_conclusions H_kind H_subject H_count H_statementRow H_firstRow H_secondRow O_out) sz) := by
  refine va_MetW (cc := b_L_rank) (maxL := 4) (ret := (some .int)) (hh := [(0, 9, 12, 13), (0, 9, 15, 15)]) (by decide) rfl ?_
  intro p e s m args below meth c s₁ B hml hv
  obtain ⟨⟨rfl, rfl, hP, hK, hD0, ⟨hcS0, hE, hSR⟩, hnA⟩, hNC⟩ := hv
  have hx := B.exec
  have hb := B.bytes
  have hr := B.returns
  have hts0 := atoms_spec (ws := (ws_L_rank)) B.pre
  have htab := tab_of B (hts0 _ List.mem_cons_self)
  have hts : ∀ w ∈ BG, w.before _ s = true := fun w h => hts0 w (List.mem_cons_of_mem _ h)
  have hown : s.vm.findClass "ShapeSearchLaw" = some m.cls := findClass_of_methodNamed B.named
  have hlocks := B.notSynchronized
  obtain ⟨tx0, L0, te0, tf0, htab⟩ := tab_cons htab
  obtain ⟨tx1, L1, te1, tf1, htab⟩ := tab_cons htab
  have te9 := tab_nil htab
  have ht9 : c.exceptionTable.toList = [tx0, tx1] := by rw [te0, te1, te9]
  have hD := hD0.self (sz := s.heap.size)
  have hA : ∀ q : Nat, s.heap.size ≤ q → va_A (wv_101 cI cJ cZ aX aX_arities aT aT_heads aT_places aT_olders aT_sizes aT_withins aT_newest aS aS_premises aS_premiseCounts aS_conclusions aS_order aM aF aE aH aH_statementRow aH_firstRow aH_secondRow aO_out X_namesUsed T_count nT_withins T_withins S_count S_premises S_premiseCounts S_conclusions H_kind H_subject H_count H_statementRow H_firstRow H_secondRow O_out) s.heap.size q := fun q h => Or.inr h
  have hS : va_S (va_A (wv_101 cI cJ cZ aX aX_arities aT aT_heads aT_places aT_olders aT_sizes aT_withins aT_newest aS aS_premises aS_premiseCounts aS_conclusions aS_order aM aF aE aH aH_statementRow aH_firstRow aH_secondRow aO_out X_namesUsed T_count nT_withins T_withins S_count S_premises S_premiseCounts S_conclusions H_kind H_subject H_count H_statementRow H_firstRow H_secondRow O_out) s.heap.size) s.heap s.heap [] := va_S.rf
  generalize va_A (wv_101 cI cJ cZ aX aX_arities aT aT_heads aT_places aT_olders aT_sizes aT_withins aT_newest aS aS_premises aS_premiseCounts aS_conclusions aS_order aM aF aE aH aH_statementRow aH_firstRow aH_secondRow aO_out X_namesUsed T_count nT_withins T_withins S_count S_premises S_premiseCounts S_conclusions H_kind H_subject H_count H_statementRow H_firstRow H_secondRow O_out) s.heap.size = A at hD hA hS hnA ⊢
  have hl := lv_entry ([.ref aX, .int p0, .ref aO_out]) (n := 4) (Nat.le_of_ble_eq_true rfl)
  rw [lg_entry_eq]
  generalize (lg_sl ([.ref aX, .int p0, .ref aO_out]) ++ List.replicate (4 - (lg_sl ([.ref aX, .int p0, .ref aO_out])).length) Slot.unset).toArray = ls at hl ⊢
  have hl : lv_has ls 4 [(0, .ref aX), (1, .int p0), (2, .ref aO_out)] := hl
  rw [f_L_rank] at hf
  refine lv_aload_n hx hb d_L_rank_0 rfl (lv_at hl 2 rfl) ?_
  refine lv_iconst (v := 0) hx hb d_L_rank_1 (by decide) ?_
  refine lv_aload_n hx hb d_L_rank_2 rfl (lv_at hl 0 rfl) ?_
  refine lv_iload_n hx hb d_L_rank_3 rfl (lv_at hl 1 rfl) ?_
  obtain ⟨r1, hr1, hf⟩ := of_bd hf
  refine x_call (ws' := fun as2 => (wv_101 cI cJ cZ aX aX_arities aT aT_heads aT_places aT_olders aT_sizes aT_withins aT_newest aS aS_premises aS_premiseCounts aS_conclusions aS_order aM aF aE aH aH_statementRow aH_firstRow aH_secondRow aO_out X_namesUsed T_count nT_withins T_withins S_count S_premises S_premiseCounts S_conclusions r1.2.2.1 r1.2.2.2.1 r1.2.2.2.2.1 r1.2.2.2.2.2.1 r1.2.2.2.2.2.2.1 r1.2.2.2.2.2.2.2 O_out)) (xrunV (As := [.int p0]) (rest := [.int (0 : Int32), .ref aO_out]) ⟨hx, hb, hml, hown, hts⟩ (c_X_rank l D cI cJ cZ aX aX_arities aT aT_heads aT_places aT_olders aT_sizes aT_withins aT_newest aS aS_premises aS_premiseCounts aS_conclusions aS_order aM aF aE aH aH_statementRow aH_firstRow aH_secondRow _ X_namesUsed T_count nT_withins T_withins S_count S_premises S_premiseCounts S_conclusions H_kind H_subject H_count H_statementRow H_firstRow H_secondRow p0 aK cK hst r1 hr1) (bigV 1 hts k3_151 k3_152 k3_153 k1_1 k3_154 rfl rfl hd_X_rank ⟨Nat.le_of_ble_eq_true rfl, Nat.le_of_ble_eq_true rfl⟩) (x_preV hK hP hD hE hSR (keepS hS hcS0 hnA) hnA [0, 1, 2, 3, 4, 5, 6, 7, 8, 9, 10] rfl (by decide) rfl 0 rfl rfl rfl) rfl rfl hl.1 rfl (lv_room (Nat.le_of_ble_eq_true rfl)) d_L_rank_4 ⟨(Nat.le_of_ble_eq_true rfl), (Nat.le_of_ble_eq_true rfl)⟩) hP hD hS hA [0, 1, 2, 3, 4, 5, 6, 7, 8, 9, 10] [11] rfl rfl (by decide) (by decide) [1, 2, 3, 4, 5, 6, 7, 8, 9, 10, 11, 0] (by decide) (fun _ => rfl) (fun hz as2 H locs hP hD hS => ?_) (fun hz as2 H locs q9 ce9 hP hD hS hc1 hc2 hc3 => ?_)
  · have hf := ite_t hz hf
    refine W.widen (k := 1) (n := 6) (by omega) (by omega) ?_
    refine lv_i2l (v := r1.2.1.toInt64) hx hb d_L_rank_7 rfl ?_
    obtain ⟨h3, hf⟩ := of_gd hf
    obtain ⟨g4, eg4⟩ : ∃ y : Nat → Int64, y = vp_updL O_out (0 : Int32).toNatClampNeg r1.2.1.toInt64 := ⟨_, rfl⟩
    have hf := of_nm eg4 hf
    refine va_last hx hb hK.1 hP hD hS 11 1 rfl rfl (ixb_in h3) d_L_rank_8 (fun H locs hP hD hS => ?_)
    rw [← eg4] at hP hD
    have hP : va_P D vwCl (wv_101 cI cJ cZ aX aX_arities aT aT_heads aT_places aT_olders aT_sizes aT_withins aT_newest aS aS_premises aS_premiseCounts aS_conclusions aS_order aM aF aE aH aH_statementRow aH_firstRow aH_secondRow aO_out X_namesUsed T_count nT_withins T_withins S_count S_premises S_premiseCounts S_conclusions r1.2.2.1 r1.2.2.2.1 r1.2.2.2.2.1 r1.2.2.2.2.2.1 r1.2.2.2.2.2.2.1 r1.2.2.2.2.2.2.2 g4) H := hP
    have hD : va_D A (wv_101 cI cJ cZ aX aX_arities aT aT_heads aT_places aT_olders aT_sizes aT_withins aT_newest aS aS_premises aS_premiseCounts aS_conclusions aS_order aM aF aE aH aH_statementRow aH_firstRow aH_secondRow aO_out X_namesUsed T_count nT_withins T_withins S_count S_premises S_premiseCounts S_conclusions r1.2.2.1 r1.2.2.2.1 r1.2.2.2.2.1 r1.2.2.2.2.2.1 r1.2.2.2.2.2.2.1 r1.2.2.2.2.2.2.2 g4) := hD
    refine lv_goto (tgt := 18) hx hb d_L_rank_9 (by decide) ?_
    refine lv_iconst (v := 0) hx hb d_L_rank_18 (by decide) ?_
    obtain rfl := Option.some.inj hf
    refine W.widen (k := 1) (n := 6) (by omega) (by omega) ?_
    exact W.iret (v := (0 : Int32)) hx hb hr (fun t ht hW => ⟨rfl, fun _ => 0, by rw [ht]; exact hP, hD, hS.F ht⟩) hS.2.2 d_L_rank_19
  · have hf := ite_f hz hf
    by_cases z0 : r1.1 = 1
    · have hf := ite_t z0 hf
      obtain rfl := Option.some.inj hf
      rw [z0] at hc3
      refine wx_catch [] tx0 [tx1] ht9 (fun pl hpl y hy => by cases hy) (tab_cov tf0 (by decide) (by decide)) (fun pl hpl => row_yes hpl hown (by rw [(tab_pc tf0).2]; decide) (by rw [(tab_pc tf0).2]; exact hts _ k2_140) (hE s (State.WarmedH.refl s) hcS0 #[] (.castable (exn 1) (exn 1)) (by decide)) hc3) hc1 hc2 hc3 ?_
      rw [(tab_pc tf0).1]
      refine lv_astore_n (lv' := [(3, .ref q9), (0, .ref aX), (1, .int p0), (2, .ref aO_out)]) hx hb d_L_rank_12 rfl hl (by decide) rfl (fun ls hl => ?_)
      refine lv_iconst (v := 1) hx hb d_L_rank_13 (by decide) ?_
      refine W.widen (k := 1) (n := 6) (by omega) (by omega) ?_
      exact W.iret (v := 1) hx hb hr (fun t ht hW => ⟨rfl, fun _ => 0, by rw [ht]; exact hP, hD, hS.F ht⟩) hS.2.2 d_L_rank_14
    have hf := ite_f z0 hf
    by_cases z1 : r1.1 = 2
    · have hf := ite_t z1 hf
      obtain rfl := Option.some.inj hf
      rw [z1] at hc3
      refine wx_catch [tx0] tx1 [] ht9 (fun pl hpl => List.forall_mem_cons.mpr ⟨⟨tab_cov tf0 (by decide) (by decide), row_no hpl hown (by rw [(tab_pc tf0).2]; decide) (by rw [(tab_pc tf0).2]; exact hts _ k2_140) (hNC 2 1 (by decide) (by decide) (by decide)) hc3⟩, fun _ h => absurd h List.not_mem_nil⟩) (tab_cov tf1 (by decide) (by decide)) (fun pl hpl => row_yes hpl hown (by rw [(tab_pc tf1).2]; decide) (by rw [(tab_pc tf1).2]; exact hts _ k2_141) (hE s (State.WarmedH.refl s) hcS0 #[] (.castable (exn 2) (exn 2)) (by decide)) hc3) hc1 hc2 hc3 ?_
      rw [(tab_pc tf1).1]
      refine lv_astore_n (lv' := [(3, .ref q9), (0, .ref aX), (1, .int p0), (2, .ref aO_out)]) hx hb d_L_rank_15 rfl hl (by decide) rfl (fun ls hl => ?_)
      refine lv_iconst (v := 2) hx hb d_L_rank_16 (by decide) ?_
      refine W.widen (k := 1) (n := 6) (by omega) (by omega) ?_
      exact W.iret (v := 2) hx hb hr (fun t ht hW => ⟨rfl, fun _ => 0, by rw [ht]; exact hP, hD, hS.F ht⟩) hS.2.2 d_L_rank_17
    have hf := ite_f z1 hf
    cases hf
def f_L_goal (T_count : Int32) (nT_heads : Nat) (T_heads : (Nat → Int32)) (nT_places : Nat) (T_places : (Nat → Int32)) (nT_olders : Nat) (T_olders : (Nat → Int32)) (nT_sizes : Nat) (T_sizes : (Nat → Int32)) (nT_withins : Nat) (T_withins : (Nat → Int64)) (T_newest : (Nat → Int32)) (S_count : Int32) (S_premises : (Nat → Int32)) (S_premiseCounts : (Nat → Int32)) (S_conclusions : (Nat → Int32)) (M_images : (Nat → Int32)) (M_path : (Nat → Int32)) (H_kind : Int32) (H_subject : Int32) (H_count : Int32) (H_statementRow : (Nat → Int32)) (H_secondRow : (Nat → Int32)) (O_out : (Nat → Int64)) (p0 : Int32) (p1 : Int32) : Option (Int32 × Int32 × (Nat → Int32) × (Nat → Int32) × (Nat → Int32) × (Nat → Int32) × (Nat → Int64) × (Nat → Int32) × (Nat → Int32) × (Nat → Int32) × (Nat → Int64)) :=
  (f_X_goal T_count nT_heads T_heads nT_places T_places nT_olders T_olders nT_sizes T_sizes nT_withins T_withins T_newest S_count S_premises S_premiseCounts S_conclusions M_images M_path H_kind H_subject H_count H_statementRow H_secondRow p0 p1).bind fun r1 =>
  if r1.1 = 0 then
    gd (ixb (0 : Int32) 1) <| nm (vp_updL O_out (0 : Int32).toNatClampNeg r1.2.1.toInt64) fun g4 =>
    some ((0 : Int32), r1.2.2.1, r1.2.2.2.1, r1.2.2.2.2.1, r1.2.2.2.2.2.1, r1.2.2.2.2.2.2.1, r1.2.2.2.2.2.2.2.1, r1.2.2.2.2.2.2.2.2.1, r1.2.2.2.2.2.2.2.2.2.1, r1.2.2.2.2.2.2.2.2.2.2, g4)
  else
    if r1.1 = 1 then some ((1 : Int32), r1.2.2.1, r1.2.2.2.1, r1.2.2.2.2.1, r1.2.2.2.2.2.1, r1.2.2.2.2.2.2.1, r1.2.2.2.2.2.2.2.1, r1.2.2.2.2.2.2.2.2.1, r1.2.2.2.2.2.2.2.2.2.1, r1.2.2.2.2.2.2.2.2.2.2, O_out)
    else
    if r1.1 = 3 then some ((2 : Int32), r1.2.2.1, r1.2.2.2.1, r1.2.2.2.2.1, r1.2.2.2.2.2.1, r1.2.2.2.2.2.2.1, r1.2.2.2.2.2.2.2.1, r1.2.2.2.2.2.2.2.2.1, r1.2.2.2.2.2.2.2.2.2.1, r1.2.2.2.2.2.2.2.2.2.2, O_out)
    else
    none
abbrev rm_L_goal : Room := { frames := 7, cells := 1, slots := 6, locals := 130 }
set_option maxHeartbeats 4000000 in
set_option maxRecDepth 100000 in
theorem c_L_goal (l : Launch) (D : va_G) (cI cJ cZ : ClassId) (aX aX_arities aT aT_heads aT_places aT_olders aT_sizes aT_withins aT_newest aS aS_premises aS_premiseCounts aS_conclusions aS_order aM aM_images aM_path aF aE aH aH_statementRow aH_firstRow aH_secondRow aO_out : Nat) (sz : Nat) (X_namesUsed : Int32) (T_count : Int32) (nT_heads : Nat) (T_heads : (Nat → Int32)) (nT_places : Nat) (T_places : (Nat → Int32)) (nT_olders : Nat) (T_olders : (Nat → Int32)) (nT_sizes : Nat) (T_sizes : (Nat → Int32)) (nT_withins : Nat) (T_withins : (Nat → Int64)) (T_newest : (Nat → Int32)) (S_count : Int32) (S_premises : (Nat → Int32)) (S_premiseCounts : (Nat → Int32)) (S_conclusions : (Nat → Int32)) (M_images : (Nat → Int32)) (M_path : (Nat → Int32)) (H_kind : Int32) (H_subject : Int32) (H_count : Int32) (H_statementRow : (Nat → Int32)) (H_secondRow : (Nat → Int32)) (O_out : (Nat → Int64)) (p0 : Int32) (p1 : Int32) (aK : Nat) (cK : Cell) (hst : l.stackTraces = false) (o : Int32 × Int32 × (Nat → Int32) × (Nat → Int32) × (Nat → Int32) × (Nat → Int32) × (Nat → Int64) × (Nat → Int32) × (Nat → Int32) × (Nat → Int32) × (Nat → Int64)) (hf : f_L_goal T_count nT_heads T_heads nT_places T_places nT_olders T_olders nT_sizes T_sizes nT_withins T_withins T_newest S_count S_premises S_premiseCounts S_conclusions M_images M_path H_kind H_subject H_count H_statementRow H_secondRow O_out p0 p1 = some o) : Met l y_L_goal (ws_L_goal) rm_L_goal (LPc D vwCl cI cJ cZ aK cK [.ref aX, .int p0, .int p1, .ref aO_out] (wv_102 cI cJ cZ aX aX_arities aT aT_heads aT_places aT_olders aT_sizes aT_withins aT_newest aS aS_premises aS_premiseCounts aS_conclusions aS_order aM aM_images aM_path aF aE aH aH_statementRow aH_firstRow aH_secondRow aO_out X_namesUsed T_count nT_heads T_heads nT_places T_places nT_olders T_olders nT_sizes T_sizes nT_withins T_withins T_newest S_count S_premises S_premiseCounts S_conclusions M_images M_path H_kind H_subject H_count H_statementRow H_secondRow O_out) sz) (WQx D vwCl (some (.int o.1)) (fun as => (wv_102 cI cJ cZ aX aX_arities aT aT_heads aT_places aT_olders aT_sizes aT_withins aT_newest aS aS_premises aS_premiseCounts aS_conclusions aS_order aM aM_images aM_path aF aE aH aH_statementRow aH_firstRow aH_secondRow aO_out X_namesUsed o.2.1 nT_heads o.2.2.1 nT_places o.2.2.2.1 nT_olders o.2.2.2.2.1 nT_sizes o.2.2.2.2.2.1 nT_withins o.2.2.2.2.2.2.1 o.2.2.2.2.2.2.2.1 S_count S_premises S_premiseCounts S_conclusions o.2.2.2.2.2.2.2.2.1 o.2.2.2.2.2.2.2.2.2.1 H_kind H_subject H_count H_statementRow H_secondRow o.2.2.2.2.2.2.2.2.2.2)) (va_A (wv_102 cI cJ cZ aX aX_arities aT aT_heads aT_places aT_olders aT_sizes aT_withins aT_newest aS aS_premises aS_premiseCounts aS_conclusions aS_order aM aM_images aM_path aF aE aH aH_statementRow aH_firstRow aH_secondRow aO_out X_namesUsed T_count nT_heads T_heads nT_places T_places nT_olders T_olders nT_sizes T_sizes nT_withins T_withins T_newest S_count S_premises S_premiseCounts S_conclusions M_images M_path H_kind H_subject H_count H_statementRow H_secondRow O_out) sz)) 1 6 (va_A (wv_102 cI cJ cZ aX aX_arities aT aT_heads aT_places aT_olders aT_sizes aT_withins aT_newest aS aS_premises aS_premiseCounts aS_conclusions aS_order aM aM_images aM_path aF aE aH aH_statementRow aH_firstRow aH_secondRow aO_out X_namesUsed T_count nT_heads T_heads nT_places T_places nT_olders T_olders nT_sizes T_sizes nT_withins T_withins T_newest S_count S_premises S_premiseCounts S_conclusions M_images M_path H_kind H_subject H_count H_statementRow H_secondRow O_out) sz) := by
  refine va_MetW (cc := b_L_goal) (maxL := 5) (ret := (some .int)) (hh := [(0, 10, 13, 13), (0, 10, 17, 17)]) (by decide) rfl ?_
  intro p e s m args below meth c s₁ B hml hv
  obtain ⟨⟨rfl, rfl, hP, hK, hD0, ⟨hcS0, hE, hSR⟩, hnA⟩, hNC⟩ := hv
  have hx := B.exec
  have hb := B.bytes
  have hr := B.returns
  have hts0 := atoms_spec (ws := (ws_L_goal)) B.pre
  have htab := tab_of B (hts0 _ List.mem_cons_self)
  have hts : ∀ w ∈ BG, w.before _ s = true := fun w h => hts0 w (List.mem_cons_of_mem _ h)
  have hown : s.vm.findClass "ShapeSearchLaw" = some m.cls := findClass_of_methodNamed B.named
  have hlocks := B.notSynchronized
  obtain ⟨tx0, L0, te0, tf0, htab⟩ := tab_cons htab
  obtain ⟨tx1, L1, te1, tf1, htab⟩ := tab_cons htab
  have te9 := tab_nil htab
  have ht9 : c.exceptionTable.toList = [tx0, tx1] := by rw [te0, te1, te9]
  have hD := hD0.self (sz := s.heap.size)
  have hA : ∀ q : Nat, s.heap.size ≤ q → va_A (wv_102 cI cJ cZ aX aX_arities aT aT_heads aT_places aT_olders aT_sizes aT_withins aT_newest aS aS_premises aS_premiseCounts aS_conclusions aS_order aM aM_images aM_path aF aE aH aH_statementRow aH_firstRow aH_secondRow aO_out X_namesUsed T_count nT_heads T_heads nT_places T_places nT_olders T_olders nT_sizes T_sizes nT_withins T_withins T_newest S_count S_premises S_premiseCounts S_conclusions M_images M_path H_kind H_subject H_count H_statementRow H_secondRow O_out) s.heap.size q := fun q h => Or.inr h
  have hS : va_S (va_A (wv_102 cI cJ cZ aX aX_arities aT aT_heads aT_places aT_olders aT_sizes aT_withins aT_newest aS aS_premises aS_premiseCounts aS_conclusions aS_order aM aM_images aM_path aF aE aH aH_statementRow aH_firstRow aH_secondRow aO_out X_namesUsed T_count nT_heads T_heads nT_places T_places nT_olders T_olders nT_sizes T_sizes nT_withins T_withins T_newest S_count S_premises S_premiseCounts S_conclusions M_images M_path H_kind H_subject H_count H_statementRow H_secondRow O_out) s.heap.size) s.heap s.heap [] := va_S.rf
  generalize va_A (wv_102 cI cJ cZ aX aX_arities aT aT_heads aT_places aT_olders aT_sizes aT_withins aT_newest aS aS_premises aS_premiseCounts aS_conclusions aS_order aM aM_images aM_path aF aE aH aH_statementRow aH_firstRow aH_secondRow aO_out X_namesUsed T_count nT_heads T_heads nT_places T_places nT_olders T_olders nT_sizes T_sizes nT_withins T_withins T_newest S_count S_premises S_premiseCounts S_conclusions M_images M_path H_kind H_subject H_count H_statementRow H_secondRow O_out) s.heap.size = A at hD hA hS hnA ⊢
  have hl := lv_entry ([.ref aX, .int p0, .int p1, .ref aO_out]) (n := 5) (Nat.le_of_ble_eq_true rfl)
  rw [lg_entry_eq]
  generalize (lg_sl ([.ref aX, .int p0, .int p1, .ref aO_out]) ++ List.replicate (5 - (lg_sl ([.ref aX, .int p0, .int p1, .ref aO_out])).length) Slot.unset).toArray = ls at hl ⊢
  have hl : lv_has ls 5 [(0, .ref aX), (1, .int p0), (2, .int p1), (3, .ref aO_out)] := hl
  rw [f_L_goal] at hf
  refine lv_aload_n hx hb d_L_goal_0 rfl (lv_at hl 3 rfl) ?_
  refine lv_iconst (v := 0) hx hb d_L_goal_1 (by decide) ?_
  refine lv_aload_n hx hb d_L_goal_2 rfl (lv_at hl 0 rfl) ?_
  refine lv_iload_n hx hb d_L_goal_3 rfl (lv_at hl 1 rfl) ?_
  refine lv_iload_n hx hb d_L_goal_4 rfl (lv_at hl 2 rfl) ?_
  obtain ⟨r1, hr1, hf⟩ := of_bd hf
  refine x_call (ws' := fun as2 => (wv_102 cI cJ cZ aX aX_arities aT aT_heads aT_places aT_olders aT_sizes aT_withins aT_newest aS aS_premises aS_premiseCounts aS_conclusions aS_order aM aM_images aM_path aF aE aH aH_statementRow aH_firstRow aH_secondRow aO_out X_namesUsed r1.2.2.1 nT_heads r1.2.2.2.1 nT_places r1.2.2.2.2.1 nT_olders r1.2.2.2.2.2.1 nT_sizes r1.2.2.2.2.2.2.1 nT_withins r1.2.2.2.2.2.2.2.1 r1.2.2.2.2.2.2.2.2.1 S_count S_premises S_premiseCounts S_conclusions r1.2.2.2.2.2.2.2.2.2.1 r1.2.2.2.2.2.2.2.2.2.2 H_kind H_subject H_count H_statementRow H_secondRow O_out)) (xrunV (As := [.int p0, .int p1]) (rest := [.int (0 : Int32), .ref aO_out]) ⟨hx, hb, hml, hown, hts⟩ (c_X_goal l D cI cJ cZ aX aX_arities aT aT_heads aT_places aT_olders aT_sizes aT_withins aT_newest aS aS_premises aS_premiseCounts aS_conclusions aS_order aM aM_images aM_path aF aE aH aH_statementRow aH_firstRow aH_secondRow _ X_namesUsed T_count nT_heads T_heads nT_places T_places nT_olders T_olders nT_sizes T_sizes nT_withins T_withins T_newest S_count S_premises S_premiseCounts S_conclusions M_images M_path H_kind H_subject H_count H_statementRow H_secondRow p0 p1 aK cK hst r1 hr1) (bigV 2 hts k3_170 k3_171 k3_172 k1_1 k3_173 rfl rfl hd_X_goal ⟨Nat.le_of_ble_eq_true rfl, Nat.le_of_ble_eq_true rfl⟩) (x_preV hK hP hD hE hSR (keepS hS hcS0 hnA) hnA [0, 1, 2, 3, 4, 5, 6, 7, 8, 9, 10, 11, 12, 13, 14, 15, 16, 17] rfl (by decide) rfl 0 rfl rfl rfl) rfl rfl hl.1 rfl (lv_room (Nat.le_of_ble_eq_true rfl)) d_L_goal_5 ⟨(Nat.le_of_ble_eq_true rfl), (Nat.le_of_ble_eq_true rfl)⟩) hP hD hS hA [0, 1, 2, 3, 4, 5, 6, 7, 8, 9, 10, 11, 12, 13, 14, 15, 16, 17] [18] rfl rfl (by decide) (by decide) [1, 2, 3, 4, 5, 6, 7, 8, 9, 10, 11, 12, 13, 14, 15, 16, 17, 18, 0] (by decide) (fun _ => rfl) (fun hz as2 H locs hP hD hS => ?_) (fun hz as2 H locs q9 ce9 hP hD hS hc1 hc2 hc3 => ?_)
  · have hf := ite_t hz hf
    refine W.widen (k := 1) (n := 6) (by omega) (by omega) ?_
    refine lv_i2l (v := r1.2.1.toInt64) hx hb d_L_goal_8 rfl ?_
    obtain ⟨h3, hf⟩ := of_gd hf
    obtain ⟨g4, eg4⟩ : ∃ y : Nat → Int64, y = vp_updL O_out (0 : Int32).toNatClampNeg r1.2.1.toInt64 := ⟨_, rfl⟩
    have hf := of_nm eg4 hf
    refine va_last hx hb hK.1 hP hD hS 18 1 rfl rfl (ixb_in h3) d_L_goal_9 (fun H locs hP hD hS => ?_)
    rw [← eg4] at hP hD
    have hP : va_P D vwCl (wv_102 cI cJ cZ aX aX_arities aT aT_heads aT_places aT_olders aT_sizes aT_withins aT_newest aS aS_premises aS_premiseCounts aS_conclusions aS_order aM aM_images aM_path aF aE aH aH_statementRow aH_firstRow aH_secondRow aO_out X_namesUsed r1.2.2.1 nT_heads r1.2.2.2.1 nT_places r1.2.2.2.2.1 nT_olders r1.2.2.2.2.2.1 nT_sizes r1.2.2.2.2.2.2.1 nT_withins r1.2.2.2.2.2.2.2.1 r1.2.2.2.2.2.2.2.2.1 S_count S_premises S_premiseCounts S_conclusions r1.2.2.2.2.2.2.2.2.2.1 r1.2.2.2.2.2.2.2.2.2.2 H_kind H_subject H_count H_statementRow H_secondRow g4) H := hP
    have hD : va_D A (wv_102 cI cJ cZ aX aX_arities aT aT_heads aT_places aT_olders aT_sizes aT_withins aT_newest aS aS_premises aS_premiseCounts aS_conclusions aS_order aM aM_images aM_path aF aE aH aH_statementRow aH_firstRow aH_secondRow aO_out X_namesUsed r1.2.2.1 nT_heads r1.2.2.2.1 nT_places r1.2.2.2.2.1 nT_olders r1.2.2.2.2.2.1 nT_sizes r1.2.2.2.2.2.2.1 nT_withins r1.2.2.2.2.2.2.2.1 r1.2.2.2.2.2.2.2.2.1 S_count S_premises S_premiseCounts S_conclusions r1.2.2.2.2.2.2.2.2.2.1 r1.2.2.2.2.2.2.2.2.2.2 H_kind H_subject H_count H_statementRow H_secondRow g4) := hD
    refine lv_goto (tgt := 21) hx hb d_L_goal_10 (by decide) ?_
    refine lv_iconst (v := 0) hx hb d_L_goal_21 (by decide) ?_
    obtain rfl := Option.some.inj hf
    refine W.widen (k := 1) (n := 6) (by omega) (by omega) ?_
    exact W.iret (v := (0 : Int32)) hx hb hr (fun t ht hW => ⟨rfl, fun _ => 0, by rw [ht]; exact hP, hD, hS.F ht⟩) hS.2.2 d_L_goal_22
  · have hf := ite_f hz hf
    by_cases z0 : r1.1 = 1
    · have hf := ite_t z0 hf
      obtain rfl := Option.some.inj hf
      rw [z0] at hc3
      refine wx_catch [] tx0 [tx1] ht9 (fun pl hpl y hy => by cases hy) (tab_cov tf0 (by decide) (by decide)) (fun pl hpl => row_yes hpl hown (by rw [(tab_pc tf0).2]; decide) (by rw [(tab_pc tf0).2]; exact hts _ k2_140) (hE s (State.WarmedH.refl s) hcS0 #[] (.castable (exn 1) (exn 1)) (by decide)) hc3) hc1 hc2 hc3 ?_
      rw [(tab_pc tf0).1]
      refine lv_astore (lv' := [(4, .ref q9), (0, .ref aX), (1, .int p0), (2, .int p1), (3, .ref aO_out)]) hx hb d_L_goal_13 hl (by decide) rfl (fun ls hl => ?_)
      refine lv_iconst (v := 1) hx hb d_L_goal_15 (by decide) ?_
      refine W.widen (k := 1) (n := 6) (by omega) (by omega) ?_
      exact W.iret (v := 1) hx hb hr (fun t ht hW => ⟨rfl, fun _ => 0, by rw [ht]; exact hP, hD, hS.F ht⟩) hS.2.2 d_L_goal_16
    have hf := ite_f z0 hf
    by_cases z1 : r1.1 = 3
    · have hf := ite_t z1 hf
      obtain rfl := Option.some.inj hf
      rw [z1] at hc3
      refine wx_catch [tx0] tx1 [] ht9 (fun pl hpl => List.forall_mem_cons.mpr ⟨⟨tab_cov tf0 (by decide) (by decide), row_no hpl hown (by rw [(tab_pc tf0).2]; decide) (by rw [(tab_pc tf0).2]; exact hts _ k2_140) (hNC 3 1 (by decide) (by decide) (by decide)) hc3⟩, fun _ h => absurd h List.not_mem_nil⟩) (tab_cov tf1 (by decide) (by decide)) (fun pl hpl => row_yes hpl hown (by rw [(tab_pc tf1).2]; decide) (by rw [(tab_pc tf1).2]; exact hts _ k2_142) (hE s (State.WarmedH.refl s) hcS0 #[] (.castable (exn 3) (exn 3)) (by decide)) hc3) hc1 hc2 hc3 ?_
      rw [(tab_pc tf1).1]
      refine lv_astore (lv' := [(4, .ref q9), (0, .ref aX), (1, .int p0), (2, .int p1), (3, .ref aO_out)]) hx hb d_L_goal_17 hl (by decide) rfl (fun ls hl => ?_)
      refine lv_iconst (v := 2) hx hb d_L_goal_19 (by decide) ?_
      refine W.widen (k := 1) (n := 6) (by omega) (by omega) ?_
      exact W.iret (v := 2) hx hb hr (fun t ht hW => ⟨rfl, fun _ => 0, by rw [ht]; exact hP, hD, hS.F ht⟩) hS.2.2 d_L_goal_20
    have hf := ite_f z1 hf
    cases hf
def f_L_twin (T_count : Int32) (nT_heads : Nat) (T_heads : (Nat → Int32)) (nT_places : Nat) (T_places : (Nat → Int32)) (nT_withins : Nat) (T_withins : (Nat → Int64)) (S_count : Int32) (S_premises : (Nat → Int32)) (S_premiseCounts : (Nat → Int32)) (S_conclusions : (Nat → Int32)) (M_images : (Nat → Int32)) (O_out : (Nat → Int64)) (p0 : Int32) : Option (Int32 × (Nat → Int32) × (Nat → Int64)) :=
  (f_X_twin T_count nT_heads T_heads nT_places T_places nT_withins T_withins S_count S_premises S_premiseCounts S_conclusions M_images p0).bind fun r1 =>
  if r1.1 = 0 then
    gd (ixb (0 : Int32) 1) <| nm (vp_updL O_out (0 : Int32).toNatClampNeg r1.2.1.toInt64) fun g4 =>
    some ((0 : Int32), r1.2.2, g4)
  else
    if r1.1 = 1 then some ((1 : Int32), r1.2.2, O_out)
    else
    none
abbrev rm_L_twin : Room := { frames := 7, cells := 1, slots := 6, locals := 121 }
set_option maxHeartbeats 4000000 in
set_option maxRecDepth 100000 in
theorem c_L_twin (l : Launch) (D : va_G) (cI cJ cZ : ClassId) (aX aX_arities aT aT_heads aT_places aT_olders aT_sizes aT_withins aT_newest aS aS_premises aS_premiseCounts aS_conclusions aS_order aM aM_images aM_path aF aE aH aO_out : Nat) (sz : Nat) (X_namesUsed : Int32) (T_count : Int32) (nT_heads : Nat) (T_heads : (Nat → Int32)) (nT_places : Nat) (T_places : (Nat → Int32)) (nT_withins : Nat) (T_withins : (Nat → Int64)) (S_count : Int32) (S_premises : (Nat → Int32)) (S_premiseCounts : (Nat → Int32)) (S_conclusions : (Nat → Int32)) (M_images : (Nat → Int32)) (O_out : (Nat → Int64)) (p0 : Int32) (aK : Nat) (cK : Cell) (hst : l.stackTraces = false) (o : Int32 × (Nat → Int32) × (Nat → Int64)) (hf : f_L_twin T_count nT_heads T_heads nT_places T_places nT_withins T_withins S_count S_premises S_premiseCounts S_conclusions M_images O_out p0 = some o) : Met l y_L_twin (ws_L_twin) rm_L_twin (LPc D vwCl cI cJ cZ aK cK [.ref aX, .int p0, .ref aO_out] (wv_103 cI cJ cZ aX aX_arities aT aT_heads aT_places aT_olders aT_sizes aT_withins aT_newest aS aS_premises aS_premiseCounts aS_conclusions aS_order aM aM_images aM_path aF aE aH aO_out X_namesUsed T_count nT_heads T_heads nT_places T_places nT_withins T_withins S_count S_premises S_premiseCounts S_conclusions M_images O_out) sz) (WQx D vwCl (some (.int o.1)) (fun as => (wv_103 cI cJ cZ aX aX_arities aT aT_heads aT_places aT_olders aT_sizes aT_withins aT_newest aS aS_premises aS_premiseCounts aS_conclusions aS_order aM aM_images aM_path aF aE aH aO_out X_namesUsed T_count nT_heads T_heads nT_places T_places nT_withins T_withins S_count S_premises S_premiseCounts S_conclusions o.2.1 o.2.2)) (va_A (wv_103 cI cJ cZ aX aX_arities aT aT_heads aT_places aT_olders aT_sizes aT_withins aT_newest aS aS_premises aS_premiseCounts aS_conclusions aS_order aM aM_images aM_path aF aE aH aO_out X_namesUsed T_count nT_heads T_heads nT_places T_places nT_withins T_withins S_count S_premises S_premiseCounts S_conclusions M_images O_out) sz)) 1 6 (va_A (wv_103 cI cJ cZ aX aX_arities aT aT_heads aT_places aT_olders aT_sizes aT_withins aT_newest aS aS_premises aS_premiseCounts aS_conclusions aS_order aM aM_images aM_path aF aE aH aO_out X_namesUsed T_count nT_heads T_heads nT_places T_places nT_withins T_withins S_count S_premises S_premiseCounts S_conclusions M_images O_out) sz) := by
  refine va_MetW (cc := b_L_twin) (maxL := 4) (ret := (some .int)) (hh := [(0, 9, 12, 13)]) (by decide) rfl ?_
  intro p e s m args below meth c s₁ B hml hv
  obtain ⟨⟨rfl, rfl, hP, hK, hD0, ⟨hcS0, hE, hSR⟩, hnA⟩, hNC⟩ := hv
  have hx := B.exec
  have hb := B.bytes
  have hr := B.returns
  have hts0 := atoms_spec (ws := (ws_L_twin)) B.pre
  have htab := tab_of B (hts0 _ List.mem_cons_self)
  have hts : ∀ w ∈ BG, w.before _ s = true := fun w h => hts0 w (List.mem_cons_of_mem _ h)
  have hown : s.vm.findClass "ShapeSearchLaw" = some m.cls := findClass_of_methodNamed B.named
  have hlocks := B.notSynchronized
  obtain ⟨tx0, L0, te0, tf0, htab⟩ := tab_cons htab
  have te9 := tab_nil htab
  have ht9 : c.exceptionTable.toList = [tx0] := by rw [te0, te9]
  have hD := hD0.self (sz := s.heap.size)
  have hA : ∀ q : Nat, s.heap.size ≤ q → va_A (wv_103 cI cJ cZ aX aX_arities aT aT_heads aT_places aT_olders aT_sizes aT_withins aT_newest aS aS_premises aS_premiseCounts aS_conclusions aS_order aM aM_images aM_path aF aE aH aO_out X_namesUsed T_count nT_heads T_heads nT_places T_places nT_withins T_withins S_count S_premises S_premiseCounts S_conclusions M_images O_out) s.heap.size q := fun q h => Or.inr h
  have hS : va_S (va_A (wv_103 cI cJ cZ aX aX_arities aT aT_heads aT_places aT_olders aT_sizes aT_withins aT_newest aS aS_premises aS_premiseCounts aS_conclusions aS_order aM aM_images aM_path aF aE aH aO_out X_namesUsed T_count nT_heads T_heads nT_places T_places nT_withins T_withins S_count S_premises S_premiseCounts S_conclusions M_images O_out) s.heap.size) s.heap s.heap [] := va_S.rf
  generalize va_A (wv_103 cI cJ cZ aX aX_arities aT aT_heads aT_places aT_olders aT_sizes aT_withins aT_newest aS aS_premises aS_premiseCounts aS_conclusions aS_order aM aM_images aM_path aF aE aH aO_out X_namesUsed T_count nT_heads T_heads nT_places T_places nT_withins T_withins S_count S_premises S_premiseCounts S_conclusions M_images O_out) s.heap.size = A at hD hA hS hnA ⊢
  have hl := lv_entry ([.ref aX, .int p0, .ref aO_out]) (n := 4) (Nat.le_of_ble_eq_true rfl)
  rw [lg_entry_eq]
  generalize (lg_sl ([.ref aX, .int p0, .ref aO_out]) ++ List.replicate (4 - (lg_sl ([.ref aX, .int p0, .ref aO_out])).length) Slot.unset).toArray = ls at hl ⊢
  have hl : lv_has ls 4 [(0, .ref aX), (1, .int p0), (2, .ref aO_out)] := hl
  rw [f_L_twin] at hf
  refine lv_aload_n hx hb d_L_twin_0 rfl (lv_at hl 2 rfl) ?_
  refine lv_iconst (v := 0) hx hb d_L_twin_1 (by decide) ?_
  refine lv_aload_n hx hb d_L_twin_2 rfl (lv_at hl 0 rfl) ?_
  refine lv_iload_n hx hb d_L_twin_3 rfl (lv_at hl 1 rfl) ?_
  obtain ⟨r1, hr1, hf⟩ := of_bd hf
  refine x_call (ws' := fun as2 => (wv_103 cI cJ cZ aX aX_arities aT aT_heads aT_places aT_olders aT_sizes aT_withins aT_newest aS aS_premises aS_premiseCounts aS_conclusions aS_order aM aM_images aM_path aF aE aH aO_out X_namesUsed T_count nT_heads T_heads nT_places T_places nT_withins T_withins S_count S_premises S_premiseCounts S_conclusions r1.2.2 O_out)) (xrunV (As := [.int p0]) (rest := [.int (0 : Int32), .ref aO_out]) ⟨hx, hb, hml, hown, hts⟩ (c_X_twin l D cI cJ cZ aX aX_arities aT aT_heads aT_places aT_olders aT_sizes aT_withins aT_newest aS aS_premises aS_premiseCounts aS_conclusions aS_order aM aM_images aM_path aF aE aH _ X_namesUsed T_count nT_heads T_heads nT_places T_places nT_withins T_withins S_count S_premises S_premiseCounts S_conclusions M_images p0 aK cK hst r1 hr1) (bigV 1 hts k3_193 k3_194 k3_195 k1_1 k3_196 rfl rfl hd_X_twin ⟨Nat.le_of_ble_eq_true rfl, Nat.le_of_ble_eq_true rfl⟩) (x_preV hK hP hD hE hSR (keepS hS hcS0 hnA) hnA [0, 1, 2, 3, 4, 5, 6, 7, 8, 9, 10] rfl (by decide) rfl 0 rfl rfl rfl) rfl rfl hl.1 rfl (lv_room (Nat.le_of_ble_eq_true rfl)) d_L_twin_4 ⟨(Nat.le_of_ble_eq_true rfl), (Nat.le_of_ble_eq_true rfl)⟩) hP hD hS hA [0, 1, 2, 3, 4, 5, 6, 7, 8, 9, 10] [11] rfl rfl (by decide) (by decide) [1, 2, 3, 4, 5, 6, 7, 8, 9, 10, 11, 0] (by decide) (fun _ => rfl) (fun hz as2 H locs hP hD hS => ?_) (fun hz as2 H locs q9 ce9 hP hD hS hc1 hc2 hc3 => ?_)
  · have hf := ite_t hz hf
    refine W.widen (k := 1) (n := 6) (by omega) (by omega) ?_
    refine lv_i2l (v := r1.2.1.toInt64) hx hb d_L_twin_7 rfl ?_
    obtain ⟨h3, hf⟩ := of_gd hf
    obtain ⟨g4, eg4⟩ : ∃ y : Nat → Int64, y = vp_updL O_out (0 : Int32).toNatClampNeg r1.2.1.toInt64 := ⟨_, rfl⟩
    have hf := of_nm eg4 hf
    refine va_last hx hb hK.1 hP hD hS 11 1 rfl rfl (ixb_in h3) d_L_twin_8 (fun H locs hP hD hS => ?_)
    rw [← eg4] at hP hD
    have hP : va_P D vwCl (wv_103 cI cJ cZ aX aX_arities aT aT_heads aT_places aT_olders aT_sizes aT_withins aT_newest aS aS_premises aS_premiseCounts aS_conclusions aS_order aM aM_images aM_path aF aE aH aO_out X_namesUsed T_count nT_heads T_heads nT_places T_places nT_withins T_withins S_count S_premises S_premiseCounts S_conclusions r1.2.2 g4) H := hP
    have hD : va_D A (wv_103 cI cJ cZ aX aX_arities aT aT_heads aT_places aT_olders aT_sizes aT_withins aT_newest aS aS_premises aS_premiseCounts aS_conclusions aS_order aM aM_images aM_path aF aE aH aO_out X_namesUsed T_count nT_heads T_heads nT_places T_places nT_withins T_withins S_count S_premises S_premiseCounts S_conclusions r1.2.2 g4) := hD
    refine lv_goto (tgt := 15) hx hb d_L_twin_9 (by decide) ?_
    refine lv_iconst (v := 0) hx hb d_L_twin_15 (by decide) ?_
    obtain rfl := Option.some.inj hf
    refine W.widen (k := 1) (n := 6) (by omega) (by omega) ?_
    exact W.iret (v := (0 : Int32)) hx hb hr (fun t ht hW => ⟨rfl, fun _ => 0, by rw [ht]; exact hP, hD, hS.F ht⟩) hS.2.2 d_L_twin_16
  · have hf := ite_f hz hf
    by_cases z0 : r1.1 = 1
    · have hf := ite_t z0 hf
      obtain rfl := Option.some.inj hf
      rw [z0] at hc3
      refine wx_catch [] tx0 [] ht9 (fun pl hpl y hy => by cases hy) (tab_cov tf0 (by decide) (by decide)) (fun pl hpl => row_yes hpl hown (by rw [(tab_pc tf0).2]; decide) (by rw [(tab_pc tf0).2]; exact hts _ k2_140) (hE s (State.WarmedH.refl s) hcS0 #[] (.castable (exn 1) (exn 1)) (by decide)) hc3) hc1 hc2 hc3 ?_
      rw [(tab_pc tf0).1]
      refine lv_astore_n (lv' := [(3, .ref q9), (0, .ref aX), (1, .int p0), (2, .ref aO_out)]) hx hb d_L_twin_12 rfl hl (by decide) rfl (fun ls hl => ?_)
      refine lv_iconst (v := 1) hx hb d_L_twin_13 (by decide) ?_
      refine W.widen (k := 1) (n := 6) (by omega) (by omega) ?_
      exact W.iret (v := 1) hx hb hr (fun t ht hW => ⟨rfl, fun _ => 0, by rw [ht]; exact hP, hD, hS.F ht⟩) hS.2.2 d_L_twin_14
    have hf := ite_f z0 hf
    cases hf
