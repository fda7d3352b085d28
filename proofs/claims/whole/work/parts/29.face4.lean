abbrev b_X_fit : ByteArray := prog_1_method_8_code
abbrev y_X_fit : MethodName := ⟨"ShapeSearch", "fit", "(I)I"⟩
abbrev ws_X_fit : List Cond := .code y_X_fit b_X_fit 4 (some .int) :: BG
theorem hd_X_fit : y_X_fit.cls ≠ "java/lang/invoke/MethodHandle" ∧ y_X_fit.cls ≠ "java/lang/invoke/VarHandle" ∧ (parseMethodDescriptor y_X_fit.desc).map (fun d => d.parameters.length) = some 1 := by decide +kernel
theorem d_X_fit_0 : decode b_X_fit 0 = .ok (.aload_n 0, 1) := by decide +kernel
theorem d_X_fit_1 : decode b_X_fit 1 = .ok (.iload_n 1, 1) := by decide +kernel
theorem d_X_fit_2 : decode b_X_fit 2 = .ok (.invokevirtual 168, 3) := by decide +kernel
theorem d_X_fit_5 : decode b_X_fit 5 = .ok (.aload_n 0, 1) := by decide +kernel
theorem d_X_fit_6 : decode b_X_fit 6 = .ok (.getfield 67, 3) := by decide +kernel
theorem d_X_fit_9 : decode b_X_fit 9 = .ok (.iconst 2, 1) := by decide +kernel
theorem d_X_fit_10 : decode b_X_fit 10 = .ok (.iload_n 1, 1) := by decide +kernel
theorem d_X_fit_11 : decode b_X_fit 11 = .ok (.invokevirtual 143, 3) := by decide +kernel
theorem d_X_fit_14 : decode b_X_fit 14 = .ok (.aload_n 0, 1) := by decide +kernel
theorem d_X_fit_15 : decode b_X_fit 15 = .ok (.getfield 33, 3) := by decide +kernel
theorem d_X_fit_18 : decode b_X_fit 18 = .ok (.invokevirtual 171, 3) := by decide +kernel
theorem d_X_fit_21 : decode b_X_fit 21 = .ok (.iconst 0, 1) := by decide +kernel
theorem d_X_fit_22 : decode b_X_fit 22 = .ok (.istore_n 2, 1) := by decide +kernel
theorem d_X_fit_23 : decode b_X_fit 23 = .ok (.iload_n 2, 1) := by decide +kernel
theorem d_X_fit_24 : decode b_X_fit 24 = .ok (.aload_n 0, 1) := by decide +kernel
theorem d_X_fit_25 : decode b_X_fit 25 = .ok (.getfield 33, 3) := by decide +kernel
theorem d_X_fit_28 : decode b_X_fit 28 = .ok (.invokevirtual 150, 3) := by decide +kernel
theorem d_X_fit_31 : decode b_X_fit 31 = .ok (.if_icmp .ge 68, 3) := by decide +kernel
theorem d_X_fit_34 : decode b_X_fit 34 = .ok (.aload_n 0, 1) := by decide +kernel
theorem d_X_fit_35 : decode b_X_fit 35 = .ok (.getfield 33, 3) := by decide +kernel
theorem d_X_fit_38 : decode b_X_fit 38 = .ok (.iload_n 2, 1) := by decide +kernel
theorem d_X_fit_39 : decode b_X_fit 39 = .ok (.invokevirtual 174, 3) := by decide +kernel
theorem d_X_fit_42 : decode b_X_fit 42 = .ok (.istore_n 3, 1) := by decide +kernel
theorem d_X_fit_43 : decode b_X_fit 43 = .ok (.aload_n 0, 1) := by decide +kernel
theorem d_X_fit_44 : decode b_X_fit 44 = .ok (.getfield 42, 3) := by decide +kernel
theorem d_X_fit_47 : decode b_X_fit 47 = .ok (.aload_n 0, 1) := by decide +kernel
theorem d_X_fit_48 : decode b_X_fit 48 = .ok (.getfield 33, 3) := by decide +kernel
theorem d_X_fit_51 : decode b_X_fit 51 = .ok (.iload_n 3, 1) := by decide +kernel
theorem d_X_fit_52 : decode b_X_fit 52 = .ok (.invokevirtual 177, 3) := by decide +kernel
theorem d_X_fit_55 : decode b_X_fit 55 = .ok (.iload_n 1, 1) := by decide +kernel
theorem d_X_fit_56 : decode b_X_fit 56 = .ok (.ldc2_w 180, 3) := by decide +kernel
theorem d_X_fit_59 : decode b_X_fit 59 = .ok (.invokevirtual 182, 3) := by decide +kernel
theorem d_X_fit_62 : decode b_X_fit 62 = .ok (.ifCond .eq 31, 3) := by decide +kernel
theorem d_X_fit_65 : decode b_X_fit 65 = .ok (.aload_n 0, 1) := by decide +kernel
theorem d_X_fit_66 : decode b_X_fit 66 = .ok (.getfield 67, 3) := by decide +kernel
theorem d_X_fit_69 : decode b_X_fit 69 = .ok (.iload_n 3, 1) := by decide +kernel
theorem d_X_fit_70 : decode b_X_fit 70 = .ok (.aload_n 0, 1) := by decide +kernel
theorem d_X_fit_71 : decode b_X_fit 71 = .ok (.getfield 33, 3) := by decide +kernel
theorem d_X_fit_74 : decode b_X_fit 74 = .ok (.iload_n 3, 1) := by decide +kernel
theorem d_X_fit_75 : decode b_X_fit 75 = .ok (.aload_n 0, 1) := by decide +kernel
theorem d_X_fit_76 : decode b_X_fit 76 = .ok (.getfield 12, 3) := by decide +kernel
theorem d_X_fit_79 : decode b_X_fit 79 = .ok (.invokevirtual 186, 3) := by decide +kernel
theorem d_X_fit_82 : decode b_X_fit 82 = .ok (.aload_n 0, 1) := by decide +kernel
theorem d_X_fit_83 : decode b_X_fit 83 = .ok (.getfield 33, 3) := by decide +kernel
theorem d_X_fit_86 : decode b_X_fit 86 = .ok (.iload_n 3, 1) := by decide +kernel
theorem d_X_fit_87 : decode b_X_fit 87 = .ok (.invokevirtual 190, 3) := by decide +kernel
theorem d_X_fit_90 : decode b_X_fit 90 = .ok (.invokevirtual 164, 3) := by decide +kernel
theorem d_X_fit_93 : decode b_X_fit 93 = .ok (.iinc 2 1, 3) := by decide +kernel
theorem d_X_fit_96 : decode b_X_fit 96 = .ok (.goto (-73), 3) := by decide +kernel
theorem d_X_fit_99 : decode b_X_fit 99 = .ok (.aload_n 0, 1) := by decide +kernel
theorem d_X_fit_100 : decode b_X_fit 100 = .ok (.getfield 67, 3) := by decide +kernel
theorem d_X_fit_103 : decode b_X_fit 103 = .ok (.invokevirtual 167, 3) := by decide +kernel
theorem d_X_fit_106 : decode b_X_fit 106 = .ok (.ireturn, 1) := by decide +kernel
abbrev b_X_rank : ByteArray := prog_1_method_9_code
abbrev y_X_rank : MethodName := ⟨"ShapeSearch", "rank", "(I)I"⟩
abbrev ws_X_rank : List Cond := .code y_X_rank b_X_rank 8 (some .int) :: BG
theorem hd_X_rank : y_X_rank.cls ≠ "java/lang/invoke/MethodHandle" ∧ y_X_rank.cls ≠ "java/lang/invoke/VarHandle" ∧ (parseMethodDescriptor y_X_rank.desc).map (fun d => d.parameters.length) = some 1 := by decide +kernel
theorem d_X_rank_0 : decode b_X_rank 0 = .ok (.aload_n 0, 1) := by decide +kernel
theorem d_X_rank_1 : decode b_X_rank 1 = .ok (.iload_n 1, 1) := by decide +kernel
theorem d_X_rank_2 : decode b_X_rank 2 = .ok (.invokevirtual 168, 3) := by decide +kernel
theorem d_X_rank_5 : decode b_X_rank 5 = .ok (.aload_n 0, 1) := by decide +kernel
theorem d_X_rank_6 : decode b_X_rank 6 = .ok (.getfield 67, 3) := by decide +kernel
theorem d_X_rank_9 : decode b_X_rank 9 = .ok (.iconst 3, 1) := by decide +kernel
theorem d_X_rank_10 : decode b_X_rank 10 = .ok (.iload_n 1, 1) := by decide +kernel
theorem d_X_rank_11 : decode b_X_rank 11 = .ok (.invokevirtual 143, 3) := by decide +kernel
theorem d_X_rank_14 : decode b_X_rank 14 = .ok (.aload_n 0, 1) := by decide +kernel
theorem d_X_rank_15 : decode b_X_rank 15 = .ok (.getfield 12, 3) := by decide +kernel
theorem d_X_rank_18 : decode b_X_rank 18 = .ok (.iload_n 1, 1) := by decide +kernel
theorem d_X_rank_19 : decode b_X_rank 19 = .ok (.invokevirtual 193, 3) := by decide +kernel
theorem d_X_rank_22 : decode b_X_rank 22 = .ok (.ldc2_w 197, 3) := by decide +kernel
theorem d_X_rank_25 : decode b_X_rank 25 = .ok (.land, 1) := by decide +kernel
theorem d_X_rank_26 : decode b_X_rank 26 = .ok (.lstore_n 2, 1) := by decide +kernel
theorem d_X_rank_27 : decode b_X_rank 27 = .ok (.iconst 0, 1) := by decide +kernel
theorem d_X_rank_28 : decode b_X_rank 28 = .ok (.istore 4, 2) := by decide +kernel
theorem d_X_rank_30 : decode b_X_rank 30 = .ok (.iload 4, 2) := by decide +kernel
theorem d_X_rank_32 : decode b_X_rank 32 = .ok (.aload_n 0, 1) := by decide +kernel
theorem d_X_rank_33 : decode b_X_rank 33 = .ok (.getfield 33, 3) := by decide +kernel
theorem d_X_rank_36 : decode b_X_rank 36 = .ok (.invokevirtual 150, 3) := by decide +kernel
theorem d_X_rank_39 : decode b_X_rank 39 = .ok (.if_icmp .ge 64, 3) := by decide +kernel
theorem d_X_rank_42 : decode b_X_rank 42 = .ok (.aload_n 0, 1) := by decide +kernel
theorem d_X_rank_43 : decode b_X_rank 43 = .ok (.getfield 33, 3) := by decide +kernel
theorem d_X_rank_46 : decode b_X_rank 46 = .ok (.iload 4, 2) := by decide +kernel
theorem d_X_rank_48 : decode b_X_rank 48 = .ok (.aload_n 0, 1) := by decide +kernel
theorem d_X_rank_49 : decode b_X_rank 49 = .ok (.getfield 12, 3) := by decide +kernel
theorem d_X_rank_52 : decode b_X_rank 52 = .ok (.invokevirtual 199, 3) := by decide +kernel
theorem d_X_rank_55 : decode b_X_rank 55 = .ok (.ldc2_w 197, 3) := by decide +kernel
theorem d_X_rank_58 : decode b_X_rank 58 = .ok (.land, 1) := by decide +kernel
theorem d_X_rank_59 : decode b_X_rank 59 = .ok (.lstore 5, 2) := by decide +kernel
theorem d_X_rank_61 : decode b_X_rank 61 = .ok (.lload 5, 2) := by decide +kernel
theorem d_X_rank_63 : decode b_X_rank 63 = .ok (.lload_n 2, 1) := by decide +kernel
theorem d_X_rank_64 : decode b_X_rank 64 = .ok (.lor, 1) := by decide +kernel
theorem d_X_rank_65 : decode b_X_rank 65 = .ok (.invokestatic 202, 3) := by decide +kernel
theorem d_X_rank_68 : decode b_X_rank 68 = .ok (.istore 7, 2) := by decide +kernel
theorem d_X_rank_70 : decode b_X_rank 70 = .ok (.aload_n 0, 1) := by decide +kernel
theorem d_X_rank_71 : decode b_X_rank 71 = .ok (.getfield 67, 3) := by decide +kernel
theorem d_X_rank_74 : decode b_X_rank 74 = .ok (.iload 4, 2) := by decide +kernel
theorem d_X_rank_76 : decode b_X_rank 76 = .ok (.lload 5, 2) := by decide +kernel
theorem d_X_rank_78 : decode b_X_rank 78 = .ok (.lload_n 2, 1) := by decide +kernel
theorem d_X_rank_79 : decode b_X_rank 79 = .ok (.land, 1) := by decide +kernel
theorem d_X_rank_80 : decode b_X_rank 80 = .ok (.invokestatic 202, 3) := by decide +kernel
theorem d_X_rank_83 : decode b_X_rank 83 = .ok (.iload 7, 2) := by decide +kernel
theorem d_X_rank_85 : decode b_X_rank 85 = .ok (.ifCond .ne 7, 3) := by decide +kernel
theorem d_X_rank_88 : decode b_X_rank 88 = .ok (.iconst 1, 1) := by decide +kernel
theorem d_X_rank_89 : decode b_X_rank 89 = .ok (.goto 5, 3) := by decide +kernel
theorem d_X_rank_92 : decode b_X_rank 92 = .ok (.iload 7, 2) := by decide +kernel
theorem d_X_rank_94 : decode b_X_rank 94 = .ok (.invokevirtual 208, 3) := by decide +kernel
theorem d_X_rank_97 : decode b_X_rank 97 = .ok (.iinc 4 1, 3) := by decide +kernel
theorem d_X_rank_100 : decode b_X_rank 100 = .ok (.goto (-70), 3) := by decide +kernel
theorem d_X_rank_103 : decode b_X_rank 103 = .ok (.aload_n 0, 1) := by decide +kernel
theorem d_X_rank_104 : decode b_X_rank 104 = .ok (.getfield 67, 3) := by decide +kernel
theorem d_X_rank_107 : decode b_X_rank 107 = .ok (.invokevirtual 167, 3) := by decide +kernel
theorem d_X_rank_110 : decode b_X_rank 110 = .ok (.ireturn, 1) := by decide +kernel
abbrev b_X_goal : ByteArray := prog_1_method_11_code
abbrev y_X_goal : MethodName := ⟨"ShapeSearch", "goal", "(II)I"⟩
abbrev ws_X_goal : List Cond := .code y_X_goal b_X_goal 5 (some .int) :: BG
theorem hd_X_goal : y_X_goal.cls ≠ "java/lang/invoke/MethodHandle" ∧ y_X_goal.cls ≠ "java/lang/invoke/VarHandle" ∧ (parseMethodDescriptor y_X_goal.desc).map (fun d => d.parameters.length) = some 2 := by decide +kernel
theorem d_X_goal_0 : decode b_X_goal 0 = .ok (.aload_n 0, 1) := by decide +kernel
theorem d_X_goal_1 : decode b_X_goal 1 = .ok (.getfield 67, 3) := by decide +kernel
theorem d_X_goal_4 : decode b_X_goal 4 = .ok (.iload_n 1, 1) := by decide +kernel
theorem d_X_goal_5 : decode b_X_goal 5 = .ok (.invokevirtual 211, 3) := by decide +kernel
theorem d_X_goal_8 : decode b_X_goal 8 = .ok (.ifCond .eq 30, 3) := by decide +kernel
theorem d_X_goal_11 : decode b_X_goal 11 = .ok (.aload_n 0, 1) := by decide +kernel
theorem d_X_goal_12 : decode b_X_goal 12 = .ok (.getfield 67, 3) := by decide +kernel
theorem d_X_goal_15 : decode b_X_goal 15 = .ok (.invokevirtual 224, 3) := by decide +kernel
theorem d_X_goal_18 : decode b_X_goal 18 = .ok (.iconst 2, 1) := by decide +kernel
theorem d_X_goal_19 : decode b_X_goal 19 = .ok (.if_icmp .ne 19, 3) := by decide +kernel
theorem d_X_goal_22 : decode b_X_goal 22 = .ok (.iload_n 2, 1) := by decide +kernel
theorem d_X_goal_23 : decode b_X_goal 23 = .ok (.ifCond .lt 15, 3) := by decide +kernel
theorem d_X_goal_26 : decode b_X_goal 26 = .ok (.iload_n 2, 1) := by decide +kernel
theorem d_X_goal_27 : decode b_X_goal 27 = .ok (.aload_n 0, 1) := by decide +kernel
theorem d_X_goal_28 : decode b_X_goal 28 = .ok (.getfield 67, 3) := by decide +kernel
theorem d_X_goal_31 : decode b_X_goal 31 = .ok (.iload_n 1, 1) := by decide +kernel
theorem d_X_goal_32 : decode b_X_goal 32 = .ok (.invokevirtual 218, 3) := by decide +kernel
theorem d_X_goal_35 : decode b_X_goal 35 = .ok (.if_icmp .lt 13, 3) := by decide +kernel
theorem d_X_goal_38 : decode b_X_goal 38 = .ok (.new 79, 3) := by decide +kernel
theorem d_X_goal_41 : decode b_X_goal 41 = .ok (.dup, 1) := by decide +kernel
theorem d_X_goal_42 : decode b_X_goal 42 = .ok (.ldc 227, 2) := by decide +kernel
theorem d_X_goal_44 : decode b_X_goal 44 = .ok (.invokespecial 83, 3) := by decide +kernel
theorem d_X_goal_47 : decode b_X_goal 47 = .ok (.athrow, 1) := by decide +kernel
theorem d_X_goal_48 : decode b_X_goal 48 = .ok (.aload_n 0, 1) := by decide +kernel
theorem d_X_goal_49 : decode b_X_goal 49 = .ok (.getfield 67, 3) := by decide +kernel
theorem d_X_goal_52 : decode b_X_goal 52 = .ok (.iload_n 1, 1) := by decide +kernel
theorem d_X_goal_53 : decode b_X_goal 53 = .ok (.invokevirtual 212, 3) := by decide +kernel
theorem d_X_goal_56 : decode b_X_goal 56 = .ok (.istore_n 3, 1) := by decide +kernel
theorem d_X_goal_57 : decode b_X_goal 57 = .ok (.aload_n 0, 1) := by decide +kernel
theorem d_X_goal_58 : decode b_X_goal 58 = .ok (.getfield 42, 3) := by decide +kernel
theorem d_X_goal_61 : decode b_X_goal 61 = .ok (.aload_n 0, 1) := by decide +kernel
theorem d_X_goal_62 : decode b_X_goal 62 = .ok (.getfield 33, 3) := by decide +kernel
theorem d_X_goal_65 : decode b_X_goal 65 = .ok (.iload_n 3, 1) := by decide +kernel
theorem d_X_goal_66 : decode b_X_goal 66 = .ok (.invokevirtual 177, 3) := by decide +kernel
theorem d_X_goal_69 : decode b_X_goal 69 = .ok (.aload_n 0, 1) := by decide +kernel
theorem d_X_goal_70 : decode b_X_goal 70 = .ok (.getfield 67, 3) := by decide +kernel
theorem d_X_goal_73 : decode b_X_goal 73 = .ok (.invokevirtual 229, 3) := by decide +kernel
theorem d_X_goal_76 : decode b_X_goal 76 = .ok (.ldc2_w 180, 3) := by decide +kernel
theorem d_X_goal_79 : decode b_X_goal 79 = .ok (.invokevirtual 182, 3) := by decide +kernel
theorem d_X_goal_82 : decode b_X_goal 82 = .ok (.pop, 1) := by decide +kernel
theorem d_X_goal_83 : decode b_X_goal 83 = .ok (.aload_n 0, 1) := by decide +kernel
theorem d_X_goal_84 : decode b_X_goal 84 = .ok (.getfield 42, 3) := by decide +kernel
theorem d_X_goal_87 : decode b_X_goal 87 = .ok (.aload_n 0, 1) := by decide +kernel
theorem d_X_goal_88 : decode b_X_goal 88 = .ok (.getfield 33, 3) := by decide +kernel
theorem d_X_goal_91 : decode b_X_goal 91 = .ok (.iload_n 3, 1) := by decide +kernel
theorem d_X_goal_92 : decode b_X_goal 92 = .ok (.iload_n 2, 1) := by decide +kernel
theorem d_X_goal_93 : decode b_X_goal 93 = .ok (.invokevirtual 232, 3) := by decide +kernel
theorem d_X_goal_96 : decode b_X_goal 96 = .ok (.bipush 100, 2) := by decide +kernel
theorem d_X_goal_98 : decode b_X_goal 98 = .ok (.invokevirtual 234, 3) := by decide +kernel
theorem d_X_goal_101 : decode b_X_goal 101 = .ok (.istore 4, 2) := by decide +kernel
theorem d_X_goal_103 : decode b_X_goal 103 = .ok (.iload 4, 2) := by decide +kernel
theorem d_X_goal_105 : decode b_X_goal 105 = .ok (.iconst (-1), 1) := by decide +kernel
theorem d_X_goal_106 : decode b_X_goal 106 = .ok (.if_icmp .ne 13, 3) := by decide +kernel
theorem d_X_goal_109 : decode b_X_goal 109 = .ok (.new 95, 3) := by decide +kernel
theorem d_X_goal_112 : decode b_X_goal 112 = .ok (.dup, 1) := by decide +kernel
theorem d_X_goal_113 : decode b_X_goal 113 = .ok (.ldc 237, 2) := by decide +kernel
theorem d_X_goal_115 : decode b_X_goal 115 = .ok (.invokespecial 99, 3) := by decide +kernel
theorem d_X_goal_118 : decode b_X_goal 118 = .ok (.athrow, 1) := by decide +kernel
theorem d_X_goal_119 : decode b_X_goal 119 = .ok (.iload 4, 2) := by decide +kernel
theorem d_X_goal_121 : decode b_X_goal 121 = .ok (.ireturn, 1) := by decide +kernel
theorem k3_115 : Cond.methodLink "ShapeSearch" 168 ⟨"ShapeSearch", "checkGoal", "(I)V"⟩ ∈ BG := List.mem_filter.mpr ⟨in_3 (List.mem_of_getElem? (i := 115) rfl), rfl⟩
theorem k3_118 : Cond.code ⟨"ShapeSearch", "checkGoal", "(I)V"⟩ prog_1_method_19_code 2 (none : Option Jvm.ClassFile.FieldType) ∈ BG := List.mem_filter.mpr ⟨in_3 (List.mem_of_getElem? (i := 118) rfl), rfl⟩
theorem k3_117 : Cond.instanceMethod ⟨"ShapeSearch", "checkGoal", "(I)V"⟩ ∈ BG := List.mem_filter.mpr ⟨in_3 (List.mem_of_getElem? (i := 117) rfl), rfl⟩
theorem k3_120 : Cond.methodLink "ShapeSearch" 171 ⟨"ShapeSearch$Statements", "putInOrder", "()V"⟩ ∈ BG := List.mem_filter.mpr ⟨in_3 (List.mem_of_getElem? (i := 120) rfl), rfl⟩
theorem k3_124 : Cond.methodLink "ShapeSearch" 174 ⟨"ShapeSearch$Statements", "ordered", "(I)I"⟩ ∈ BG := List.mem_filter.mpr ⟨in_3 (List.mem_of_getElem? (i := 124) rfl), rfl⟩
theorem k3_128 : Cond.methodLink "ShapeSearch" 186 ⟨"ShapeSearch$Statements", "openVariables", "(ILShapeSearch$Terms;)I"⟩ ∈ BG := List.mem_filter.mpr ⟨in_3 (List.mem_of_getElem? (i := 128) rfl), rfl⟩
theorem k3_147 : Cond.methodLink "ShapeSearch" 190 ⟨"ShapeSearch$Statements", "premises", "(I)I"⟩ ∈ BG := List.mem_filter.mpr ⟨in_3 (List.mem_of_getElem? (i := 147) rfl), rfl⟩
theorem k3_155 : Cond.methodLink "ShapeSearch" 193 ⟨"ShapeSearch$Terms", "within", "(I)J"⟩ ∈ BG := List.mem_filter.mpr ⟨in_3 (List.mem_of_getElem? (i := 155) rfl), rfl⟩
theorem k3_156 : Cond.constantLong "ShapeSearch" 197 1073741823 ∈ BG := List.mem_filter.mpr ⟨in_3 (List.mem_of_getElem? (i := 156) rfl), rfl⟩
theorem k3_157 : Cond.methodLink "ShapeSearch" 199 ⟨"ShapeSearch$Statements", "within", "(ILShapeSearch$Terms;)J"⟩ ∈ BG := List.mem_filter.mpr ⟨in_3 (List.mem_of_getElem? (i := 157) rfl), rfl⟩
theorem k3_160 : Cond.code ⟨"ShapeSearch$Statements", "within", "(ILShapeSearch$Terms;)J"⟩ prog_6_method_9_code 3 (some .long) ∈ BG := List.mem_filter.mpr ⟨in_3 (List.mem_of_getElem? (i := 160) rfl), rfl⟩
theorem k3_158 : Cond.instanceMethod ⟨"ShapeSearch$Statements", "within", "(ILShapeSearch$Terms;)J"⟩ ∈ BG := List.mem_filter.mpr ⟨in_3 (List.mem_of_getElem? (i := 158) rfl), rfl⟩
theorem k3_159 : Cond.selects "ShapeSearch$Statements" ⟨"ShapeSearch$Statements", "within", "(ILShapeSearch$Terms;)J"⟩ ⟨"ShapeSearch$Statements", "within", "(ILShapeSearch$Terms;)J"⟩ ∈ BG := List.mem_filter.mpr ⟨in_3 (List.mem_of_getElem? (i := 159) rfl), rfl⟩
theorem k3_161 : Cond.methodLink "ShapeSearch" 202 ⟨"java/lang/Long", "bitCount", "(J)I"⟩ ∈ BG := List.mem_filter.mpr ⟨in_3 (List.mem_of_getElem? (i := 161) rfl), rfl⟩
theorem k3_162 : Cond.methodLink "ShapeSearch" 208 ⟨"ShapeSearch$Hits", "addByShare", "(III)V"⟩ ∈ BG := List.mem_filter.mpr ⟨in_3 (List.mem_of_getElem? (i := 162) rfl), rfl⟩
theorem k3_165 : Cond.code ⟨"ShapeSearch$Hits", "addByShare", "(III)V"⟩ prog_3_method_5_code 5 (none : Option Jvm.ClassFile.FieldType) ∈ BG := List.mem_filter.mpr ⟨in_3 (List.mem_of_getElem? (i := 165) rfl), rfl⟩
theorem k3_163 : Cond.instanceMethod ⟨"ShapeSearch$Hits", "addByShare", "(III)V"⟩ ∈ BG := List.mem_filter.mpr ⟨in_3 (List.mem_of_getElem? (i := 163) rfl), rfl⟩
theorem k3_164 : Cond.selects "ShapeSearch$Hits" ⟨"ShapeSearch$Hits", "addByShare", "(III)V"⟩ ⟨"ShapeSearch$Hits", "addByShare", "(III)V"⟩ ∈ BG := List.mem_filter.mpr ⟨in_3 (List.mem_of_getElem? (i := 164) rfl), rfl⟩
theorem k3_175 : Cond.methodLink "ShapeSearch" 232 ⟨"ShapeSearch$Statements", "premise", "(II)I"⟩ ∈ BG := List.mem_filter.mpr ⟨in_3 (List.mem_of_getElem? (i := 175) rfl), rfl⟩
theorem k3_176 : Cond.methodLink "ShapeSearch" 234 ⟨"ShapeSearch$Matcher", "instance", "(II)I"⟩ ∈ BG := List.mem_filter.mpr ⟨in_3 (List.mem_of_getElem? (i := 176) rfl), rfl⟩
abbrev wv_92 (cI cJ cZ : ClassId) (aX aX_arities aT aT_heads aT_places aT_olders aT_sizes aT_withins aT_newest aS aS_premises aS_premiseCounts aS_conclusions aS_order aM aM_images aM_path aF aE aH aH_statementRow aH_firstRow aH_secondRow : Nat) (X_namesUsed : Int32) (T_count : Int32) (nT_heads : Nat) (T_heads : (Nat → Int32)) (nT_places : Nat) (T_places : (Nat → Int32)) (nT_withins : Nat) (T_withins : (Nat → Int64)) (S_count : Int32) (S_premises : (Nat → Int32)) (S_premiseCounts : (Nat → Int32)) (S_conclusions : (Nat → Int32)) (S_order : (Nat → Int32)) (M_images : (Nat → Int32)) (H_kind : Int32) (H_subject : Int32) (H_count : Int32) (H_statementRow : (Nat → Int32)) (H_firstRow : (Nat → Int32)) (H_secondRow : (Nat → Int32)) : va_W := [(aX, .inr (0, [.ref aT, .ref aX_arities, .int X_namesUsed, .ref aS, .ref aM, .ref aF, .ref aE, .ref aH])), (aT, .inr (1, [.ref aT_heads, .ref aT_places, .ref aT_olders, .ref aT_sizes, .ref aT_withins, .ref aT_newest, .int T_count])), (aT_heads, .inl (cI, nT_heads, .inl T_heads)), (aT_places, .inl (cI, nT_places, .inl T_places)), (aT_withins, .inl (cJ, nT_withins, .inr (.inl T_withins))), (aS, .inr (2, [.ref aS_premises, .ref aS_premiseCounts, .ref aS_conclusions, .ref aS_order, .int S_count])), (aS_premises, .inl (cI, 120, .inl S_premises)), (aS_premiseCounts, .inl (cI, 30, .inl S_premiseCounts)), (aS_conclusions, .inl (cI, 30, .inl S_conclusions)), (aS_order, .inl (cI, 30, .inl S_order)), (aM, .inr (3, [.ref aT, .ref aM_images, .ref aM_path])), (aM_images, .inl (cI, 100, .inl M_images)), (aH, .inr (6, [.ref aH_statementRow, .ref aH_firstRow, .ref aH_secondRow, .int H_kind, .int H_subject, .int H_count])), (aH_statementRow, .inl (cI, 30, .inl H_statementRow)), (aH_firstRow, .inl (cI, 30, .inl H_firstRow)), (aH_secondRow, .inl (cI, 30, .inl H_secondRow))]
abbrev wv_93 (cI cJ cZ : ClassId) (aX aX_arities aT aT_heads aT_places aT_olders aT_sizes aT_withins aT_newest aS aS_premises aS_premiseCounts aS_conclusions aS_order aM aF aE aH aH_statementRow aH_firstRow aH_secondRow : Nat) (X_namesUsed : Int32) (T_count : Int32) (nT_withins : Nat) (T_withins : (Nat → Int64)) (S_count : Int32) (S_premises : (Nat → Int32)) (S_premiseCounts : (Nat → Int32)) (S_conclusions : (Nat → Int32)) (H_kind : Int32) (H_subject : Int32) (H_count : Int32) (H_statementRow : (Nat → Int32)) (H_firstRow : (Nat → Int32)) (H_secondRow : (Nat → Int32)) : va_W := [(aX, .inr (0, [.ref aT, .ref aX_arities, .int X_namesUsed, .ref aS, .ref aM, .ref aF, .ref aE, .ref aH])), (aT, .inr (1, [.ref aT_heads, .ref aT_places, .ref aT_olders, .ref aT_sizes, .ref aT_withins, .ref aT_newest, .int T_count])), (aT_withins, .inl (cJ, nT_withins, .inr (.inl T_withins))), (aS, .inr (2, [.ref aS_premises, .ref aS_premiseCounts, .ref aS_conclusions, .ref aS_order, .int S_count])), (aS_premises, .inl (cI, 120, .inl S_premises)), (aS_premiseCounts, .inl (cI, 30, .inl S_premiseCounts)), (aS_conclusions, .inl (cI, 30, .inl S_conclusions)), (aH, .inr (6, [.ref aH_statementRow, .ref aH_firstRow, .ref aH_secondRow, .int H_kind, .int H_subject, .int H_count])), (aH_statementRow, .inl (cI, 30, .inl H_statementRow)), (aH_firstRow, .inl (cI, 30, .inl H_firstRow)), (aH_secondRow, .inl (cI, 30, .inl H_secondRow))]
abbrev wv_94 (cI cJ cZ : ClassId) (aX aX_arities aT aT_heads aT_places aT_olders aT_sizes aT_withins aT_newest aS aS_premises aS_premiseCounts aS_conclusions aS_order aM aM_images aM_path aF aE aH aH_statementRow aH_firstRow aH_secondRow : Nat) (X_namesUsed : Int32) (T_count : Int32) (nT_heads : Nat) (T_heads : (Nat → Int32)) (nT_places : Nat) (T_places : (Nat → Int32)) (nT_olders : Nat) (T_olders : (Nat → Int32)) (nT_sizes : Nat) (T_sizes : (Nat → Int32)) (nT_withins : Nat) (T_withins : (Nat → Int64)) (T_newest : (Nat → Int32)) (S_count : Int32) (S_premises : (Nat → Int32)) (S_premiseCounts : (Nat → Int32)) (S_conclusions : (Nat → Int32)) (M_images : (Nat → Int32)) (M_path : (Nat → Int32)) (H_kind : Int32) (H_subject : Int32) (H_count : Int32) (H_statementRow : (Nat → Int32)) (H_secondRow : (Nat → Int32)) : va_W := [(aX, .inr (0, [.ref aT, .ref aX_arities, .int X_namesUsed, .ref aS, .ref aM, .ref aF, .ref aE, .ref aH])), (aT, .inr (1, [.ref aT_heads, .ref aT_places, .ref aT_olders, .ref aT_sizes, .ref aT_withins, .ref aT_newest, .int T_count])), (aT_heads, .inl (cI, nT_heads, .inl T_heads)), (aT_places, .inl (cI, nT_places, .inl T_places)), (aT_olders, .inl (cI, nT_olders, .inl T_olders)), (aT_sizes, .inl (cI, nT_sizes, .inl T_sizes)), (aT_withins, .inl (cJ, nT_withins, .inr (.inl T_withins))), (aT_newest, .inl (cI, 256, .inl T_newest)), (aS, .inr (2, [.ref aS_premises, .ref aS_premiseCounts, .ref aS_conclusions, .ref aS_order, .int S_count])), (aS_premises, .inl (cI, 120, .inl S_premises)), (aS_premiseCounts, .inl (cI, 30, .inl S_premiseCounts)), (aS_conclusions, .inl (cI, 30, .inl S_conclusions)), (aM, .inr (3, [.ref aT, .ref aM_images, .ref aM_path])), (aM_images, .inl (cI, 100, .inl M_images)), (aM_path, .inl (cI, 100, .inl M_path)), (aH, .inr (6, [.ref aH_statementRow, .ref aH_firstRow, .ref aH_secondRow, .int H_kind, .int H_subject, .int H_count])), (aH_statementRow, .inl (cI, 30, .inl H_statementRow)), (aH_secondRow, .inl (cI, 30, .inl H_secondRow))]
def f_X_fit_L23 (T_count : Int32) (nT_heads : Nat) (T_heads : (Nat → Int32)) (nT_places : Nat) (T_places : (Nat → Int32)) (nT_withins : Nat) (T_withins : (Nat → Int64)) (S_count : Int32) (S_premises : (Nat → Int32)) (S_premiseCounts : (Nat → Int32)) (S_conclusions : (Nat → Int32)) : Nat → (Nat → Int32) → (Nat → Int32) → Int32 → Int32 → Int32 → (Nat → Int32) → (Nat → Int32) → (Nat → Int32) → Int32 → Int32 → Option (Nat × Int32 × (Nat → Int32) × (Nat → Int32) × Int32 × Int32 × Int32 × (Nat → Int32) × (Nat → Int32) × (Nat → Int32))
  | 0, _, _, _, _, _, _, _, _, _, _ => none
  | n + 1, S_order_23, M_images_23, H_kind_23, H_subject_23, H_count_23, H_statementRow_23, H_firstRow_23, H_secondRow_23, x1_23, x2_23 =>
    (f_S_count S_count).bind fun r5 =>
    if r5 ≤ x2_23 then
      (f_H_count H_count_23).bind fun r7 =>
      some (0, r7, S_order_23, M_images_23, H_kind_23, H_subject_23, H_count_23, H_statementRow_23, H_firstRow_23, H_secondRow_23)
    else
      (f_S_ordered S_count S_order_23 x2_23).bind fun r8 =>
      (f_S_conclusion S_count S_conclusions r8).bind fun r9 =>
      (f_M_matches T_count nT_heads T_heads nT_places T_places nT_withins T_withins M_images_23 r9 x1_23 (273804165120 : Int64)).bind fun r10 =>
      if r10.1 = 0 then
        nm (x2_23 + (1 : Int32)) fun x12 =>
        (f_X_fit_L23 T_count nT_heads T_heads nT_places T_places nT_withins T_withins S_count S_premises S_premiseCounts S_conclusions n) S_order_23 r10.2 H_kind_23 H_subject_23 H_count_23 H_statementRow_23 H_firstRow_23 H_secondRow_23 x1_23 x12
      else
        (f_S_openVariables T_count nT_withins T_withins S_count S_premises S_premiseCounts S_conclusions r8).bind fun r13 =>
        (f_S_premises S_count S_premiseCounts r8).bind fun r14 =>
        (f_H_add H_count_23 H_statementRow_23 H_firstRow_23 H_secondRow_23 r8 r13 r14).bind fun r15 =>
        nm (x2_23 + (1 : Int32)) fun x16 =>
        (f_X_fit_L23 T_count nT_heads T_heads nT_places T_places nT_withins T_withins S_count S_premises S_premiseCounts S_conclusions n) S_order_23 r10.2 H_kind_23 H_subject_23 r15.1 r15.2.1 r15.2.2.1 r15.2.2.2 x1_23 x16
def f_X_fit (T_count : Int32) (nT_heads : Nat) (T_heads : (Nat → Int32)) (nT_places : Nat) (T_places : (Nat → Int32)) (nT_withins : Nat) (T_withins : (Nat → Int64)) (S_count : Int32) (S_premises : (Nat → Int32)) (S_premiseCounts : (Nat → Int32)) (S_conclusions : (Nat → Int32)) (S_order : (Nat → Int32)) (M_images : (Nat → Int32)) (H_kind : Int32) (H_subject : Int32) (H_count : Int32) (H_statementRow : (Nat → Int32)) (H_firstRow : (Nat → Int32)) (H_secondRow : (Nat → Int32)) (p0 : Int32) : Option (Nat × Int32 × (Nat → Int32) × (Nat → Int32) × Int32 × Int32 × Int32 × (Nat → Int32) × (Nat → Int32) × (Nat → Int32)) :=
  (f_X_checkGoal T_count nT_withins T_withins p0).bind fun r1 =>
  if r1 = 0 then
    (f_H_begin H_kind H_subject H_count (2 : Int32) p0).bind fun r3 =>
    (f_S_putInOrder S_count S_premiseCounts S_order).bind fun r4 =>
    f_X_fit_L23 T_count nT_heads T_heads nT_places T_places nT_withins T_withins S_count S_premises S_premiseCounts S_conclusions FU r4 M_images r3.1 r3.2.1 r3.2.2 H_statementRow H_firstRow H_secondRow p0 (0 : Int32)
  else
    some (r1, (0 : Int32), S_order, M_images, H_kind, H_subject, H_count, H_statementRow, H_firstRow, H_secondRow)
abbrev rm_X_fit : Room := { frames := 7, cells := 1, slots := 6, locals := 111 }
set_option maxHeartbeats 4000000 in
set_option maxRecDepth 100000 in
theorem c_X_fit (l : Launch) (D : va_G) (cI cJ cZ : ClassId) (aX aX_arities aT aT_heads aT_places aT_olders aT_sizes aT_withins aT_newest aS aS_premises aS_premiseCounts aS_conclusions aS_order aM aM_images aM_path aF aE aH aH_statementRow aH_firstRow aH_secondRow : Nat) (sz : Nat) (X_namesUsed : Int32) (T_count : Int32) (nT_heads : Nat) (T_heads : (Nat → Int32)) (nT_places : Nat) (T_places : (Nat → Int32)) (nT_withins : Nat) (T_withins : (Nat → Int64)) (S_count : Int32) (S_premises : (Nat → Int32)) (S_premiseCounts : (Nat → Int32)) (S_conclusions : (Nat → Int32)) (S_order : (Nat → Int32)) (M_images : (Nat → Int32)) (H_kind : Int32) (H_subject : Int32) (H_count : Int32) (H_statementRow : (Nat → Int32)) (H_firstRow : (Nat → Int32)) (H_secondRow : (Nat → Int32)) (p0 : Int32) (aK : Nat) (cK : Cell) (hst : l.stackTraces = false) (o : Nat × Int32 × (Nat → Int32) × (Nat → Int32) × Int32 × Int32 × Int32 × (Nat → Int32) × (Nat → Int32) × (Nat → Int32)) (hf : f_X_fit T_count nT_heads T_heads nT_places T_places nT_withins T_withins S_count S_premises S_premiseCounts S_conclusions S_order M_images H_kind H_subject H_count H_statementRow H_firstRow H_secondRow p0 = some o) : XMet l y_X_fit (ws_X_fit) rm_X_fit (XPc D vwCl cI cJ cZ aK cK [.ref aX, .int p0] (wv_92 cI cJ cZ aX aX_arities aT aT_heads aT_places aT_olders aT_sizes aT_withins aT_newest aS aS_premises aS_premiseCounts aS_conclusions aS_order aM aM_images aM_path aF aE aH aH_statementRow aH_firstRow aH_secondRow X_namesUsed T_count nT_heads T_heads nT_places T_places nT_withins T_withins S_count S_premises S_premiseCounts S_conclusions S_order M_images H_kind H_subject H_count H_statementRow H_firstRow H_secondRow) sz) (QN D vwCl o.1 (some (.int o.2.1)) (fun as => (wv_92 cI cJ cZ aX aX_arities aT aT_heads aT_places aT_olders aT_sizes aT_withins aT_newest aS aS_premises aS_premiseCounts aS_conclusions aS_order aM aM_images aM_path aF aE aH aH_statementRow aH_firstRow aH_secondRow X_namesUsed T_count nT_heads T_heads nT_places T_places nT_withins T_withins S_count S_premises S_premiseCounts S_conclusions o.2.2.1 o.2.2.2.1 o.2.2.2.2.1 o.2.2.2.2.2.1 o.2.2.2.2.2.2.1 o.2.2.2.2.2.2.2.1 o.2.2.2.2.2.2.2.2.1 o.2.2.2.2.2.2.2.2.2)) (va_A (wv_92 cI cJ cZ aX aX_arities aT aT_heads aT_places aT_olders aT_sizes aT_withins aT_newest aS aS_premises aS_premiseCounts aS_conclusions aS_order aM aM_images aM_path aF aE aH aH_statementRow aH_firstRow aH_secondRow X_namesUsed T_count nT_heads T_heads nT_places T_places nT_withins T_withins S_count S_premises S_premiseCounts S_conclusions S_order M_images H_kind H_subject H_count H_statementRow H_firstRow H_secondRow) sz)) (QT D vwCl o.1 (fun as => (wv_92 cI cJ cZ aX aX_arities aT aT_heads aT_places aT_olders aT_sizes aT_withins aT_newest aS aS_premises aS_premiseCounts aS_conclusions aS_order aM aM_images aM_path aF aE aH aH_statementRow aH_firstRow aH_secondRow X_namesUsed T_count nT_heads T_heads nT_places T_places nT_withins T_withins S_count S_premises S_premiseCounts S_conclusions o.2.2.1 o.2.2.2.1 o.2.2.2.2.1 o.2.2.2.2.2.1 o.2.2.2.2.2.2.1 o.2.2.2.2.2.2.2.1 o.2.2.2.2.2.2.2.2.1 o.2.2.2.2.2.2.2.2.2)) (va_A (wv_92 cI cJ cZ aX aX_arities aT aT_heads aT_places aT_olders aT_sizes aT_withins aT_newest aS aS_premises aS_premiseCounts aS_conclusions aS_order aM aM_images aM_path aF aE aH aH_statementRow aH_firstRow aH_secondRow X_namesUsed T_count nT_heads T_heads nT_places T_places nT_withins T_withins S_count S_premises S_premiseCounts S_conclusions S_order M_images H_kind H_subject H_count H_statementRow H_firstRow H_secondRow) sz)) 1 6 (va_A (wv_92 cI cJ cZ aX aX_arities aT aT_heads aT_places aT_olders aT_sizes aT_withins aT_newest aS aS_premises aS_premiseCounts aS_conclusions aS_order aM aM_images aM_path aF aE aH aH_statementRow aH_firstRow aH_secondRow X_namesUsed T_count nT_heads T_heads nT_places T_places nT_withins T_withins S_count S_premises S_premiseCounts S_conclusions S_order M_images H_kind H_subject H_count H_statementRow H_firstRow H_secondRow) sz) := by
  refine XMet.ofW (cc := b_X_fit) (maxL := 4) (ret := (some .int)) (by decide) rfl ?_
  intro p e s m args below meth c s₁ B hml hno hv
  obtain ⟨rfl, rfl, hP, hK, hD0, ⟨hcS0, hE, hSR⟩, hnA⟩ := hv
  have hx := B.exec
  have hb := B.bytes
  have hr := B.returns
  have hts : ∀ w ∈ BG, w.before _ s = true := fun w h => atoms_spec (ws := (ws_X_fit)) B.pre w (List.mem_cons_of_mem _ h)
  have hown : s.vm.findClass RR_X = some m.cls := findClass_of_methodNamed B.named
  have hlocks := B.notSynchronized
  have hD := hD0.self (sz := s.heap.size)
  have hA : ∀ q : Nat, s.heap.size ≤ q → va_A (wv_92 cI cJ cZ aX aX_arities aT aT_heads aT_places aT_olders aT_sizes aT_withins aT_newest aS aS_premises aS_premiseCounts aS_conclusions aS_order aM aM_images aM_path aF aE aH aH_statementRow aH_firstRow aH_secondRow X_namesUsed T_count nT_heads T_heads nT_places T_places nT_withins T_withins S_count S_premises S_premiseCounts S_conclusions S_order M_images H_kind H_subject H_count H_statementRow H_firstRow H_secondRow) s.heap.size q := fun q h => Or.inr h
  have hS : va_S (va_A (wv_92 cI cJ cZ aX aX_arities aT aT_heads aT_places aT_olders aT_sizes aT_withins aT_newest aS aS_premises aS_premiseCounts aS_conclusions aS_order aM aM_images aM_path aF aE aH aH_statementRow aH_firstRow aH_secondRow X_namesUsed T_count nT_heads T_heads nT_places T_places nT_withins T_withins S_count S_premises S_premiseCounts S_conclusions S_order M_images H_kind H_subject H_count H_statementRow H_firstRow H_secondRow) s.heap.size) s.heap s.heap [] := va_S.rf
  generalize va_A (wv_92 cI cJ cZ aX aX_arities aT aT_heads aT_places aT_olders aT_sizes aT_withins aT_newest aS aS_premises aS_premiseCounts aS_conclusions aS_order aM aM_images aM_path aF aE aH aH_statementRow aH_firstRow aH_secondRow X_namesUsed T_count nT_heads T_heads nT_places T_places nT_withins T_withins S_count S_premises S_premiseCounts S_conclusions S_order M_images H_kind H_subject H_count H_statementRow H_firstRow H_secondRow) s.heap.size = A at hD hA hS hnA ⊢
  have hl := lv_entry ([.ref aX, .int p0]) (n := 4) (Nat.le_of_ble_eq_true rfl)
  rw [lg_entry_eq]
  generalize (lg_sl ([.ref aX, .int p0]) ++ List.replicate (4 - (lg_sl ([.ref aX, .int p0])).length) Slot.unset).toArray = ls at hl ⊢
  have hl : lv_has ls 4 [(0, .ref aX), (1, .int p0)] := hl
  have hL23 : ∀ (n23 : Nat), ∀ (S_order_23 : (Nat → Int32)) (M_images_23 : (Nat → Int32)) (H_kind_23 : Int32) (H_subject_23 : Int32) (H_count_23 : Int32) (H_statementRow_23 : (Nat → Int32)) (H_firstRow_23 : (Nat → Int32)) (H_secondRow_23 : (Nat → Int32)) (x1_23 : Int32) (x2_23 : Int32), ∀ (H : Heap) (locs : List Loc), va_P D vwCl (wv_92 cI cJ cZ aX aX_arities aT aT_heads aT_places aT_olders aT_sizes aT_withins aT_newest aS aS_premises aS_premiseCounts aS_conclusions aS_order aM aM_images aM_path aF aE aH aH_statementRow aH_firstRow aH_secondRow X_namesUsed T_count nT_heads T_heads nT_places T_places nT_withins T_withins S_count S_premises S_premiseCounts S_conclusions S_order_23 M_images_23 H_kind_23 H_subject_23 H_count_23 H_statementRow_23 H_firstRow_23 H_secondRow_23) H → va_D A (wv_92 cI cJ cZ aX aX_arities aT aT_heads aT_places aT_olders aT_sizes aT_withins aT_newest aS aS_premises aS_premiseCounts aS_conclusions aS_order aM aM_images aM_path aF aE aH aH_statementRow aH_firstRow aH_secondRow X_namesUsed T_count nT_heads T_heads nT_places T_places nT_withins T_withins S_count S_premises S_premiseCounts S_conclusions S_order_23 M_images_23 H_kind_23 H_subject_23 H_count_23 H_statementRow_23 H_firstRow_23 H_secondRow_23) → va_S A s.heap H locs → ∀ (ls : Array Slot), lv_has ls 4 [(0, .ref aX), (1, .int x1_23), (2, .int x2_23)] → f_X_fit_L23 T_count nT_heads T_heads nT_places T_places nT_withins T_withins S_count S_premises S_premiseCounts S_conclusions n23 S_order_23 M_images_23 H_kind_23 H_subject_23 H_count_23 H_statementRow_23 H_firstRow_23 H_secondRow_23 x1_23 x2_23 = some o → W p l e (headSpec (ws_X_fit) rm_X_fit).room s m ([.ref aX, .int p0] : List Value).toArray below meth c H locs 1 6 (XM below (QN D vwCl o.1 (some (.int o.2.1)) (fun as => (wv_92 cI cJ cZ aX aX_arities aT aT_heads aT_places aT_olders aT_sizes aT_withins aT_newest aS aS_premises aS_premiseCounts aS_conclusions aS_order aM aM_images aM_path aF aE aH aH_statementRow aH_firstRow aH_secondRow X_namesUsed T_count nT_heads T_heads nT_places T_places nT_withins T_withins S_count S_premises S_premiseCounts S_conclusions o.2.2.1 o.2.2.2.1 o.2.2.2.2.1 o.2.2.2.2.2.1 o.2.2.2.2.2.2.1 o.2.2.2.2.2.2.2.1 o.2.2.2.2.2.2.2.2.1 o.2.2.2.2.2.2.2.2.2)) A) (QT D vwCl o.1 (fun as => (wv_92 cI cJ cZ aX aX_arities aT aT_heads aT_places aT_olders aT_sizes aT_withins aT_newest aS aS_premises aS_premiseCounts aS_conclusions aS_order aM aM_images aM_path aF aE aH aH_statementRow aH_firstRow aH_secondRow X_namesUsed T_count nT_heads T_heads nT_places T_places nT_withins T_withins S_count S_premises S_premiseCounts S_conclusions o.2.2.1 o.2.2.2.1 o.2.2.2.2.1 o.2.2.2.2.2.1 o.2.2.2.2.2.2.1 o.2.2.2.2.2.2.2.1 o.2.2.2.2.2.2.2.2.1 o.2.2.2.2.2.2.2.2.2)) A) ([.ref aX, .int p0] : List Value).toArray s 1 6 A) (F0 m 23 ls []) := by
    intro n23
    induction n23 with
    | zero =>
      intro S_order_23 M_images_23 H_kind_23 H_subject_23 H_count_23 H_statementRow_23 H_firstRow_23 H_secondRow_23 x1_23 x2_23 H locs hP hD hS ls hl hf
      rw [f_X_fit_L23] at hf
      cases hf
    | succ n23 ih23 =>
      intro S_order_23 M_images_23 H_kind_23 H_subject_23 H_count_23 H_statementRow_23 H_firstRow_23 H_secondRow_23 x1_23 x2_23 H locs hP hD hS ls hl hf
      rw [f_X_fit_L23] at hf
      refine lv_iload_n hx hb d_X_fit_23 rfl (lv_at hl 2 rfl) ?_
      refine lv_aload_n hx hb d_X_fit_24 rfl (lv_at hl 0 rfl) ?_
      refine va_get (D := D) (ci := 0) (v := .ref aS) (C := RR_X) (T := FF_X) (N := 8) hx hb hts kin_X hown hK.1 hP 0 rfl rfl 3 (by decide) (hts _ k1_206) (fun _ h9 => h9) rfl d_X_fit_25 ?_
      obtain ⟨r5, hr5, hf⟩ := of_bd hf
      refine rd_call (va_runV (As := []) (rest := [.int x2_23]) ⟨hx, hb, hml, hown, hts⟩ (c_S_count l D cI cJ cZ aS aS_premises aS_premiseCounts aS_conclusions aS_order S_count r5 hr5) (bigV 0 hts k2_129 k2_130 k2_131 k1_4 k2_132 rfl rfl hd_S_count ⟨Nat.le_of_ble_eq_true rfl, Nat.le_of_ble_eq_true rfl⟩) (rd_preV hK hP [5] rfl 5 rfl rfl rfl) rfl rfl hl.1 rfl (lv_room (Nat.le_of_ble_eq_true rfl)) d_X_fit_28 ⟨Nat.le_of_ble_eq_true rfl, Nat.le_of_ble_eq_true rfl⟩) ?_
      refine lv_icmp_ge (tgt := 99) hx hb d_X_fit_31 (by decide) (fun c6 => ?_) (fun c6 => ?_)
      · have hf := ite_t c6 hf
        refine lv_aload_n hx hb d_X_fit_99 rfl (lv_at hl 0 rfl) ?_
        refine va_get (D := D) (ci := 0) (v := .ref aH) (C := RR_X) (T := FF_X) (N := 8) hx hb hts kin_X hown hK.1 hP 0 rfl rfl 7 (by decide) (hts _ k1_210) (fun _ h9 => h9) rfl d_X_fit_100 ?_
        obtain ⟨r7, hr7, hf⟩ := of_bd hf
        refine rd_call (va_runV (As := []) (rest := []) ⟨hx, hb, hml, hown, hts⟩ (c_H_count l D cI cJ cZ aH aH_statementRow aH_firstRow aH_secondRow H_kind_23 H_subject_23 H_count_23 r7 hr7) (bigV 0 hts k2_133 k2_134 k2_135 k1_8 k2_136 rfl rfl hd_H_count ⟨Nat.le_of_ble_eq_true rfl, Nat.le_of_ble_eq_true rfl⟩) (rd_preV hK hP [12] rfl 12 rfl rfl rfl) rfl rfl hl.1 rfl (lv_room (Nat.le_of_ble_eq_true rfl)) d_X_fit_103 ⟨Nat.le_of_ble_eq_true rfl, Nat.le_of_ble_eq_true rfl⟩) ?_
        obtain rfl := Option.some.inj hf
        refine W.widen (k := 1) (n := 6) (by omega) (by omega) (xm_ret ?_)
        exact W.iret (v := r7) hx hb hr (fun t ht hW => ⟨_, rfl, rfl, rfl, fun _ => 0, by rw [ht]; exact hP, hD, hS.F ht⟩) hS.2.2 d_X_fit_106
      · have hf := ite_f c6 hf
        refine lv_aload_n hx hb d_X_fit_34 rfl (lv_at hl 0 rfl) ?_
        refine va_get (D := D) (ci := 0) (v := .ref aS) (C := RR_X) (T := FF_X) (N := 8) hx hb hts kin_X hown hK.1 hP 0 rfl rfl 3 (by decide) (hts _ k1_206) (fun _ h9 => h9) rfl d_X_fit_35 ?_
        refine lv_iload_n hx hb d_X_fit_38 rfl (lv_at hl 2 rfl) ?_
        obtain ⟨r8, hr8, hf⟩ := of_bd hf
        refine rd_call (va_runV (As := [.int x2_23]) (rest := []) ⟨hx, hb, hml, hown, hts⟩ (c_S_ordered l D cI cJ cZ aS aS_premises aS_premiseCounts aS_conclusions aS_order S_count S_order_23 x2_23 r8 hr8) (bigV 1 hts k3_124 k3_125 k3_126 k1_4 k3_127 rfl rfl hd_S_ordered ⟨Nat.le_of_ble_eq_true rfl, Nat.le_of_ble_eq_true rfl⟩) (rd_preV hK hP [5, 9] rfl 5 rfl rfl rfl) rfl rfl hl.1 rfl (lv_room (Nat.le_of_ble_eq_true rfl)) d_X_fit_39 ⟨Nat.le_of_ble_eq_true rfl, Nat.le_of_ble_eq_true rfl⟩) ?_
        refine lv_istore_n (lv' := [(3, .int r8), (0, .ref aX), (1, .int x1_23), (2, .int x2_23)]) hx hb d_X_fit_42 rfl hl (by decide) rfl (fun ls hl => ?_)
        refine lv_aload_n hx hb d_X_fit_43 rfl (lv_at hl 1 rfl) ?_
        refine va_get (D := D) (ci := 0) (v := .ref aM) (C := RR_X) (T := FF_X) (N := 8) hx hb hts kin_X hown hK.1 hP 0 rfl rfl 4 (by decide) (hts _ k1_207) (fun _ h9 => h9) rfl d_X_fit_44 ?_
        refine lv_aload_n hx hb d_X_fit_47 rfl (lv_at hl 1 rfl) ?_
        refine va_get (D := D) (ci := 0) (v := .ref aS) (C := RR_X) (T := FF_X) (N := 8) hx hb hts kin_X hown hK.1 hP 0 rfl rfl 3 (by decide) (hts _ k1_206) (fun _ h9 => h9) rfl d_X_fit_48 ?_
        refine lv_iload_n hx hb d_X_fit_51 rfl (lv_at hl 0 rfl) ?_
        obtain ⟨r9, hr9, hf⟩ := of_bd hf
        refine rd_call (va_runV (As := [.int r8]) (rest := [.ref aM]) ⟨hx, hb, hml, hown, hts⟩ (c_S_conclusion l D cI cJ cZ aS aS_premises aS_premiseCounts aS_conclusions aS_order S_count S_conclusions r8 r9 hr9) (bigV 1 hts k2_100 k2_101 k2_102 k1_4 k2_103 rfl rfl hd_S_conclusion ⟨Nat.le_of_ble_eq_true rfl, Nat.le_of_ble_eq_true rfl⟩) (rd_preV hK hP [5, 8] rfl 5 rfl rfl rfl) rfl rfl hl.1 rfl (lv_room (Nat.le_of_ble_eq_true rfl)) d_X_fit_52 ⟨Nat.le_of_ble_eq_true rfl, Nat.le_of_ble_eq_true rfl⟩) ?_
        refine lv_iload_n hx hb d_X_fit_55 rfl (lv_at hl 2 rfl) ?_
        refine lv_ldc2 (v := 273804165120) hx hb hown (hts _ k2_104) d_X_fit_56 ?_
        obtain ⟨r10, hr10, hf⟩ := of_bd hf
        refine wr_call (ws' := (wv_92 cI cJ cZ aX aX_arities aT aT_heads aT_places aT_olders aT_sizes aT_withins aT_newest aS aS_premises aS_premiseCounts aS_conclusions aS_order aM aM_images aM_path aF aE aH aH_statementRow aH_firstRow aH_secondRow X_namesUsed T_count nT_heads T_heads nT_places T_places nT_withins T_withins S_count S_premises S_premiseCounts S_conclusions S_order_23 r10.2 H_kind_23 H_subject_23 H_count_23 H_statementRow_23 H_firstRow_23 H_secondRow_23)) (va_runV (As := [.int r9, .int x1_23, .long (273804165120 : Int64)]) (rest := []) ⟨hx, hb, hml, hown, hts⟩ (c_M_matches l D cI cJ cZ aT aT_heads aT_places aT_olders aT_sizes aT_withins aT_newest aM aM_images aM_path _ T_count nT_heads T_heads nT_places T_places nT_withins T_withins M_images_23 r9 x1_23 (273804165120 : Int64) r10 hr10) (bigV 3 hts k2_58 k2_59 k2_60 k1_5 k2_61 rfl rfl hd_M_matches ⟨Nat.le_of_ble_eq_true rfl, Nat.le_of_ble_eq_true rfl⟩) (wr_preV hK hP hD [1, 2, 3, 4, 10, 11] rfl (by decide) rfl 10 rfl rfl rfl) rfl rfl hl.1 rfl (lv_room (Nat.le_of_ble_eq_true rfl)) d_X_fit_59 ⟨Nat.le_of_ble_eq_true rfl, Nat.le_of_ble_eq_true rfl⟩) hP hD hS hA [1, 2, 3, 4, 10, 11] [0, 5, 6, 7, 8, 9, 12, 13, 14, 15] rfl rfl (by decide) (by decide) [0, 10, 11, 12, 13, 1, 2, 3, 4, 5, 14, 15, 6, 7, 8, 9] (by decide) rfl (fun H locs hP hD hS => ?_)
        refine lv_if_eq (tgt := 93) hx hb d_X_fit_62 (by decide) (fun c11 => ?_) (fun c11 => ?_)
        · have hf := ite_t c11 hf
          obtain ⟨x12, ex12⟩ : ∃ y : Int32, y = x2_23 + (1 : Int32) := ⟨_, rfl⟩
          refine lv_iinc (v := x12) (lv' := [(2, .int x12), (3, .int r8), (0, .ref aX), (1, .int x1_23)]) hx hb d_X_fit_93 hl (k := 3) rfl (by rw [ex12]; rfl) (by decide) rfl (fun ls hl => ?_)
          have hf := of_nm ex12 hf
          refine lv_goto (tgt := 23) hx hb d_X_fit_96 (by decide) ?_
          exact ih23 _ _ _ _ _ _ _ _ _ _ _ _ hP hD hS _ (lv_sub hl [2, 3, 0] rfl) hf
        · have hf := ite_f c11 hf
          refine lv_aload_n hx hb d_X_fit_65 rfl (lv_at hl 1 rfl) ?_
          refine va_get (D := D) (ci := 0) (v := .ref aH) (C := RR_X) (T := FF_X) (N := 8) hx hb hts kin_X hown hK.1 hP 0 rfl rfl 7 (by decide) (hts _ k1_210) (fun _ h9 => h9) rfl d_X_fit_66 ?_
          refine lv_iload_n hx hb d_X_fit_69 rfl (lv_at hl 0 rfl) ?_
          refine lv_aload_n hx hb d_X_fit_70 rfl (lv_at hl 1 rfl) ?_
          refine va_get (D := D) (ci := 0) (v := .ref aS) (C := RR_X) (T := FF_X) (N := 8) hx hb hts kin_X hown hK.1 hP 0 rfl rfl 3 (by decide) (hts _ k1_206) (fun _ h9 => h9) rfl d_X_fit_71 ?_
          refine lv_iload_n hx hb d_X_fit_74 rfl (lv_at hl 0 rfl) ?_
          refine lv_aload_n hx hb d_X_fit_75 rfl (lv_at hl 1 rfl) ?_
          refine va_get (D := D) (ci := 0) (v := .ref aT) (C := RR_X) (T := FF_X) (N := 8) hx hb hts kin_X hown hK.1 hP 0 rfl rfl 0 (by decide) (hts _ k1_203) (fun _ h9 => h9) rfl d_X_fit_76 ?_
          obtain ⟨r13, hr13, hf⟩ := of_bd hf
          refine rd_call (va_runV (As := [.int r8, .ref aT]) (rest := [.int r8, .ref aH]) ⟨hx, hb, hml, hown, hts⟩ (c_S_openVariables l D cI cJ cZ aT aT_heads aT_places aT_olders aT_sizes aT_withins aT_newest aS aS_premises aS_premiseCounts aS_conclusions aS_order T_count nT_withins T_withins S_count S_premises S_premiseCounts S_conclusions r8 r13 hr13) (bigV 2 hts k3_128 k3_129 k3_130 k1_4 k3_131 rfl rfl hd_S_openVariables ⟨Nat.le_of_ble_eq_true rfl, Nat.le_of_ble_eq_true rfl⟩) (rd_preV hK hP [1, 4, 5, 6, 7, 8] rfl 5 rfl rfl rfl) rfl rfl hl.1 rfl (lv_room (Nat.le_of_ble_eq_true rfl)) d_X_fit_79 ⟨Nat.le_of_ble_eq_true rfl, Nat.le_of_ble_eq_true rfl⟩) ?_
          refine lv_aload_n hx hb d_X_fit_82 rfl (lv_at hl 1 rfl) ?_
          refine va_get (D := D) (ci := 0) (v := .ref aS) (C := RR_X) (T := FF_X) (N := 8) hx hb hts kin_X hown hK.1 hP 0 rfl rfl 3 (by decide) (hts _ k1_206) (fun _ h9 => h9) rfl d_X_fit_83 ?_
          refine lv_iload_n hx hb d_X_fit_86 rfl (lv_at hl 0 rfl) ?_
          obtain ⟨r14, hr14, hf⟩ := of_bd hf
          refine rd_call (va_runV (As := [.int r8]) (rest := [.int r13, .int r8, .ref aH]) ⟨hx, hb, hml, hown, hts⟩ (c_S_premises l D cI cJ cZ aS aS_premises aS_premiseCounts aS_conclusions aS_order S_count S_premiseCounts r8 r14 hr14) (bigV 1 hts k3_147 k3_84 k3_85 k1_4 k3_86 rfl rfl hd_S_premises ⟨Nat.le_of_ble_eq_true rfl, Nat.le_of_ble_eq_true rfl⟩) (rd_preV hK hP [5, 7] rfl 5 rfl rfl rfl) rfl rfl hl.1 rfl (lv_room (Nat.le_of_ble_eq_true rfl)) d_X_fit_87 ⟨Nat.le_of_ble_eq_true rfl, Nat.le_of_ble_eq_true rfl⟩) ?_
          obtain ⟨r15, hr15, hf⟩ := of_bd hf
          refine wr_call (ws' := (wv_92 cI cJ cZ aX aX_arities aT aT_heads aT_places aT_olders aT_sizes aT_withins aT_newest aS aS_premises aS_premiseCounts aS_conclusions aS_order aM aM_images aM_path aF aE aH aH_statementRow aH_firstRow aH_secondRow X_namesUsed T_count nT_heads T_heads nT_places T_places nT_withins T_withins S_count S_premises S_premiseCounts S_conclusions S_order_23 r10.2 H_kind_23 H_subject_23 r15.1 r15.2.1 r15.2.2.1 r15.2.2.2)) (va_runV (As := [.int r8, .int r13, .int r14]) (rest := []) ⟨hx, hb, hml, hown, hts⟩ (c_H_add l D cI cJ cZ aH aH_statementRow aH_firstRow aH_secondRow _ H_kind_23 H_subject_23 H_count_23 H_statementRow_23 H_firstRow_23 H_secondRow_23 r8 r13 r14 r15 hr15) (bigV 3 hts k3_100 k3_101 k3_102 k1_8 k3_103 rfl rfl hd_H_add ⟨Nat.le_of_ble_eq_true rfl, Nat.le_of_ble_eq_true rfl⟩) (wr_preV hK hP hD [12, 13, 14, 15] rfl (by decide) rfl 12 rfl rfl rfl) rfl rfl hl.1 rfl (lv_room (Nat.le_of_ble_eq_true rfl)) d_X_fit_90 ⟨Nat.le_of_ble_eq_true rfl, Nat.le_of_ble_eq_true rfl⟩) hP hD hS hA [12, 13, 14, 15] [0, 1, 2, 3, 4, 5, 6, 7, 8, 9, 10, 11] rfl rfl (by decide) (by decide) [0, 1, 2, 3, 4, 5, 6, 7, 8, 9, 10, 11, 12, 13, 14, 15] (by decide) rfl (fun H locs hP hD hS => ?_)
          obtain ⟨x16, ex16⟩ : ∃ y : Int32, y = x2_23 + (1 : Int32) := ⟨_, rfl⟩
          refine lv_iinc (v := x16) (lv' := [(2, .int x16), (3, .int r8), (0, .ref aX), (1, .int x1_23)]) hx hb d_X_fit_93 hl (k := 3) rfl (by rw [ex16]; rfl) (by decide) rfl (fun ls hl => ?_)
          have hf := of_nm ex16 hf
          refine lv_goto (tgt := 23) hx hb d_X_fit_96 (by decide) ?_
          exact ih23 _ _ _ _ _ _ _ _ _ _ _ _ hP hD hS _ (lv_sub hl [2, 3, 0] rfl) hf
  rw [f_X_fit] at hf
  refine lv_aload_n hx hb d_X_fit_0 rfl (lv_at hl 0 rfl) ?_
  refine lv_iload_n hx hb d_X_fit_1 rfl (lv_at hl 1 rfl) ?_
  obtain ⟨r1, hr1, hf⟩ := of_bd hf
  refine x_call (ws' := fun as2 => (wv_92 cI cJ cZ aX aX_arities aT aT_heads aT_places aT_olders aT_sizes aT_withins aT_newest aS aS_premises aS_premiseCounts aS_conclusions aS_order aM aM_images aM_path aF aE aH aH_statementRow aH_firstRow aH_secondRow X_namesUsed T_count nT_heads T_heads nT_places T_places nT_withins T_withins S_count S_premises S_premiseCounts S_conclusions S_order M_images H_kind H_subject H_count H_statementRow H_firstRow H_secondRow)) (xrunV (As := [.int p0]) (rest := []) ⟨hx, hb, hml, hown, hts⟩ (c_X_checkGoal l D cI cJ cZ aX aX_arities aT aT_heads aT_places aT_olders aT_sizes aT_withins aT_newest aS aM aF aE aH _ X_namesUsed T_count nT_withins T_withins p0 aK cK hst r1 hr1) (bigV 1 hts k3_115 k3_117 ks_X_checkGoal k1_1 k3_118 rfl rfl hd_X_checkGoal ⟨Nat.le_of_ble_eq_true rfl, Nat.le_of_ble_eq_true rfl⟩) (x_preV hK hP hD hE hSR (keepS hS hcS0 hnA) hnA [0, 1, 4] rfl (by decide) rfl 0 rfl rfl rfl) rfl rfl hl.1 rfl (lv_room (Nat.le_of_ble_eq_true rfl)) d_X_fit_2 ⟨(Nat.le_of_ble_eq_true rfl), (Nat.le_of_ble_eq_true rfl)⟩) hP hD hS hA [0, 1, 4] [2, 3, 5, 6, 7, 8, 9, 10, 11, 12, 13, 14, 15] rfl rfl (by decide) (by decide) [13, 14, 0, 1, 15, 2, 3, 4, 5, 6, 7, 8, 9, 10, 11, 12] (by decide) (fun _ => rfl) (fun hz as2 H locs hP hD hS => ?_) (fun hz as2 H locs q9 ce9 hP hD hS hc1 hc2 hc3 => ?_)
  · have hf := ite_t hz hf
    refine W.widen (k := 1) (n := 6) (by omega) (by omega) ?_
    refine lv_aload_n hx hb d_X_fit_5 rfl (lv_at hl 0 rfl) ?_
    refine va_get (D := D) (ci := 0) (v := .ref aH) (C := RR_X) (T := FF_X) (N := 8) hx hb hts kin_X hown hK.1 hP 0 rfl rfl 7 (by decide) (hts _ k1_210) (fun _ h9 => h9) rfl d_X_fit_6 ?_
    refine lv_iconst (v := 2) hx hb d_X_fit_9 (by decide) ?_
    refine lv_iload_n hx hb d_X_fit_10 rfl (lv_at hl 1 rfl) ?_
    obtain ⟨r3, hr3, hf⟩ := of_bd hf
    refine wr_call (ws' := (wv_92 cI cJ cZ aX aX_arities aT aT_heads aT_places aT_olders aT_sizes aT_withins aT_newest aS aS_premises aS_premiseCounts aS_conclusions aS_order aM aM_images aM_path aF aE aH aH_statementRow aH_firstRow aH_secondRow X_namesUsed T_count nT_heads T_heads nT_places T_places nT_withins T_withins S_count S_premises S_premiseCounts S_conclusions S_order M_images r3.1 r3.2.1 r3.2.2 H_statementRow H_firstRow H_secondRow)) (va_runV (As := [.int (2 : Int32), .int p0]) (rest := []) ⟨hx, hb, hml, hown, hts⟩ (c_H_begin l D cI cJ cZ aH aH_statementRow aH_firstRow aH_secondRow _ H_kind H_subject H_count (2 : Int32) p0 r3 hr3) (bigV 2 hts k3_62 k2_17 k2_18 k1_8 k2_19 rfl rfl hd_H_begin ⟨Nat.le_of_ble_eq_true rfl, Nat.le_of_ble_eq_true rfl⟩) (wr_preV hK hP hD [12] rfl (by decide) rfl 12 rfl rfl rfl) rfl rfl hl.1 rfl (lv_room (Nat.le_of_ble_eq_true rfl)) d_X_fit_11 ⟨Nat.le_of_ble_eq_true rfl, Nat.le_of_ble_eq_true rfl⟩) hP hD hS hA [12] [0, 1, 2, 3, 4, 5, 6, 7, 8, 9, 10, 11, 13, 14, 15] rfl rfl (by decide) (by decide) [0, 1, 2, 3, 4, 5, 6, 7, 8, 9, 10, 11, 15, 12, 13, 14] (by decide) rfl (fun H locs hP hD hS => ?_)
    refine lv_aload_n hx hb d_X_fit_14 rfl (lv_at hl 0 rfl) ?_
    refine va_get (D := D) (ci := 0) (v := .ref aS) (C := RR_X) (T := FF_X) (N := 8) hx hb hts kin_X hown hK.1 hP 0 rfl rfl 3 (by decide) (hts _ k1_206) (fun _ h9 => h9) rfl d_X_fit_15 ?_
    obtain ⟨r4, hr4, hf⟩ := of_bd hf
    refine wr_call (ws' := (wv_92 cI cJ cZ aX aX_arities aT aT_heads aT_places aT_olders aT_sizes aT_withins aT_newest aS aS_premises aS_premiseCounts aS_conclusions aS_order aM aM_images aM_path aF aE aH aH_statementRow aH_firstRow aH_secondRow X_namesUsed T_count nT_heads T_heads nT_places T_places nT_withins T_withins S_count S_premises S_premiseCounts S_conclusions r4 M_images r3.1 r3.2.1 r3.2.2 H_statementRow H_firstRow H_secondRow)) (va_runV (As := []) (rest := []) ⟨hx, hb, hml, hown, hts⟩ (c_S_putInOrder l D cI cJ cZ aS aS_premises aS_premiseCounts aS_conclusions aS_order _ S_count S_premiseCounts S_order r4 hr4) (bigV 0 hts k3_120 k3_121 k3_122 k1_4 k3_123 rfl rfl hd_S_putInOrder ⟨Nat.le_of_ble_eq_true rfl, Nat.le_of_ble_eq_true rfl⟩) (wr_preV hK hP hD [5, 7, 9] rfl (by decide) rfl 5 rfl rfl rfl) rfl rfl hl.1 rfl (lv_room (Nat.le_of_ble_eq_true rfl)) d_X_fit_18 ⟨Nat.le_of_ble_eq_true rfl, Nat.le_of_ble_eq_true rfl⟩) hP hD hS hA [5, 7, 9] [0, 1, 2, 3, 4, 6, 8, 10, 11, 12, 13, 14, 15] rfl rfl (by decide) (by decide) [0, 1, 2, 3, 4, 13, 5, 14, 6, 15, 7, 8, 9, 10, 11, 12] (by decide) rfl (fun H locs hP hD hS => ?_)
    refine lv_iconst (v := 0) hx hb d_X_fit_21 (by decide) ?_
    refine lv_istore_n (lv' := [(2, .int (0 : Int32)), (0, .ref aX), (1, .int p0)]) hx hb d_X_fit_22 rfl hl (by decide) rfl (fun ls hl => ?_)
    exact hL23 FU _ _ _ _ _ _ _ _ _ _ _ _ hP hD hS _ (lv_sub hl [1, 2, 0] rfl) hf
  · have hf := ite_f hz hf
    obtain rfl := Option.some.inj hf
    exact wx_out hno hlocks hc1 hc2 hc3 (fun t ht => ⟨hz, rfl, fun _ => 0, by rw [ht]; exact hP, hD, hS.F ht⟩) hS.2.2 (Nat.le_of_ble_eq_true rfl) (Nat.le_of_ble_eq_true rfl)
def f_X_rank_L30 (T_count : Int32) (nT_withins : Nat) (T_withins : (Nat → Int64)) (S_count : Int32) (S_premises : (Nat → Int32)) (S_premiseCounts : (Nat → Int32)) (S_conclusions : (Nat → Int32)) : Nat → Int32 → Int32 → Int32 → (Nat → Int32) → (Nat → Int32) → (Nat → Int32) → Int64 → Int32 → Option (Nat × Int32 × Int32 × Int32 × Int32 × (Nat → Int32) × (Nat → Int32) × (Nat → Int32))
  | 0, _, _, _, _, _, _, _, _ => none
  | n + 1, H_kind_30, H_subject_30, H_count_30, H_statementRow_30, H_firstRow_30, H_secondRow_30, x2_30, x4_30 =>
    (f_S_count S_count).bind fun r6 =>
    if r6 ≤ x4_30 then
      (f_H_count H_count_30).bind fun r8 =>
      some (0, r8, H_kind_30, H_subject_30, H_count_30, H_statementRow_30, H_firstRow_30, H_secondRow_30)
    else
      (f_S_within T_count nT_withins T_withins S_count S_premises S_premiseCounts S_conclusions x4_30).bind fun r9 =>
      nm (r9 &&& (1073741823 : Int64)) fun x10 =>
      (f_JL_bitCount (x10 ||| x2_30)).bind fun r11 =>
      (f_JL_bitCount (x10 &&& x2_30)).bind fun r12 =>
      if r11 = 0 then
        (f_H_addByShare H_count_30 H_statementRow_30 H_firstRow_30 H_secondRow_30 x4_30 r12 (1 : Int32)).bind fun r16 =>
        nm (x4_30 + (1 : Int32)) fun x17 =>
        (f_X_rank_L30 T_count nT_withins T_withins S_count S_premises S_premiseCounts S_conclusions n) H_kind_30 H_subject_30 r16.1 r16.2.1 r16.2.2.1 r16.2.2.2 x2_30 x17
      else
        (f_H_addByShare H_count_30 H_statementRow_30 H_firstRow_30 H_secondRow_30 x4_30 r12 r11).bind fun r14 =>
        nm (x4_30 + (1 : Int32)) fun x15 =>
        (f_X_rank_L30 T_count nT_withins T_withins S_count S_premises S_premiseCounts S_conclusions n) H_kind_30 H_subject_30 r14.1 r14.2.1 r14.2.2.1 r14.2.2.2 x2_30 x15
def f_X_rank (T_count : Int32) (nT_withins : Nat) (T_withins : (Nat → Int64)) (S_count : Int32) (S_premises : (Nat → Int32)) (S_premiseCounts : (Nat → Int32)) (S_conclusions : (Nat → Int32)) (H_kind : Int32) (H_subject : Int32) (H_count : Int32) (H_statementRow : (Nat → Int32)) (H_firstRow : (Nat → Int32)) (H_secondRow : (Nat → Int32)) (p0 : Int32) : Option (Nat × Int32 × Int32 × Int32 × Int32 × (Nat → Int32) × (Nat → Int32) × (Nat → Int32)) :=
  (f_X_checkGoal T_count nT_withins T_withins p0).bind fun r1 =>
  if r1 = 0 then
    (f_H_begin H_kind H_subject H_count (3 : Int32) p0).bind fun r3 =>
    (f_T_within T_count nT_withins T_withins p0).bind fun r4 =>
    nm (r4 &&& (1073741823 : Int64)) fun x5 =>
    f_X_rank_L30 T_count nT_withins T_withins S_count S_premises S_premiseCounts S_conclusions FU r3.1 r3.2.1 r3.2.2 H_statementRow H_firstRow H_secondRow x5 (0 : Int32)
  else
    some (r1, (0 : Int32), H_kind, H_subject, H_count, H_statementRow, H_firstRow, H_secondRow)
abbrev rm_X_rank : Room := { frames := 7, cells := 1, slots := 6, locals := 111 }
set_option maxHeartbeats 4000000 in
set_option maxRecDepth 100000 in
theorem c_X_rank (l : Launch) (D : va_G) (cI cJ cZ : ClassId) (aX aX_arities aT aT_heads aT_places aT_olders aT_sizes aT_withins aT_newest aS aS_premises aS_premiseCounts aS_conclusions aS_order aM aF aE aH aH_statementRow aH_firstRow aH_secondRow : Nat) (sz : Nat) (X_namesUsed : Int32) (T_count : Int32) (nT_withins : Nat) (T_withins : (Nat → Int64)) (S_count : Int32) (S_premises : (Nat → Int32)) (S_premiseCounts : (Nat → Int32)) (S_conclusions : (Nat → Int32)) (H_kind : Int32) (H_subject : Int32) (H_count : Int32) (H_statementRow : (Nat → Int32)) (H_firstRow : (Nat → Int32)) (H_secondRow : (Nat → Int32)) (p0 : Int32) (aK : Nat) (cK : Cell) (hst : l.stackTraces = false) (o : Nat × Int32 × Int32 × Int32 × Int32 × (Nat → Int32) × (Nat → Int32) × (Nat → Int32)) (hf : f_X_rank T_count nT_withins T_withins S_count S_premises S_premiseCounts S_conclusions H_kind H_subject H_count H_statementRow H_firstRow H_secondRow p0 = some o) : XMet l y_X_rank (ws_X_rank) rm_X_rank (XPc D vwCl cI cJ cZ aK cK [.ref aX, .int p0] (wv_93 cI cJ cZ aX aX_arities aT aT_heads aT_places aT_olders aT_sizes aT_withins aT_newest aS aS_premises aS_premiseCounts aS_conclusions aS_order aM aF aE aH aH_statementRow aH_firstRow aH_secondRow X_namesUsed T_count nT_withins T_withins S_count S_premises S_premiseCounts S_conclusions H_kind H_subject H_count H_statementRow H_firstRow H_secondRow) sz) (QN D vwCl o.1 (some (.int o.2.1)) (fun as => (wv_93 cI cJ cZ aX aX_arities aT aT_heads aT_places aT_olders aT_sizes aT_withins aT_newest aS aS_premises aS_premiseCounts aS_conclusions aS_order aM aF aE aH aH_statementRow aH_firstRow aH_secondRow X_namesUsed T_count nT_withins T_withins S_count S_premises S_premiseCounts S_conclusions o.2.2.1 o.2.2.2.1 o.2.2.2.2.1 o.2.2.2.2.2.1 o.2.2.2.2.2.2.1 o.2.2.2.2.2.2.2)) (va_A (wv_93 cI cJ cZ aX aX_arities aT aT_heads aT_places aT_olders aT_sizes aT_withins aT_newest aS aS_premises aS_premiseCounts aS_conclusions aS_order aM aF aE aH aH_statementRow aH_firstRow aH_secondRow X_namesUsed T_count nT_withins T_withins S_count S_premises S_premiseCounts S_conclusions H_kind H_subject H_count H_statementRow H_firstRow H_secondRow) sz)) (QT D vwCl o.1 (fun as => (wv_93 cI cJ cZ aX aX_arities aT aT_heads aT_places aT_olders aT_sizes aT_withins aT_newest aS aS_premises aS_premiseCounts aS_conclusions aS_order aM aF aE aH aH_statementRow aH_firstRow aH_secondRow X_namesUsed T_count nT_withins T_withins S_count S_premises S_premiseCounts S_conclusions o.2.2.1 o.2.2.2.1 o.2.2.2.2.1 o.2.2.2.2.2.1 o.2.2.2.2.2.2.1 o.2.2.2.2.2.2.2)) (va_A (wv_93 cI cJ cZ aX aX_arities aT aT_heads aT_places aT_olders aT_sizes aT_withins aT_newest aS aS_premises aS_premiseCounts aS_conclusions aS_order aM aF aE aH aH_statementRow aH_firstRow aH_secondRow X_namesUsed T_count nT_withins T_withins S_count S_premises S_premiseCounts S_conclusions H_kind H_subject H_count H_statementRow H_firstRow H_secondRow) sz)) 1 6 (va_A (wv_93 cI cJ cZ aX aX_arities aT aT_heads aT_places aT_olders aT_sizes aT_withins aT_newest aS aS_premises aS_premiseCounts aS_conclusions aS_order aM aF aE aH aH_statementRow aH_firstRow aH_secondRow X_namesUsed T_count nT_withins T_withins S_count S_premises S_premiseCounts S_conclusions H_kind H_subject H_count H_statementRow H_firstRow H_secondRow) sz) := by
  refine XMet.ofW (cc := b_X_rank) (maxL := 8) (ret := (some .int)) (by decide) rfl ?_
  intro p e s m args below meth c s₁ B hml hno hv
  obtain ⟨rfl, rfl, hP, hK, hD0, ⟨hcS0, hE, hSR⟩, hnA⟩ := hv
  have hx := B.exec
  have hb := B.bytes
  have hr := B.returns
  have hts : ∀ w ∈ BG, w.before _ s = true := fun w h => atoms_spec (ws := (ws_X_rank)) B.pre w (List.mem_cons_of_mem _ h)
  have hown : s.vm.findClass RR_X = some m.cls := findClass_of_methodNamed B.named
  have hlocks := B.notSynchronized
  have hD := hD0.self (sz := s.heap.size)
  have hA : ∀ q : Nat, s.heap.size ≤ q → va_A (wv_93 cI cJ cZ aX aX_arities aT aT_heads aT_places aT_olders aT_sizes aT_withins aT_newest aS aS_premises aS_premiseCounts aS_conclusions aS_order aM aF aE aH aH_statementRow aH_firstRow aH_secondRow X_namesUsed T_count nT_withins T_withins S_count S_premises S_premiseCounts S_conclusions H_kind H_subject H_count H_statementRow H_firstRow H_secondRow) s.heap.size q := fun q h => Or.inr h
  have hS : va_S (va_A (wv_93 cI cJ cZ aX aX_arities aT aT_heads aT_places aT_olders aT_sizes aT_withins aT_newest aS aS_premises aS_premiseCounts aS_conclusions aS_order aM aF aE aH aH_statementRow aH_firstRow aH_secondRow X_namesUsed T_count nT_withins T_withins S_count S_premises S_premiseCounts S_conclusions H_kind H_subject H_count H_statementRow H_firstRow H_secondRow) s.heap.size) s.heap s.heap [] := va_S.rf
  generalize va_A (wv_93 cI cJ cZ aX aX_arities aT aT_heads aT_places aT_olders aT_sizes aT_withins aT_newest aS aS_premises aS_premiseCounts aS_conclusions aS_order aM aF aE aH aH_statementRow aH_firstRow aH_secondRow X_namesUsed T_count nT_withins T_withins S_count S_premises S_premiseCounts S_conclusions H_kind H_subject H_count H_statementRow H_firstRow H_secondRow) s.heap.size = A at hD hA hS hnA ⊢
  have hl := lv_entry ([.ref aX, .int p0]) (n := 8) (Nat.le_of_ble_eq_true rfl)
  rw [lg_entry_eq]
  generalize (lg_sl ([.ref aX, .int p0]) ++ List.replicate (8 - (lg_sl ([.ref aX, .int p0])).length) Slot.unset).toArray = ls at hl ⊢
  have hl : lv_has ls 8 [(0, .ref aX), (1, .int p0)] := hl
  have hL30 : ∀ (n30 : Nat), ∀ (H_kind_30 : Int32) (H_subject_30 : Int32) (H_count_30 : Int32) (H_statementRow_30 : (Nat → Int32)) (H_firstRow_30 : (Nat → Int32)) (H_secondRow_30 : (Nat → Int32)) (x2_30 : Int64) (x4_30 : Int32), ∀ (H : Heap) (locs : List Loc), va_P D vwCl (wv_93 cI cJ cZ aX aX_arities aT aT_heads aT_places aT_olders aT_sizes aT_withins aT_newest aS aS_premises aS_premiseCounts aS_conclusions aS_order aM aF aE aH aH_statementRow aH_firstRow aH_secondRow X_namesUsed T_count nT_withins T_withins S_count S_premises S_premiseCounts S_conclusions H_kind_30 H_subject_30 H_count_30 H_statementRow_30 H_firstRow_30 H_secondRow_30) H → va_D A (wv_93 cI cJ cZ aX aX_arities aT aT_heads aT_places aT_olders aT_sizes aT_withins aT_newest aS aS_premises aS_premiseCounts aS_conclusions aS_order aM aF aE aH aH_statementRow aH_firstRow aH_secondRow X_namesUsed T_count nT_withins T_withins S_count S_premises S_premiseCounts S_conclusions H_kind_30 H_subject_30 H_count_30 H_statementRow_30 H_firstRow_30 H_secondRow_30) → va_S A s.heap H locs → ∀ (ls : Array Slot), lv_has ls 8 [(0, .ref aX), (2, .long x2_30), (4, .int x4_30)] → f_X_rank_L30 T_count nT_withins T_withins S_count S_premises S_premiseCounts S_conclusions n30 H_kind_30 H_subject_30 H_count_30 H_statementRow_30 H_firstRow_30 H_secondRow_30 x2_30 x4_30 = some o → W p l e (headSpec (ws_X_rank) rm_X_rank).room s m ([.ref aX, .int p0] : List Value).toArray below meth c H locs 1 6 (XM below (QN D vwCl o.1 (some (.int o.2.1)) (fun as => (wv_93 cI cJ cZ aX aX_arities aT aT_heads aT_places aT_olders aT_sizes aT_withins aT_newest aS aS_premises aS_premiseCounts aS_conclusions aS_order aM aF aE aH aH_statementRow aH_firstRow aH_secondRow X_namesUsed T_count nT_withins T_withins S_count S_premises S_premiseCounts S_conclusions o.2.2.1 o.2.2.2.1 o.2.2.2.2.1 o.2.2.2.2.2.1 o.2.2.2.2.2.2.1 o.2.2.2.2.2.2.2)) A) (QT D vwCl o.1 (fun as => (wv_93 cI cJ cZ aX aX_arities aT aT_heads aT_places aT_olders aT_sizes aT_withins aT_newest aS aS_premises aS_premiseCounts aS_conclusions aS_order aM aF aE aH aH_statementRow aH_firstRow aH_secondRow X_namesUsed T_count nT_withins T_withins S_count S_premises S_premiseCounts S_conclusions o.2.2.1 o.2.2.2.1 o.2.2.2.2.1 o.2.2.2.2.2.1 o.2.2.2.2.2.2.1 o.2.2.2.2.2.2.2)) A) ([.ref aX, .int p0] : List Value).toArray s 1 6 A) (F0 m 30 ls []) := by
    intro n30
    induction n30 with
    | zero =>
      intro H_kind_30 H_subject_30 H_count_30 H_statementRow_30 H_firstRow_30 H_secondRow_30 x2_30 x4_30 H locs hP hD hS ls hl hf
      rw [f_X_rank_L30] at hf
      cases hf
    | succ n30 ih30 =>
      intro H_kind_30 H_subject_30 H_count_30 H_statementRow_30 H_firstRow_30 H_secondRow_30 x2_30 x4_30 H locs hP hD hS ls hl hf
      rw [f_X_rank_L30] at hf
      refine lv_iload hx hb d_X_rank_30 (lv_at hl 2 rfl) ?_
      refine lv_aload_n hx hb d_X_rank_32 rfl (lv_at hl 0 rfl) ?_
      refine va_get (D := D) (ci := 0) (v := .ref aS) (C := RR_X) (T := FF_X) (N := 8) hx hb hts kin_X hown hK.1 hP 0 rfl rfl 3 (by decide) (hts _ k1_206) (fun _ h9 => h9) rfl d_X_rank_33 ?_
      obtain ⟨r6, hr6, hf⟩ := of_bd hf
      refine rd_call (va_runV (As := []) (rest := [.int x4_30]) ⟨hx, hb, hml, hown, hts⟩ (c_S_count l D cI cJ cZ aS aS_premises aS_premiseCounts aS_conclusions aS_order S_count r6 hr6) (bigV 0 hts k2_129 k2_130 k2_131 k1_4 k2_132 rfl rfl hd_S_count ⟨Nat.le_of_ble_eq_true rfl, Nat.le_of_ble_eq_true rfl⟩) (rd_preV hK hP [3] rfl 3 rfl rfl rfl) rfl rfl hl.1 rfl (lv_room (Nat.le_of_ble_eq_true rfl)) d_X_rank_36 ⟨Nat.le_of_ble_eq_true rfl, Nat.le_of_ble_eq_true rfl⟩) ?_
      refine lv_icmp_ge (tgt := 103) hx hb d_X_rank_39 (by decide) (fun c7 => ?_) (fun c7 => ?_)
      · have hf := ite_t c7 hf
        refine lv_aload_n hx hb d_X_rank_103 rfl (lv_at hl 0 rfl) ?_
        refine va_get (D := D) (ci := 0) (v := .ref aH) (C := RR_X) (T := FF_X) (N := 8) hx hb hts kin_X hown hK.1 hP 0 rfl rfl 7 (by decide) (hts _ k1_210) (fun _ h9 => h9) rfl d_X_rank_104 ?_
        obtain ⟨r8, hr8, hf⟩ := of_bd hf
        refine rd_call (va_runV (As := []) (rest := []) ⟨hx, hb, hml, hown, hts⟩ (c_H_count l D cI cJ cZ aH aH_statementRow aH_firstRow aH_secondRow H_kind_30 H_subject_30 H_count_30 r8 hr8) (bigV 0 hts k2_133 k2_134 k2_135 k1_8 k2_136 rfl rfl hd_H_count ⟨Nat.le_of_ble_eq_true rfl, Nat.le_of_ble_eq_true rfl⟩) (rd_preV hK hP [7] rfl 7 rfl rfl rfl) rfl rfl hl.1 rfl (lv_room (Nat.le_of_ble_eq_true rfl)) d_X_rank_107 ⟨Nat.le_of_ble_eq_true rfl, Nat.le_of_ble_eq_true rfl⟩) ?_
        obtain rfl := Option.some.inj hf
        refine W.widen (k := 1) (n := 6) (by omega) (by omega) (xm_ret ?_)
        exact W.iret (v := r8) hx hb hr (fun t ht hW => ⟨_, rfl, rfl, rfl, fun _ => 0, by rw [ht]; exact hP, hD, hS.F ht⟩) hS.2.2 d_X_rank_110
      · have hf := ite_f c7 hf
        refine lv_aload_n hx hb d_X_rank_42 rfl (lv_at hl 0 rfl) ?_
        refine va_get (D := D) (ci := 0) (v := .ref aS) (C := RR_X) (T := FF_X) (N := 8) hx hb hts kin_X hown hK.1 hP 0 rfl rfl 3 (by decide) (hts _ k1_206) (fun _ h9 => h9) rfl d_X_rank_43 ?_
        refine lv_iload hx hb d_X_rank_46 (lv_at hl 2 rfl) ?_
        refine lv_aload_n hx hb d_X_rank_48 rfl (lv_at hl 0 rfl) ?_
        refine va_get (D := D) (ci := 0) (v := .ref aT) (C := RR_X) (T := FF_X) (N := 8) hx hb hts kin_X hown hK.1 hP 0 rfl rfl 0 (by decide) (hts _ k1_203) (fun _ h9 => h9) rfl d_X_rank_49 ?_
        obtain ⟨r9, hr9, hf⟩ := of_bd hf
        refine rd_call (va_runV (As := [.int x4_30, .ref aT]) (rest := []) ⟨hx, hb, hml, hown, hts⟩ (c_S_within l D cI cJ cZ aT aT_heads aT_places aT_olders aT_sizes aT_withins aT_newest aS aS_premises aS_premiseCounts aS_conclusions aS_order T_count nT_withins T_withins S_count S_premises S_premiseCounts S_conclusions x4_30 r9 hr9) (bigV 2 hts k3_157 k3_158 k3_159 k1_4 k3_160 rfl rfl hd_S_within ⟨Nat.le_of_ble_eq_true rfl, Nat.le_of_ble_eq_true rfl⟩) (rd_preV hK hP [1, 2, 3, 4, 5, 6] rfl 3 rfl rfl rfl) rfl rfl hl.1 rfl (lv_room (Nat.le_of_ble_eq_true rfl)) d_X_rank_52 ⟨Nat.le_of_ble_eq_true rfl, Nat.le_of_ble_eq_true rfl⟩) ?_
        refine lv_ldc2 (v := 1073741823) hx hb hown (hts _ k3_156) d_X_rank_55 ?_
        refine lv_land hx hb d_X_rank_58 ?_
        refine lv_topl (fun x10 ex10 => ?_)
        have hf := of_nm ex10 hf
        refine lv_lstore (lv' := [(5, .long x10), (0, .ref aX), (2, .long x2_30), (4, .int x4_30)]) hx hb d_X_rank_59 hl (by decide) rfl (fun ls hl => ?_)
        refine lv_lload hx hb d_X_rank_61 (lv_at hl 0 rfl) ?_
        refine lv_lload_n hx hb d_X_rank_63 rfl (lv_at hl 2 rfl) ?_
        refine lv_lor hx hb d_X_rank_64 ?_
        obtain ⟨r11, hr11, hf⟩ := of_bd hf
        refine rd_call (va_runS (As := [.long (x10 ||| x2_30)]) (rest := []) ⟨hx, hb, hml, hown, hts⟩ (c_JL_bitCount l D cI cJ cZ (x10 ||| x2_30) r11 hr11) (bigS 1 hts k3_161 k3_142 k1_17 k3_143 rfl rfl hd_JL_bitCount ⟨Nat.le_of_ble_eq_true rfl, Nat.le_of_ble_eq_true rfl⟩) (rd_preS hK hP [] rfl) rfl rfl hl.1 rfl (lv_room (Nat.le_of_ble_eq_true rfl)) d_X_rank_65 ⟨Nat.le_of_ble_eq_true rfl, Nat.le_of_ble_eq_true rfl⟩) ?_
        refine lv_istore (lv' := [(7, .int r11), (5, .long x10), (0, .ref aX), (2, .long x2_30), (4, .int x4_30)]) hx hb d_X_rank_68 hl (by decide) rfl (fun ls hl => ?_)
        refine lv_aload_n hx hb d_X_rank_70 rfl (lv_at hl 2 rfl) ?_
        refine va_get (D := D) (ci := 0) (v := .ref aH) (C := RR_X) (T := FF_X) (N := 8) hx hb hts kin_X hown hK.1 hP 0 rfl rfl 7 (by decide) (hts _ k1_210) (fun _ h9 => h9) rfl d_X_rank_71 ?_
        refine lv_iload hx hb d_X_rank_74 (lv_at hl 4 rfl) ?_
        refine lv_lload hx hb d_X_rank_76 (lv_at hl 1 rfl) ?_
        refine lv_lload_n hx hb d_X_rank_78 rfl (lv_at hl 3 rfl) ?_
        refine lv_land hx hb d_X_rank_79 ?_
        obtain ⟨r12, hr12, hf⟩ := of_bd hf
        refine rd_call (va_runS (As := [.long (x10 &&& x2_30)]) (rest := [.int x4_30, .ref aH]) ⟨hx, hb, hml, hown, hts⟩ (c_JL_bitCount l D cI cJ cZ (x10 &&& x2_30) r12 hr12) (bigS 1 hts k3_161 k3_142 k1_17 k3_143 rfl rfl hd_JL_bitCount ⟨Nat.le_of_ble_eq_true rfl, Nat.le_of_ble_eq_true rfl⟩) (rd_preS hK hP [] rfl) rfl rfl hl.1 rfl (lv_room (Nat.le_of_ble_eq_true rfl)) d_X_rank_80 ⟨Nat.le_of_ble_eq_true rfl, Nat.le_of_ble_eq_true rfl⟩) ?_
        refine lv_iload hx hb d_X_rank_83 (lv_at hl 0 rfl) ?_
        refine lv_if_ne (tgt := 92) hx hb d_X_rank_85 (by decide) (fun c13 => ?_) (fun c13 => ?_)
        · have hf := ite_f c13 hf
          refine lv_iload hx hb d_X_rank_92 (lv_at hl 0 rfl) ?_
          obtain ⟨r14, hr14, hf⟩ := of_bd hf
          refine wr_call (ws' := (wv_93 cI cJ cZ aX aX_arities aT aT_heads aT_places aT_olders aT_sizes aT_withins aT_newest aS aS_premises aS_premiseCounts aS_conclusions aS_order aM aF aE aH aH_statementRow aH_firstRow aH_secondRow X_namesUsed T_count nT_withins T_withins S_count S_premises S_premiseCounts S_conclusions H_kind_30 H_subject_30 r14.1 r14.2.1 r14.2.2.1 r14.2.2.2)) (va_runV (As := [.int x4_30, .int r12, .int r11]) (rest := []) ⟨hx, hb, hml, hown, hts⟩ (c_H_addByShare l D cI cJ cZ aH aH_statementRow aH_firstRow aH_secondRow _ H_kind_30 H_subject_30 H_count_30 H_statementRow_30 H_firstRow_30 H_secondRow_30 x4_30 r12 r11 r14 hr14) (bigV 3 hts k3_162 k3_163 k3_164 k1_8 k3_165 rfl rfl hd_H_addByShare ⟨Nat.le_of_ble_eq_true rfl, Nat.le_of_ble_eq_true rfl⟩) (wr_preV hK hP hD [7, 8, 9, 10] rfl (by decide) rfl 7 rfl rfl rfl) rfl rfl hl.1 rfl (lv_room (Nat.le_of_ble_eq_true rfl)) d_X_rank_94 ⟨Nat.le_of_ble_eq_true rfl, Nat.le_of_ble_eq_true rfl⟩) hP hD hS hA [7, 8, 9, 10] [0, 1, 2, 3, 4, 5, 6] rfl rfl (by decide) (by decide) [0, 1, 2, 3, 4, 5, 6, 7, 8, 9, 10] (by decide) rfl (fun H locs hP hD hS => ?_)
          obtain ⟨x15, ex15⟩ : ∃ y : Int32, y = x4_30 + (1 : Int32) := ⟨_, rfl⟩
          refine lv_iinc (v := x15) (lv' := [(4, .int x15), (7, .int r11), (5, .long x10), (0, .ref aX), (2, .long x2_30)]) hx hb d_X_rank_97 hl (k := 4) rfl (by rw [ex15]; rfl) (by decide) rfl (fun ls hl => ?_)
          have hf := of_nm ex15 hf
          refine lv_goto (tgt := 30) hx hb d_X_rank_100 (by decide) ?_
          exact ih30 _ _ _ _ _ _ _ _ _ _ hP hD hS _ (lv_sub hl [3, 4, 0] rfl) hf
        · have hf := ite_t c13 hf
          refine lv_iconst (v := 1) hx hb d_X_rank_88 (by decide) ?_
          refine lv_goto (tgt := 94) hx hb d_X_rank_89 (by decide) ?_
          obtain ⟨r16, hr16, hf⟩ := of_bd hf
          refine wr_call (ws' := (wv_93 cI cJ cZ aX aX_arities aT aT_heads aT_places aT_olders aT_sizes aT_withins aT_newest aS aS_premises aS_premiseCounts aS_conclusions aS_order aM aF aE aH aH_statementRow aH_firstRow aH_secondRow X_namesUsed T_count nT_withins T_withins S_count S_premises S_premiseCounts S_conclusions H_kind_30 H_subject_30 r16.1 r16.2.1 r16.2.2.1 r16.2.2.2)) (va_runV (As := [.int x4_30, .int r12, .int (1 : Int32)]) (rest := []) ⟨hx, hb, hml, hown, hts⟩ (c_H_addByShare l D cI cJ cZ aH aH_statementRow aH_firstRow aH_secondRow _ H_kind_30 H_subject_30 H_count_30 H_statementRow_30 H_firstRow_30 H_secondRow_30 x4_30 r12 (1 : Int32) r16 hr16) (bigV 3 hts k3_162 k3_163 k3_164 k1_8 k3_165 rfl rfl hd_H_addByShare ⟨Nat.le_of_ble_eq_true rfl, Nat.le_of_ble_eq_true rfl⟩) (wr_preV hK hP hD [7, 8, 9, 10] rfl (by decide) rfl 7 rfl rfl rfl) rfl rfl hl.1 rfl (lv_room (Nat.le_of_ble_eq_true rfl)) d_X_rank_94 ⟨Nat.le_of_ble_eq_true rfl, Nat.le_of_ble_eq_true rfl⟩) hP hD hS hA [7, 8, 9, 10] [0, 1, 2, 3, 4, 5, 6] rfl rfl (by decide) (by decide) [0, 1, 2, 3, 4, 5, 6, 7, 8, 9, 10] (by decide) rfl (fun H locs hP hD hS => ?_)
          obtain ⟨x17, ex17⟩ : ∃ y : Int32, y = x4_30 + (1 : Int32) := ⟨_, rfl⟩
          refine lv_iinc (v := x17) (lv' := [(4, .int x17), (7, .int r11), (5, .long x10), (0, .ref aX), (2, .long x2_30)]) hx hb d_X_rank_97 hl (k := 4) rfl (by rw [ex17]; rfl) (by decide) rfl (fun ls hl => ?_)
          have hf := of_nm ex17 hf
          refine lv_goto (tgt := 30) hx hb d_X_rank_100 (by decide) ?_
          exact ih30 _ _ _ _ _ _ _ _ _ _ hP hD hS _ (lv_sub hl [3, 4, 0] rfl) hf
  rw [f_X_rank] at hf
  refine lv_aload_n hx hb d_X_rank_0 rfl (lv_at hl 0 rfl) ?_
  refine lv_iload_n hx hb d_X_rank_1 rfl (lv_at hl 1 rfl) ?_
  obtain ⟨r1, hr1, hf⟩ := of_bd hf
  refine x_call (ws' := fun as2 => (wv_93 cI cJ cZ aX aX_arities aT aT_heads aT_places aT_olders aT_sizes aT_withins aT_newest aS aS_premises aS_premiseCounts aS_conclusions aS_order aM aF aE aH aH_statementRow aH_firstRow aH_secondRow X_namesUsed T_count nT_withins T_withins S_count S_premises S_premiseCounts S_conclusions H_kind H_subject H_count H_statementRow H_firstRow H_secondRow)) (xrunV (As := [.int p0]) (rest := []) ⟨hx, hb, hml, hown, hts⟩ (c_X_checkGoal l D cI cJ cZ aX aX_arities aT aT_heads aT_places aT_olders aT_sizes aT_withins aT_newest aS aM aF aE aH _ X_namesUsed T_count nT_withins T_withins p0 aK cK hst r1 hr1) (bigV 1 hts k3_115 k3_117 ks_X_checkGoal k1_1 k3_118 rfl rfl hd_X_checkGoal ⟨Nat.le_of_ble_eq_true rfl, Nat.le_of_ble_eq_true rfl⟩) (x_preV hK hP hD hE hSR (keepS hS hcS0 hnA) hnA [0, 1, 2] rfl (by decide) rfl 0 rfl rfl rfl) rfl rfl hl.1 rfl (lv_room (Nat.le_of_ble_eq_true rfl)) d_X_rank_2 ⟨(Nat.le_of_ble_eq_true rfl), (Nat.le_of_ble_eq_true rfl)⟩) hP hD hS hA [0, 1, 2] [3, 4, 5, 6, 7, 8, 9, 10] rfl rfl (by decide) (by decide) [8, 9, 10, 0, 1, 2, 3, 4, 5, 6, 7] (by decide) (fun _ => rfl) (fun hz as2 H locs hP hD hS => ?_) (fun hz as2 H locs q9 ce9 hP hD hS hc1 hc2 hc3 => ?_)
  · have hf := ite_t hz hf
    refine W.widen (k := 1) (n := 6) (by omega) (by omega) ?_
    refine lv_aload_n hx hb d_X_rank_5 rfl (lv_at hl 0 rfl) ?_
    refine va_get (D := D) (ci := 0) (v := .ref aH) (C := RR_X) (T := FF_X) (N := 8) hx hb hts kin_X hown hK.1 hP 0 rfl rfl 7 (by decide) (hts _ k1_210) (fun _ h9 => h9) rfl d_X_rank_6 ?_
    refine lv_iconst (v := 3) hx hb d_X_rank_9 (by decide) ?_
    refine lv_iload_n hx hb d_X_rank_10 rfl (lv_at hl 1 rfl) ?_
    obtain ⟨r3, hr3, hf⟩ := of_bd hf
    refine wr_call (ws' := (wv_93 cI cJ cZ aX aX_arities aT aT_heads aT_places aT_olders aT_sizes aT_withins aT_newest aS aS_premises aS_premiseCounts aS_conclusions aS_order aM aF aE aH aH_statementRow aH_firstRow aH_secondRow X_namesUsed T_count nT_withins T_withins S_count S_premises S_premiseCounts S_conclusions r3.1 r3.2.1 r3.2.2 H_statementRow H_firstRow H_secondRow)) (va_runV (As := [.int (3 : Int32), .int p0]) (rest := []) ⟨hx, hb, hml, hown, hts⟩ (c_H_begin l D cI cJ cZ aH aH_statementRow aH_firstRow aH_secondRow _ H_kind H_subject H_count (3 : Int32) p0 r3 hr3) (bigV 2 hts k3_62 k2_17 k2_18 k1_8 k2_19 rfl rfl hd_H_begin ⟨Nat.le_of_ble_eq_true rfl, Nat.le_of_ble_eq_true rfl⟩) (wr_preV hK hP hD [7] rfl (by decide) rfl 7 rfl rfl rfl) rfl rfl hl.1 rfl (lv_room (Nat.le_of_ble_eq_true rfl)) d_X_rank_11 ⟨Nat.le_of_ble_eq_true rfl, Nat.le_of_ble_eq_true rfl⟩) hP hD hS hA [7] [0, 1, 2, 3, 4, 5, 6, 8, 9, 10] rfl rfl (by decide) (by decide) [0, 1, 2, 3, 4, 5, 6, 10, 7, 8, 9] (by decide) rfl (fun H locs hP hD hS => ?_)
    refine lv_aload_n hx hb d_X_rank_14 rfl (lv_at hl 0 rfl) ?_
    refine va_get (D := D) (ci := 0) (v := .ref aT) (C := RR_X) (T := FF_X) (N := 8) hx hb hts kin_X hown hK.1 hP 0 rfl rfl 0 (by decide) (hts _ k1_203) (fun _ h9 => h9) rfl d_X_rank_15 ?_
    refine lv_iload_n hx hb d_X_rank_18 rfl (lv_at hl 1 rfl) ?_
    obtain ⟨r4, hr4, hf⟩ := of_bd hf
    refine rd_call (va_runV (As := [.int p0]) (rest := []) ⟨hx, hb, hml, hown, hts⟩ (c_T_within l D cI cJ cZ aT aT_heads aT_places aT_olders aT_sizes aT_withins aT_newest T_count nT_withins T_withins p0 r4 hr4) (bigV 1 hts k3_155 k3_9 k3_10 k1_2 k3_11 rfl rfl hd_T_within ⟨Nat.le_of_ble_eq_true rfl, Nat.le_of_ble_eq_true rfl⟩) (rd_preV hK hP [1, 2] rfl 1 rfl rfl rfl) rfl rfl hl.1 rfl (lv_room (Nat.le_of_ble_eq_true rfl)) d_X_rank_19 ⟨Nat.le_of_ble_eq_true rfl, Nat.le_of_ble_eq_true rfl⟩) ?_
    refine lv_ldc2 (v := 1073741823) hx hb hown (hts _ k3_156) d_X_rank_22 ?_
    refine lv_land hx hb d_X_rank_25 ?_
    refine lv_topl (fun x5 ex5 => ?_)
    have hf := of_nm ex5 hf
    refine lv_lstore_n (lv' := [(2, .long x5), (0, .ref aX), (1, .int p0)]) hx hb d_X_rank_26 rfl hl (by decide) rfl (fun ls hl => ?_)
    refine lv_iconst (v := 0) hx hb d_X_rank_27 (by decide) ?_
    refine lv_istore (lv' := [(4, .int (0 : Int32)), (2, .long x5), (0, .ref aX), (1, .int p0)]) hx hb d_X_rank_28 hl (by decide) rfl (fun ls hl => ?_)
    exact hL30 FU _ _ _ _ _ _ _ _ _ _ hP hD hS _ (lv_sub hl [2, 1, 0] rfl) hf
  · have hf := ite_f hz hf
    obtain rfl := Option.some.inj hf
    exact wx_out hno hlocks hc1 hc2 hc3 (fun t ht => ⟨hz, rfl, fun _ => 0, by rw [ht]; exact hP, hD, hS.F ht⟩) hS.2.2 (Nat.le_of_ble_eq_true rfl) (Nat.le_of_ble_eq_true rfl)
def f_X_goal (T_count : Int32) (nT_heads : Nat) (T_heads : (Nat → Int32)) (nT_places : Nat) (T_places : (Nat → Int32)) (nT_olders : Nat) (T_olders : (Nat → Int32)) (nT_sizes : Nat) (T_sizes : (Nat → Int32)) (nT_withins : Nat) (T_withins : (Nat → Int64)) (T_newest : (Nat → Int32)) (S_count : Int32) (S_premises : (Nat → Int32)) (S_premiseCounts : (Nat → Int32)) (S_conclusions : (Nat → Int32)) (M_images : (Nat → Int32)) (M_path : (Nat → Int32)) (H_kind : Int32) (H_subject : Int32) (H_count : Int32) (H_statementRow : (Nat → Int32)) (H_secondRow : (Nat → Int32)) (p0 : Int32) (p1 : Int32) : Option (Nat × Int32 × Int32 × (Nat → Int32) × (Nat → Int32) × (Nat → Int32) × (Nat → Int32) × (Nat → Int64) × (Nat → Int32) × (Nat → Int32) × (Nat → Int32)) :=
  (f_H_has H_count p0).bind fun r1 =>
  if r1 = 0 then
    some (1, (0 : Int32), T_count, T_heads, T_places, T_olders, T_sizes, T_withins, T_newest, M_images, M_path)
  else
    (f_H_kind H_kind).bind fun r4 =>
    if r4 = (2 : Int32) then
      if p1 < 0 then
        some (1, (0 : Int32), T_count, T_heads, T_places, T_olders, T_sizes, T_withins, T_newest, M_images, M_path)
      else
        (f_H_second H_count H_secondRow p0).bind fun r9 =>
        if p1 < r9 then
          (f_H_statement H_count H_statementRow p0).bind fun r11 =>
          (f_S_conclusion S_count S_conclusions r11).bind fun r12 =>
          (f_H_subject H_subject).bind fun r13 =>
          (f_M_matches T_count nT_heads T_heads nT_places T_places nT_withins T_withins M_images r12 r13 (273804165120 : Int64)).bind fun r14 =>
          (f_S_premise S_count S_premises S_premiseCounts r11 p1).bind fun r15 =>
          (f_M_instance T_count nT_heads T_heads nT_places T_places nT_olders T_olders nT_sizes T_sizes nT_withins T_withins T_newest r14.2 M_path r15 (100 : Int32)).bind fun r16 =>
          if r16.1 = (-1 : Int32) then
            some (3, (0 : Int32), r16.2.1, r16.2.2.1, r16.2.2.2.1, r16.2.2.2.2.1, r16.2.2.2.2.2.1, r16.2.2.2.2.2.2.1, r16.2.2.2.2.2.2.2.1, r16.2.2.2.2.2.2.2.2.1, r16.2.2.2.2.2.2.2.2.2)
          else
            some (0, r16.1, r16.2.1, r16.2.2.1, r16.2.2.2.1, r16.2.2.2.2.1, r16.2.2.2.2.2.1, r16.2.2.2.2.2.2.1, r16.2.2.2.2.2.2.2.1, r16.2.2.2.2.2.2.2.2.1, r16.2.2.2.2.2.2.2.2.2)
        else
          some (1, (0 : Int32), T_count, T_heads, T_places, T_olders, T_sizes, T_withins, T_newest, M_images, M_path)
    else
      some (1, (0 : Int32), T_count, T_heads, T_places, T_olders, T_sizes, T_withins, T_newest, M_images, M_path)
abbrev rm_X_goal : Room := { frames := 6, cells := 1, slots := 6, locals := 106 }
set_option maxHeartbeats 4000000 in
set_option maxRecDepth 100000 in
theorem c_X_goal (l : Launch) (D : va_G) (cI cJ cZ : ClassId) (aX aX_arities aT aT_heads aT_places aT_olders aT_sizes aT_withins aT_newest aS aS_premises aS_premiseCounts aS_conclusions aS_order aM aM_images aM_path aF aE aH aH_statementRow aH_firstRow aH_secondRow : Nat) (sz : Nat) (X_namesUsed : Int32) (T_count : Int32) (nT_heads : Nat) (T_heads : (Nat → Int32)) (nT_places : Nat) (T_places : (Nat → Int32)) (nT_olders : Nat) (T_olders : (Nat → Int32)) (nT_sizes : Nat) (T_sizes : (Nat → Int32)) (nT_withins : Nat) (T_withins : (Nat → Int64)) (T_newest : (Nat → Int32)) (S_count : Int32) (S_premises : (Nat → Int32)) (S_premiseCounts : (Nat → Int32)) (S_conclusions : (Nat → Int32)) (M_images : (Nat → Int32)) (M_path : (Nat → Int32)) (H_kind : Int32) (H_subject : Int32) (H_count : Int32) (H_statementRow : (Nat → Int32)) (H_secondRow : (Nat → Int32)) (p0 : Int32) (p1 : Int32) (aK : Nat) (cK : Cell) (hst : l.stackTraces = false) (o : Nat × Int32 × Int32 × (Nat → Int32) × (Nat → Int32) × (Nat → Int32) × (Nat → Int32) × (Nat → Int64) × (Nat → Int32) × (Nat → Int32) × (Nat → Int32)) (hf : f_X_goal T_count nT_heads T_heads nT_places T_places nT_olders T_olders nT_sizes T_sizes nT_withins T_withins T_newest S_count S_premises S_premiseCounts S_conclusions M_images M_path H_kind H_subject H_count H_statementRow H_secondRow p0 p1 = some o) : XMet l y_X_goal (ws_X_goal) rm_X_goal (XPc D vwCl cI cJ cZ aK cK [.ref aX, .int p0, .int p1] (wv_94 cI cJ cZ aX aX_arities aT aT_heads aT_places aT_olders aT_sizes aT_withins aT_newest aS aS_premises aS_premiseCounts aS_conclusions aS_order aM aM_images aM_path aF aE aH aH_statementRow aH_firstRow aH_secondRow X_namesUsed T_count nT_heads T_heads nT_places T_places nT_olders T_olders nT_sizes T_sizes nT_withins T_withins T_newest S_count S_premises S_premiseCounts S_conclusions M_images M_path H_kind H_subject H_count H_statementRow H_secondRow) sz) (QN D vwCl o.1 (some (.int o.2.1)) (fun as => (wv_94 cI cJ cZ aX aX_arities aT aT_heads aT_places aT_olders aT_sizes aT_withins aT_newest aS aS_premises aS_premiseCounts aS_conclusions aS_order aM aM_images aM_path aF aE aH aH_statementRow aH_firstRow aH_secondRow X_namesUsed o.2.2.1 nT_heads o.2.2.2.1 nT_places o.2.2.2.2.1 nT_olders o.2.2.2.2.2.1 nT_sizes o.2.2.2.2.2.2.1 nT_withins o.2.2.2.2.2.2.2.1 o.2.2.2.2.2.2.2.2.1 S_count S_premises S_premiseCounts S_conclusions o.2.2.2.2.2.2.2.2.2.1 o.2.2.2.2.2.2.2.2.2.2 H_kind H_subject H_count H_statementRow H_secondRow)) (va_A (wv_94 cI cJ cZ aX aX_arities aT aT_heads aT_places aT_olders aT_sizes aT_withins aT_newest aS aS_premises aS_premiseCounts aS_conclusions aS_order aM aM_images aM_path aF aE aH aH_statementRow aH_firstRow aH_secondRow X_namesUsed T_count nT_heads T_heads nT_places T_places nT_olders T_olders nT_sizes T_sizes nT_withins T_withins T_newest S_count S_premises S_premiseCounts S_conclusions M_images M_path H_kind H_subject H_count H_statementRow H_secondRow) sz)) (QT D vwCl o.1 (fun as => (wv_94 cI cJ cZ aX aX_arities aT aT_heads aT_places aT_olders aT_sizes aT_withins aT_newest aS aS_premises aS_premiseCounts aS_conclusions aS_order aM aM_images aM_path aF aE aH aH_statementRow aH_firstRow aH_secondRow X_namesUsed o.2.2.1 nT_heads o.2.2.2.1 nT_places o.2.2.2.2.1 nT_olders o.2.2.2.2.2.1 nT_sizes o.2.2.2.2.2.2.1 nT_withins o.2.2.2.2.2.2.2.1 o.2.2.2.2.2.2.2.2.1 S_count S_premises S_premiseCounts S_conclusions o.2.2.2.2.2.2.2.2.2.1 o.2.2.2.2.2.2.2.2.2.2 H_kind H_subject H_count H_statementRow H_secondRow)) (va_A (wv_94 cI cJ cZ aX aX_arities aT aT_heads aT_places aT_olders aT_sizes aT_withins aT_newest aS aS_premises aS_premiseCounts aS_conclusions aS_order aM aM_images aM_path aF aE aH aH_statementRow aH_firstRow aH_secondRow X_namesUsed T_count nT_heads T_heads nT_places T_places nT_olders T_olders nT_sizes T_sizes nT_withins T_withins T_newest S_count S_premises S_premiseCounts S_conclusions M_images M_path H_kind H_subject H_count H_statementRow H_secondRow) sz)) 1 6 (va_A (wv_94 cI cJ cZ aX aX_arities aT aT_heads aT_places aT_olders aT_sizes aT_withins aT_newest aS aS_premises aS_premiseCounts aS_conclusions aS_order aM aM_images aM_path aF aE aH aH_statementRow aH_firstRow aH_secondRow X_namesUsed T_count nT_heads T_heads nT_places T_places nT_olders T_olders nT_sizes T_sizes nT_withins T_withins T_newest S_count S_premises S_premiseCounts S_conclusions M_images M_path H_kind H_subject H_count H_statementRow H_secondRow) sz) := by
  refine XMet.ofW (cc := b_X_goal) (maxL := 5) (ret := (some .int)) (by decide) rfl ?_
  intro p e s m args below meth c s₁ B hml hno hv
  obtain ⟨rfl, rfl, hP, hK, hD0, ⟨hcS0, hE, hSR⟩, hnA⟩ := hv
  have hx := B.exec
  have hb := B.bytes
  have hr := B.returns
  have hts : ∀ w ∈ BG, w.before _ s = true := fun w h => atoms_spec (ws := (ws_X_goal)) B.pre w (List.mem_cons_of_mem _ h)
  have hown : s.vm.findClass RR_X = some m.cls := findClass_of_methodNamed B.named
  have hlocks := B.notSynchronized
  have hD := hD0.self (sz := s.heap.size)
  have hA : ∀ q : Nat, s.heap.size ≤ q → va_A (wv_94 cI cJ cZ aX aX_arities aT aT_heads aT_places aT_olders aT_sizes aT_withins aT_newest aS aS_premises aS_premiseCounts aS_conclusions aS_order aM aM_images aM_path aF aE aH aH_statementRow aH_firstRow aH_secondRow X_namesUsed T_count nT_heads T_heads nT_places T_places nT_olders T_olders nT_sizes T_sizes nT_withins T_withins T_newest S_count S_premises S_premiseCounts S_conclusions M_images M_path H_kind H_subject H_count H_statementRow H_secondRow) s.heap.size q := fun q h => Or.inr h
  have hS : va_S (va_A (wv_94 cI cJ cZ aX aX_arities aT aT_heads aT_places aT_olders aT_sizes aT_withins aT_newest aS aS_premises aS_premiseCounts aS_conclusions aS_order aM aM_images aM_path aF aE aH aH_statementRow aH_firstRow aH_secondRow X_namesUsed T_count nT_heads T_heads nT_places T_places nT_olders T_olders nT_sizes T_sizes nT_withins T_withins T_newest S_count S_premises S_premiseCounts S_conclusions M_images M_path H_kind H_subject H_count H_statementRow H_secondRow) s.heap.size) s.heap s.heap [] := va_S.rf
  generalize va_A (wv_94 cI cJ cZ aX aX_arities aT aT_heads aT_places aT_olders aT_sizes aT_withins aT_newest aS aS_premises aS_premiseCounts aS_conclusions aS_order aM aM_images aM_path aF aE aH aH_statementRow aH_firstRow aH_secondRow X_namesUsed T_count nT_heads T_heads nT_places T_places nT_olders T_olders nT_sizes T_sizes nT_withins T_withins T_newest S_count S_premises S_premiseCounts S_conclusions M_images M_path H_kind H_subject H_count H_statementRow H_secondRow) s.heap.size = A at hD hA hS hnA ⊢
  have hl := lv_entry ([.ref aX, .int p0, .int p1]) (n := 5) (Nat.le_of_ble_eq_true rfl)
  rw [lg_entry_eq]
  generalize (lg_sl ([.ref aX, .int p0, .int p1]) ++ List.replicate (5 - (lg_sl ([.ref aX, .int p0, .int p1])).length) Slot.unset).toArray = ls at hl ⊢
  have hl : lv_has ls 5 [(0, .ref aX), (1, .int p0), (2, .int p1)] := hl
  rw [f_X_goal] at hf
  refine lv_aload_n hx hb d_X_goal_0 rfl (lv_at hl 0 rfl) ?_
  refine va_get (D := D) (ci := 0) (v := .ref aH) (C := RR_X) (T := FF_X) (N := 8) hx hb hts kin_X hown hK.1 hP 0 rfl rfl 7 (by decide) (hts _ k1_210) (fun _ h9 => h9) rfl d_X_goal_1 ?_
  refine lv_iload_n hx hb d_X_goal_4 rfl (lv_at hl 1 rfl) ?_
  obtain ⟨r1, hr1, hf⟩ := of_bd hf
  refine rd_call (va_runV (As := [.int p0]) (rest := []) ⟨hx, hb, hml, hown, hts⟩ (c_H_has l D cI cJ cZ aH aH_statementRow aH_firstRow aH_secondRow H_kind H_subject H_count p0 r1 hr1) (bigV 1 hts k2_28 k2_29 k2_30 k1_8 k2_31 rfl rfl hd_H_has ⟨Nat.le_of_ble_eq_true rfl, Nat.le_of_ble_eq_true rfl⟩) (rd_preV hK hP [15] rfl 15 rfl rfl rfl) rfl rfl hl.1 rfl (lv_room (Nat.le_of_ble_eq_true rfl)) d_X_goal_5 ⟨Nat.le_of_ble_eq_true rfl, Nat.le_of_ble_eq_true rfl⟩) ?_
  refine lv_if_eq (tgt := 38) hx hb d_X_goal_8 (by decide) (fun c2 => ?_) (fun c2 => ?_)
  · have hf := ite_t c2 hf
    obtain rfl := Option.some.inj hf
    obtain ⟨sa3, hsa3⟩ := hSR (227, "no such new goal") (by decide)
    exact xthrow hx hb hst (names := ["java/lang/RuntimeException", "java/lang/Exception"]) hown (by decide) (by decide) hts k2_154 k1_13 k2_155 at_1 hsa3 hE (keepS hS hcS0 hnA) (hl.1.trans hml.symm) d_X_goal_38 d_X_goal_41 (Or.inl ⟨d_X_goal_42, rfl⟩) d_X_goal_44 d_X_goal_47 hno (Nat.le_of_ble_eq_true rfl) (Nat.le_of_ble_eq_true rfl) (Nat.le_of_ble_eq_true rfl) (Nat.le_of_ble_eq_true rfl) hlocks (fun t h1 h2 => qt_of (Nat.succ_ne_zero 0) rfl (fun _ => 0) hP hD hS h1 h2) hS.2.2 (Nat.le_of_ble_eq_true rfl) (Nat.le_of_ble_eq_true rfl)
  · have hf := ite_f c2 hf
    refine lv_aload_n hx hb d_X_goal_11 rfl (lv_at hl 0 rfl) ?_
    refine va_get (D := D) (ci := 0) (v := .ref aH) (C := RR_X) (T := FF_X) (N := 8) hx hb hts kin_X hown hK.1 hP 0 rfl rfl 7 (by decide) (hts _ k1_210) (fun _ h9 => h9) rfl d_X_goal_12 ?_
    obtain ⟨r4, hr4, hf⟩ := of_bd hf
    refine rd_call (va_runV (As := []) (rest := []) ⟨hx, hb, hml, hown, hts⟩ (c_H_kind l D cI cJ cZ aH aH_statementRow aH_firstRow aH_secondRow H_kind H_subject H_count r4 hr4) (bigV 0 hts k2_49 k2_50 k2_51 k1_8 k2_52 rfl rfl hd_H_kind ⟨Nat.le_of_ble_eq_true rfl, Nat.le_of_ble_eq_true rfl⟩) (rd_preV hK hP [15] rfl 15 rfl rfl rfl) rfl rfl hl.1 rfl (lv_room (Nat.le_of_ble_eq_true rfl)) d_X_goal_15 ⟨Nat.le_of_ble_eq_true rfl, Nat.le_of_ble_eq_true rfl⟩) ?_
    refine lv_iconst (v := 2) hx hb d_X_goal_18 (by decide) ?_
    refine lv_icmp_ne (tgt := 38) hx hb d_X_goal_19 (by decide) (fun c5 => ?_) (fun c5 => ?_)
    · have hf := ite_f c5 hf
      obtain rfl := Option.some.inj hf
      obtain ⟨sa6, hsa6⟩ := hSR (227, "no such new goal") (by decide)
      exact xthrow hx hb hst (names := ["java/lang/RuntimeException", "java/lang/Exception"]) hown (by decide) (by decide) hts k2_154 k1_13 k2_155 at_1 hsa6 hE (keepS hS hcS0 hnA) (hl.1.trans hml.symm) d_X_goal_38 d_X_goal_41 (Or.inl ⟨d_X_goal_42, rfl⟩) d_X_goal_44 d_X_goal_47 hno (Nat.le_of_ble_eq_true rfl) (Nat.le_of_ble_eq_true rfl) (Nat.le_of_ble_eq_true rfl) (Nat.le_of_ble_eq_true rfl) hlocks (fun t h1 h2 => qt_of (Nat.succ_ne_zero 0) rfl (fun _ => 0) hP hD hS h1 h2) hS.2.2 (Nat.le_of_ble_eq_true rfl) (Nat.le_of_ble_eq_true rfl)
    · have hf := ite_t c5 hf
      refine lv_iload_n hx hb d_X_goal_22 rfl (lv_at hl 2 rfl) ?_
      refine lv_if_lt (tgt := 38) hx hb d_X_goal_23 (by decide) (fun c7 => ?_) (fun c7 => ?_)
      · have hf := ite_t c7 hf
        obtain rfl := Option.some.inj hf
        obtain ⟨sa8, hsa8⟩ := hSR (227, "no such new goal") (by decide)
        exact xthrow hx hb hst (names := ["java/lang/RuntimeException", "java/lang/Exception"]) hown (by decide) (by decide) hts k2_154 k1_13 k2_155 at_1 hsa8 hE (keepS hS hcS0 hnA) (hl.1.trans hml.symm) d_X_goal_38 d_X_goal_41 (Or.inl ⟨d_X_goal_42, rfl⟩) d_X_goal_44 d_X_goal_47 hno (Nat.le_of_ble_eq_true rfl) (Nat.le_of_ble_eq_true rfl) (Nat.le_of_ble_eq_true rfl) (Nat.le_of_ble_eq_true rfl) hlocks (fun t h1 h2 => qt_of (Nat.succ_ne_zero 0) rfl (fun _ => 0) hP hD hS h1 h2) hS.2.2 (Nat.le_of_ble_eq_true rfl) (Nat.le_of_ble_eq_true rfl)
      · have hf := ite_f c7 hf
        refine lv_iload_n hx hb d_X_goal_26 rfl (lv_at hl 2 rfl) ?_
        refine lv_aload_n hx hb d_X_goal_27 rfl (lv_at hl 0 rfl) ?_
        refine va_get (D := D) (ci := 0) (v := .ref aH) (C := RR_X) (T := FF_X) (N := 8) hx hb hts kin_X hown hK.1 hP 0 rfl rfl 7 (by decide) (hts _ k1_210) (fun _ h9 => h9) rfl d_X_goal_28 ?_
        refine lv_iload_n hx hb d_X_goal_31 rfl (lv_at hl 1 rfl) ?_
        obtain ⟨r9, hr9, hf⟩ := of_bd hf
        refine rd_call (va_runV (As := [.int p0]) (rest := [.int p1]) ⟨hx, hb, hml, hown, hts⟩ (c_H_second l D cI cJ cZ aH aH_statementRow aH_firstRow aH_secondRow H_kind H_subject H_count H_secondRow p0 r9 hr9) (bigV 1 hts k2_41 k2_42 k2_43 k1_8 k2_44 rfl rfl hd_H_second ⟨Nat.le_of_ble_eq_true rfl, Nat.le_of_ble_eq_true rfl⟩) (rd_preV hK hP [15, 17] rfl 15 rfl rfl rfl) rfl rfl hl.1 rfl (lv_room (Nat.le_of_ble_eq_true rfl)) d_X_goal_32 ⟨Nat.le_of_ble_eq_true rfl, Nat.le_of_ble_eq_true rfl⟩) ?_
        refine lv_icmp_lt (tgt := 48) hx hb d_X_goal_35 (by decide) (fun c10 => ?_) (fun c10 => ?_)
        · have hf := ite_t c10 hf
          refine lv_aload_n hx hb d_X_goal_48 rfl (lv_at hl 0 rfl) ?_
          refine va_get (D := D) (ci := 0) (v := .ref aH) (C := RR_X) (T := FF_X) (N := 8) hx hb hts kin_X hown hK.1 hP 0 rfl rfl 7 (by decide) (hts _ k1_210) (fun _ h9 => h9) rfl d_X_goal_49 ?_
          refine lv_iload_n hx hb d_X_goal_52 rfl (lv_at hl 1 rfl) ?_
          obtain ⟨r11, hr11, hf⟩ := of_bd hf
          refine rd_call (va_runV (As := [.int p0]) (rest := []) ⟨hx, hb, hml, hown, hts⟩ (c_H_statement l D cI cJ cZ aH aH_statementRow aH_firstRow aH_secondRow H_kind H_subject H_count H_statementRow p0 r11 hr11) (bigV 1 hts k2_32 k2_33 k2_34 k1_8 k2_35 rfl rfl hd_H_statement ⟨Nat.le_of_ble_eq_true rfl, Nat.le_of_ble_eq_true rfl⟩) (rd_preV hK hP [15, 16] rfl 15 rfl rfl rfl) rfl rfl hl.1 rfl (lv_room (Nat.le_of_ble_eq_true rfl)) d_X_goal_53 ⟨Nat.le_of_ble_eq_true rfl, Nat.le_of_ble_eq_true rfl⟩) ?_
          refine lv_istore_n (lv' := [(3, .int r11), (0, .ref aX), (1, .int p0), (2, .int p1)]) hx hb d_X_goal_56 rfl hl (by decide) rfl (fun ls hl => ?_)
          refine lv_aload_n hx hb d_X_goal_57 rfl (lv_at hl 1 rfl) ?_
          refine va_get (D := D) (ci := 0) (v := .ref aM) (C := RR_X) (T := FF_X) (N := 8) hx hb hts kin_X hown hK.1 hP 0 rfl rfl 4 (by decide) (hts _ k1_207) (fun _ h9 => h9) rfl d_X_goal_58 ?_
          refine lv_aload_n hx hb d_X_goal_61 rfl (lv_at hl 1 rfl) ?_
          refine va_get (D := D) (ci := 0) (v := .ref aS) (C := RR_X) (T := FF_X) (N := 8) hx hb hts kin_X hown hK.1 hP 0 rfl rfl 3 (by decide) (hts _ k1_206) (fun _ h9 => h9) rfl d_X_goal_62 ?_
          refine lv_iload_n hx hb d_X_goal_65 rfl (lv_at hl 0 rfl) ?_
          obtain ⟨r12, hr12, hf⟩ := of_bd hf
          refine rd_call (va_runV (As := [.int r11]) (rest := [.ref aM]) ⟨hx, hb, hml, hown, hts⟩ (c_S_conclusion l D cI cJ cZ aS aS_premises aS_premiseCounts aS_conclusions aS_order S_count S_conclusions r11 r12 hr12) (bigV 1 hts k2_100 k2_101 k2_102 k1_4 k2_103 rfl rfl hd_S_conclusion ⟨Nat.le_of_ble_eq_true rfl, Nat.le_of_ble_eq_true rfl⟩) (rd_preV hK hP [8, 11] rfl 8 rfl rfl rfl) rfl rfl hl.1 rfl (lv_room (Nat.le_of_ble_eq_true rfl)) d_X_goal_66 ⟨Nat.le_of_ble_eq_true rfl, Nat.le_of_ble_eq_true rfl⟩) ?_
          refine lv_aload_n hx hb d_X_goal_69 rfl (lv_at hl 1 rfl) ?_
          refine va_get (D := D) (ci := 0) (v := .ref aH) (C := RR_X) (T := FF_X) (N := 8) hx hb hts kin_X hown hK.1 hP 0 rfl rfl 7 (by decide) (hts _ k1_210) (fun _ h9 => h9) rfl d_X_goal_70 ?_
          obtain ⟨r13, hr13, hf⟩ := of_bd hf
          refine rd_call (va_runV (As := []) (rest := [.int r12, .ref aM]) ⟨hx, hb, hml, hown, hts⟩ (c_H_subject l D cI cJ cZ aH aH_statementRow aH_firstRow aH_secondRow H_kind H_subject H_count r13 hr13) (bigV 0 hts k2_53 k2_54 k2_55 k1_8 k2_56 rfl rfl hd_H_subject ⟨Nat.le_of_ble_eq_true rfl, Nat.le_of_ble_eq_true rfl⟩) (rd_preV hK hP [15] rfl 15 rfl rfl rfl) rfl rfl hl.1 rfl (lv_room (Nat.le_of_ble_eq_true rfl)) d_X_goal_73 ⟨Nat.le_of_ble_eq_true rfl, Nat.le_of_ble_eq_true rfl⟩) ?_
          refine lv_ldc2 (v := 273804165120) hx hb hown (hts _ k2_104) d_X_goal_76 ?_
          obtain ⟨r14, hr14, hf⟩ := of_bd hf
          refine wr_call (ws' := (wv_94 cI cJ cZ aX aX_arities aT aT_heads aT_places aT_olders aT_sizes aT_withins aT_newest aS aS_premises aS_premiseCounts aS_conclusions aS_order aM aM_images aM_path aF aE aH aH_statementRow aH_firstRow aH_secondRow X_namesUsed T_count nT_heads T_heads nT_places T_places nT_olders T_olders nT_sizes T_sizes nT_withins T_withins T_newest S_count S_premises S_premiseCounts S_conclusions r14.2 M_path H_kind H_subject H_count H_statementRow H_secondRow)) (va_runV (As := [.int r12, .int r13, .long (273804165120 : Int64)]) (rest := []) ⟨hx, hb, hml, hown, hts⟩ (c_M_matches l D cI cJ cZ aT aT_heads aT_places aT_olders aT_sizes aT_withins aT_newest aM aM_images aM_path _ T_count nT_heads T_heads nT_places T_places nT_withins T_withins M_images r12 r13 (273804165120 : Int64) r14 hr14) (bigV 3 hts k2_58 k2_59 k2_60 k1_5 k2_61 rfl rfl hd_M_matches ⟨Nat.le_of_ble_eq_true rfl, Nat.le_of_ble_eq_true rfl⟩) (wr_preV hK hP hD [1, 2, 3, 6, 12, 13] rfl (by decide) rfl 12 rfl rfl rfl) rfl rfl hl.1 rfl (lv_room (Nat.le_of_ble_eq_true rfl)) d_X_goal_79 ⟨Nat.le_of_ble_eq_true rfl, Nat.le_of_ble_eq_true rfl⟩) hP hD hS hA [1, 2, 3, 6, 12, 13] [0, 4, 5, 7, 8, 9, 10, 11, 14, 15, 16, 17] rfl rfl (by decide) (by decide) [0, 12, 13, 14, 1, 2, 15, 3, 4, 5, 6, 7, 16, 17, 8, 9, 10, 11] (by decide) rfl (fun H locs hP hD hS => ?_)
          refine lv_pop hx hb d_X_goal_82 rfl ?_
          refine lv_aload_n hx hb d_X_goal_83 rfl (lv_at hl 1 rfl) ?_
          refine va_get (D := D) (ci := 0) (v := .ref aM) (C := RR_X) (T := FF_X) (N := 8) hx hb hts kin_X hown hK.1 hP 0 rfl rfl 4 (by decide) (hts _ k1_207) (fun _ h9 => h9) rfl d_X_goal_84 ?_
          refine lv_aload_n hx hb d_X_goal_87 rfl (lv_at hl 1 rfl) ?_
          refine va_get (D := D) (ci := 0) (v := .ref aS) (C := RR_X) (T := FF_X) (N := 8) hx hb hts kin_X hown hK.1 hP 0 rfl rfl 3 (by decide) (hts _ k1_206) (fun _ h9 => h9) rfl d_X_goal_88 ?_
          refine lv_iload_n hx hb d_X_goal_91 rfl (lv_at hl 0 rfl) ?_
          refine lv_iload_n hx hb d_X_goal_92 rfl (lv_at hl 3 rfl) ?_
          obtain ⟨r15, hr15, hf⟩ := of_bd hf
          refine rd_call (va_runV (As := [.int r11, .int p1]) (rest := [.ref aM]) ⟨hx, hb, hml, hown, hts⟩ (c_S_premise l D cI cJ cZ aS aS_premises aS_premiseCounts aS_conclusions aS_order S_count S_premises S_premiseCounts r11 p1 r15 hr15) (bigV 2 hts k3_175 k3_88 k3_89 k1_4 k3_90 rfl rfl hd_S_premise ⟨Nat.le_of_ble_eq_true rfl, Nat.le_of_ble_eq_true rfl⟩) (rd_preV hK hP [8, 9, 10] rfl 8 rfl rfl rfl) rfl rfl hl.1 rfl (lv_room (Nat.le_of_ble_eq_true rfl)) d_X_goal_93 ⟨Nat.le_of_ble_eq_true rfl, Nat.le_of_ble_eq_true rfl⟩) ?_
          refine lv_bipush (v := 100) hx hb d_X_goal_96 (by decide) ?_
          obtain ⟨r16, hr16, hf⟩ := of_bd hf
          refine wr_call (ws' := (wv_94 cI cJ cZ aX aX_arities aT aT_heads aT_places aT_olders aT_sizes aT_withins aT_newest aS aS_premises aS_premiseCounts aS_conclusions aS_order aM aM_images aM_path aF aE aH aH_statementRow aH_firstRow aH_secondRow X_namesUsed r16.2.1 nT_heads r16.2.2.1 nT_places r16.2.2.2.1 nT_olders r16.2.2.2.2.1 nT_sizes r16.2.2.2.2.2.1 nT_withins r16.2.2.2.2.2.2.1 r16.2.2.2.2.2.2.2.1 S_count S_premises S_premiseCounts S_conclusions r16.2.2.2.2.2.2.2.2.1 r16.2.2.2.2.2.2.2.2.2 H_kind H_subject H_count H_statementRow H_secondRow)) (va_runV (As := [.int r15, .int (100 : Int32)]) (rest := []) ⟨hx, hb, hml, hown, hts⟩ (c_M_instance l D cI cJ cZ aT aT_heads aT_places aT_olders aT_sizes aT_withins aT_newest aM aM_images aM_path _ T_count nT_heads T_heads nT_places T_places nT_olders T_olders nT_sizes T_sizes nT_withins T_withins T_newest r14.2 M_path r15 (100 : Int32) r16 hr16) (bigV 2 hts k3_176 k3_177 k3_178 k1_5 k3_179 rfl rfl hd_M_instance ⟨Nat.le_of_ble_eq_true rfl, Nat.le_of_ble_eq_true rfl⟩) (wr_preV hK hP hD [1, 2, 3, 4, 5, 6, 7, 12, 13, 14] rfl (by decide) rfl 12 rfl rfl rfl) rfl rfl hl.1 rfl (lv_room (Nat.le_of_ble_eq_true rfl)) d_X_goal_98 ⟨Nat.le_of_ble_eq_true rfl, Nat.le_of_ble_eq_true rfl⟩) hP hD hS hA [1, 2, 3, 4, 5, 6, 7, 12, 13, 14] [0, 8, 9, 10, 11, 15, 16, 17] rfl rfl (by decide) (by decide) [0, 8, 9, 10, 11, 12, 13, 14, 1, 2, 3, 4, 15, 16, 17, 5, 6, 7] (by decide) rfl (fun H locs hP hD hS => ?_)
          refine lv_istore (lv' := [(4, .int r16.1), (3, .int r11), (0, .ref aX), (1, .int p0), (2, .int p1)]) hx hb d_X_goal_101 hl (by decide) rfl (fun ls hl => ?_)
          refine lv_iload hx hb d_X_goal_103 (lv_at hl 0 rfl) ?_
          refine lv_iconst (v := -1) hx hb d_X_goal_105 (by decide) ?_
          refine lv_icmp_ne (tgt := 119) hx hb d_X_goal_106 (by decide) (fun c17 => ?_) (fun c17 => ?_)
          · have hf := ite_f c17 hf
            refine lv_iload hx hb d_X_goal_119 (lv_at hl 0 rfl) ?_
            obtain rfl := Option.some.inj hf
            refine W.widen (k := 1) (n := 6) (by omega) (by omega) (xm_ret ?_)
            exact W.iret (v := r16.1) hx hb hr (fun t ht hW => ⟨_, rfl, rfl, rfl, fun _ => 0, by rw [ht]; exact hP, hD, hS.F ht⟩) hS.2.2 d_X_goal_121
          · have hf := ite_t c17 hf
            obtain rfl := Option.some.inj hf
            obtain ⟨sa18, hsa18⟩ := hSR (237, "there would be more than 100 terms") (by decide)
            exact xthrow hx hb hst (names := ["java/lang/RuntimeException", "java/lang/Exception"]) hown (by decide) (by decide) hts k3_12 k1_16 k3_13 at_3 hsa18 hE (keepS hS hcS0 hnA) (hl.1.trans hml.symm) d_X_goal_109 d_X_goal_112 (Or.inl ⟨d_X_goal_113, rfl⟩) d_X_goal_115 d_X_goal_118 hno (Nat.le_of_ble_eq_true rfl) (Nat.le_of_ble_eq_true rfl) (Nat.le_of_ble_eq_true rfl) (Nat.le_of_ble_eq_true rfl) hlocks (fun t h1 h2 => qt_of (Nat.succ_ne_zero 2) rfl (fun _ => 0) hP hD hS h1 h2) hS.2.2 (Nat.le_of_ble_eq_true rfl) (Nat.le_of_ble_eq_true rfl)
        · have hf := ite_f c10 hf
          obtain rfl := Option.some.inj hf
          obtain ⟨sa19, hsa19⟩ := hSR (227, "no such new goal") (by decide)
          exact xthrow hx hb hst (names := ["java/lang/RuntimeException", "java/lang/Exception"]) hown (by decide) (by decide) hts k2_154 k1_13 k2_155 at_1 hsa19 hE (keepS hS hcS0 hnA) (hl.1.trans hml.symm) d_X_goal_38 d_X_goal_41 (Or.inl ⟨d_X_goal_42, rfl⟩) d_X_goal_44 d_X_goal_47 hno (Nat.le_of_ble_eq_true rfl) (Nat.le_of_ble_eq_true rfl) (Nat.le_of_ble_eq_true rfl) (Nat.le_of_ble_eq_true rfl) hlocks (fun t h1 h2 => qt_of (Nat.succ_ne_zero 0) rfl (fun _ => 0) hP hD hS h1 h2) hS.2.2 (Nat.le_of_ble_eq_true rfl) (Nat.le_of_ble_eq_true rfl)
