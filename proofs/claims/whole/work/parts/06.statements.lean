abbrev b_S_count : ByteArray := prog_6_method_2_code
abbrev y_S_count : MethodName := ⟨"ShapeSearch$Statements", "count", "()I"⟩
abbrev ws_S_count : List Cond := .code y_S_count b_S_count 1 (some .int) :: BG
theorem hd_S_count : y_S_count.cls ≠ "java/lang/invoke/MethodHandle" ∧ y_S_count.cls ≠ "java/lang/invoke/VarHandle" ∧ (parseMethodDescriptor y_S_count.desc).map (fun d => d.parameters.length) = some 0 := by decide +kernel
theorem d_S_count_0 : decode b_S_count 0 = .ok (.aload_n 0, 1) := by decide +kernel
theorem d_S_count_1 : decode b_S_count 1 = .ok (.getfield 24, 3) := by decide +kernel
theorem d_S_count_4 : decode b_S_count 4 = .ok (.ireturn, 1) := by decide +kernel
abbrev b_S_add : ByteArray := prog_6_method_3_code
abbrev y_S_add : MethodName := ⟨"ShapeSearch$Statements", "add", "(IIIIII)I"⟩
abbrev ws_S_add : List Cond := .code y_S_add b_S_add 8 (some .int) :: BG
theorem hd_S_add : y_S_add.cls ≠ "java/lang/invoke/MethodHandle" ∧ y_S_add.cls ≠ "java/lang/invoke/VarHandle" ∧ (parseMethodDescriptor y_S_add.desc).map (fun d => d.parameters.length) = some 6 := by decide +kernel
theorem d_S_add_0 : decode b_S_add 0 = .ok (.aload_n 0, 1) := by decide +kernel
theorem d_S_add_1 : decode b_S_add 1 = .ok (.getfield 24, 3) := by decide +kernel
theorem d_S_add_4 : decode b_S_add 4 = .ok (.bipush 30, 2) := by decide +kernel
theorem d_S_add_6 : decode b_S_add 6 = .ok (.if_icmp .lt 5, 3) := by decide +kernel
theorem d_S_add_9 : decode b_S_add 9 = .ok (.iconst (-1), 1) := by decide +kernel
theorem d_S_add_10 : decode b_S_add 10 = .ok (.ireturn, 1) := by decide +kernel
theorem d_S_add_11 : decode b_S_add 11 = .ok (.aload_n 0, 1) := by decide +kernel
theorem d_S_add_12 : decode b_S_add 12 = .ok (.getfield 24, 3) := by decide +kernel
theorem d_S_add_15 : decode b_S_add 15 = .ok (.iconst 4, 1) := by decide +kernel
theorem d_S_add_16 : decode b_S_add 16 = .ok (.imul, 1) := by decide +kernel
theorem d_S_add_17 : decode b_S_add 17 = .ok (.istore 7, 2) := by decide +kernel
theorem d_S_add_19 : decode b_S_add 19 = .ok (.aload_n 0, 1) := by decide +kernel
theorem d_S_add_20 : decode b_S_add 20 = .ok (.getfield 9, 3) := by decide +kernel
theorem d_S_add_23 : decode b_S_add 23 = .ok (.iload 7, 2) := by decide +kernel
theorem d_S_add_25 : decode b_S_add 25 = .ok (.iload_n 2, 1) := by decide +kernel
theorem d_S_add_26 : decode b_S_add 26 = .ok (.iastore, 1) := by decide +kernel
theorem d_S_add_27 : decode b_S_add 27 = .ok (.aload_n 0, 1) := by decide +kernel
theorem d_S_add_28 : decode b_S_add 28 = .ok (.getfield 9, 3) := by decide +kernel
theorem d_S_add_31 : decode b_S_add 31 = .ok (.iload 7, 2) := by decide +kernel
theorem d_S_add_33 : decode b_S_add 33 = .ok (.iconst 1, 1) := by decide +kernel
theorem d_S_add_34 : decode b_S_add 34 = .ok (.iadd, 1) := by decide +kernel
theorem d_S_add_35 : decode b_S_add 35 = .ok (.iload_n 3, 1) := by decide +kernel
theorem d_S_add_36 : decode b_S_add 36 = .ok (.iastore, 1) := by decide +kernel
theorem d_S_add_37 : decode b_S_add 37 = .ok (.aload_n 0, 1) := by decide +kernel
theorem d_S_add_38 : decode b_S_add 38 = .ok (.getfield 9, 3) := by decide +kernel
theorem d_S_add_41 : decode b_S_add 41 = .ok (.iload 7, 2) := by decide +kernel
theorem d_S_add_43 : decode b_S_add 43 = .ok (.iconst 2, 1) := by decide +kernel
theorem d_S_add_44 : decode b_S_add 44 = .ok (.iadd, 1) := by decide +kernel
theorem d_S_add_45 : decode b_S_add 45 = .ok (.iload 4, 2) := by decide +kernel
theorem d_S_add_47 : decode b_S_add 47 = .ok (.iastore, 1) := by decide +kernel
theorem d_S_add_48 : decode b_S_add 48 = .ok (.aload_n 0, 1) := by decide +kernel
theorem d_S_add_49 : decode b_S_add 49 = .ok (.getfield 9, 3) := by decide +kernel
theorem d_S_add_52 : decode b_S_add 52 = .ok (.iload 7, 2) := by decide +kernel
theorem d_S_add_54 : decode b_S_add 54 = .ok (.iconst 3, 1) := by decide +kernel
theorem d_S_add_55 : decode b_S_add 55 = .ok (.iadd, 1) := by decide +kernel
theorem d_S_add_56 : decode b_S_add 56 = .ok (.iload 5, 2) := by decide +kernel
theorem d_S_add_58 : decode b_S_add 58 = .ok (.iastore, 1) := by decide +kernel
theorem d_S_add_59 : decode b_S_add 59 = .ok (.aload_n 0, 1) := by decide +kernel
theorem d_S_add_60 : decode b_S_add 60 = .ok (.getfield 15, 3) := by decide +kernel
theorem d_S_add_63 : decode b_S_add 63 = .ok (.aload_n 0, 1) := by decide +kernel
theorem d_S_add_64 : decode b_S_add 64 = .ok (.getfield 24, 3) := by decide +kernel
theorem d_S_add_67 : decode b_S_add 67 = .ok (.iload_n 1, 1) := by decide +kernel
theorem d_S_add_68 : decode b_S_add 68 = .ok (.iastore, 1) := by decide +kernel
theorem d_S_add_69 : decode b_S_add 69 = .ok (.aload_n 0, 1) := by decide +kernel
theorem d_S_add_70 : decode b_S_add 70 = .ok (.getfield 18, 3) := by decide +kernel
theorem d_S_add_73 : decode b_S_add 73 = .ok (.aload_n 0, 1) := by decide +kernel
theorem d_S_add_74 : decode b_S_add 74 = .ok (.getfield 24, 3) := by decide +kernel
theorem d_S_add_77 : decode b_S_add 77 = .ok (.iload 6, 2) := by decide +kernel
theorem d_S_add_79 : decode b_S_add 79 = .ok (.iastore, 1) := by decide +kernel
theorem d_S_add_80 : decode b_S_add 80 = .ok (.aload_n 0, 1) := by decide +kernel
theorem d_S_add_81 : decode b_S_add 81 = .ok (.dup, 1) := by decide +kernel
theorem d_S_add_82 : decode b_S_add 82 = .ok (.getfield 24, 3) := by decide +kernel
theorem d_S_add_85 : decode b_S_add 85 = .ok (.iconst 1, 1) := by decide +kernel
theorem d_S_add_86 : decode b_S_add 86 = .ok (.iadd, 1) := by decide +kernel
theorem d_S_add_87 : decode b_S_add 87 = .ok (.putfield 24, 3) := by decide +kernel
theorem d_S_add_90 : decode b_S_add 90 = .ok (.aload_n 0, 1) := by decide +kernel
theorem d_S_add_91 : decode b_S_add 91 = .ok (.getfield 24, 3) := by decide +kernel
theorem d_S_add_94 : decode b_S_add 94 = .ok (.iconst 1, 1) := by decide +kernel
theorem d_S_add_95 : decode b_S_add 95 = .ok (.isub, 1) := by decide +kernel
theorem d_S_add_96 : decode b_S_add 96 = .ok (.ireturn, 1) := by decide +kernel
abbrev b_S_dropLatest : ByteArray := prog_6_method_4_code
abbrev y_S_dropLatest : MethodName := ⟨"ShapeSearch$Statements", "dropLatest", "()Z"⟩
abbrev ws_S_dropLatest : List Cond := .code y_S_dropLatest b_S_dropLatest 1 (some .boolean) :: BG
theorem hd_S_dropLatest : y_S_dropLatest.cls ≠ "java/lang/invoke/MethodHandle" ∧ y_S_dropLatest.cls ≠ "java/lang/invoke/VarHandle" ∧ (parseMethodDescriptor y_S_dropLatest.desc).map (fun d => d.parameters.length) = some 0 := by decide +kernel
theorem d_S_dropLatest_0 : decode b_S_dropLatest 0 = .ok (.aload_n 0, 1) := by decide +kernel
theorem d_S_dropLatest_1 : decode b_S_dropLatest 1 = .ok (.getfield 24, 3) := by decide +kernel
theorem d_S_dropLatest_4 : decode b_S_dropLatest 4 = .ok (.ifCond .ne 5, 3) := by decide +kernel
theorem d_S_dropLatest_7 : decode b_S_dropLatest 7 = .ok (.iconst 0, 1) := by decide +kernel
theorem d_S_dropLatest_8 : decode b_S_dropLatest 8 = .ok (.ireturn, 1) := by decide +kernel
theorem d_S_dropLatest_9 : decode b_S_dropLatest 9 = .ok (.aload_n 0, 1) := by decide +kernel
theorem d_S_dropLatest_10 : decode b_S_dropLatest 10 = .ok (.dup, 1) := by decide +kernel
theorem d_S_dropLatest_11 : decode b_S_dropLatest 11 = .ok (.getfield 24, 3) := by decide +kernel
theorem d_S_dropLatest_14 : decode b_S_dropLatest 14 = .ok (.iconst 1, 1) := by decide +kernel
theorem d_S_dropLatest_15 : decode b_S_dropLatest 15 = .ok (.isub, 1) := by decide +kernel
theorem d_S_dropLatest_16 : decode b_S_dropLatest 16 = .ok (.putfield 24, 3) := by decide +kernel
theorem d_S_dropLatest_19 : decode b_S_dropLatest 19 = .ok (.iconst 1, 1) := by decide +kernel
theorem d_S_dropLatest_20 : decode b_S_dropLatest 20 = .ok (.ireturn, 1) := by decide +kernel
abbrev b_S_premises : ByteArray := prog_6_method_5_code
abbrev y_S_premises : MethodName := ⟨"ShapeSearch$Statements", "premises", "(I)I"⟩
abbrev ws_S_premises : List Cond := .code y_S_premises b_S_premises 2 (some .int) :: BG
theorem hd_S_premises : y_S_premises.cls ≠ "java/lang/invoke/MethodHandle" ∧ y_S_premises.cls ≠ "java/lang/invoke/VarHandle" ∧ (parseMethodDescriptor y_S_premises.desc).map (fun d => d.parameters.length) = some 1 := by decide +kernel
theorem d_S_premises_0 : decode b_S_premises 0 = .ok (.iload_n 1, 1) := by decide +kernel
theorem d_S_premises_1 : decode b_S_premises 1 = .ok (.ifCond .lt 20, 3) := by decide +kernel
theorem d_S_premises_4 : decode b_S_premises 4 = .ok (.iload_n 1, 1) := by decide +kernel
theorem d_S_premises_5 : decode b_S_premises 5 = .ok (.aload_n 0, 1) := by decide +kernel
theorem d_S_premises_6 : decode b_S_premises 6 = .ok (.getfield 24, 3) := by decide +kernel
theorem d_S_premises_9 : decode b_S_premises 9 = .ok (.if_icmp .ge 12, 3) := by decide +kernel
theorem d_S_premises_12 : decode b_S_premises 12 = .ok (.aload_n 0, 1) := by decide +kernel
theorem d_S_premises_13 : decode b_S_premises 13 = .ok (.getfield 15, 3) := by decide +kernel
theorem d_S_premises_16 : decode b_S_premises 16 = .ok (.iload_n 1, 1) := by decide +kernel
theorem d_S_premises_17 : decode b_S_premises 17 = .ok (.iaload, 1) := by decide +kernel
theorem d_S_premises_18 : decode b_S_premises 18 = .ok (.goto 4, 3) := by decide +kernel
theorem d_S_premises_21 : decode b_S_premises 21 = .ok (.iconst 0, 1) := by decide +kernel
theorem d_S_premises_22 : decode b_S_premises 22 = .ok (.ireturn, 1) := by decide +kernel
abbrev b_S_premise : ByteArray := prog_6_method_6_code
abbrev y_S_premise : MethodName := ⟨"ShapeSearch$Statements", "premise", "(II)I"⟩
abbrev ws_S_premise : List Cond := .code y_S_premise b_S_premise 3 (some .int) :: BG
theorem hd_S_premise : y_S_premise.cls ≠ "java/lang/invoke/MethodHandle" ∧ y_S_premise.cls ≠ "java/lang/invoke/VarHandle" ∧ (parseMethodDescriptor y_S_premise.desc).map (fun d => d.parameters.length) = some 2 := by decide +kernel
theorem d_S_premise_0 : decode b_S_premise 0 = .ok (.iload_n 2, 1) := by decide +kernel
theorem d_S_premise_1 : decode b_S_premise 1 = .ok (.ifCond .lt 25, 3) := by decide +kernel
theorem d_S_premise_4 : decode b_S_premise 4 = .ok (.iload_n 2, 1) := by decide +kernel
theorem d_S_premise_5 : decode b_S_premise 5 = .ok (.aload_n 0, 1) := by decide +kernel
theorem d_S_premise_6 : decode b_S_premise 6 = .ok (.iload_n 1, 1) := by decide +kernel
theorem d_S_premise_7 : decode b_S_premise 7 = .ok (.invokevirtual 28, 3) := by decide +kernel
theorem d_S_premise_10 : decode b_S_premise 10 = .ok (.if_icmp .ge 16, 3) := by decide +kernel
theorem d_S_premise_13 : decode b_S_premise 13 = .ok (.aload_n 0, 1) := by decide +kernel
theorem d_S_premise_14 : decode b_S_premise 14 = .ok (.getfield 9, 3) := by decide +kernel
theorem d_S_premise_17 : decode b_S_premise 17 = .ok (.iload_n 1, 1) := by decide +kernel
theorem d_S_premise_18 : decode b_S_premise 18 = .ok (.iconst 4, 1) := by decide +kernel
theorem d_S_premise_19 : decode b_S_premise 19 = .ok (.imul, 1) := by decide +kernel
theorem d_S_premise_20 : decode b_S_premise 20 = .ok (.iload_n 2, 1) := by decide +kernel
theorem d_S_premise_21 : decode b_S_premise 21 = .ok (.iadd, 1) := by decide +kernel
theorem d_S_premise_22 : decode b_S_premise 22 = .ok (.iaload, 1) := by decide +kernel
theorem d_S_premise_23 : decode b_S_premise 23 = .ok (.goto 4, 3) := by decide +kernel
theorem d_S_premise_26 : decode b_S_premise 26 = .ok (.iconst (-1), 1) := by decide +kernel
theorem d_S_premise_27 : decode b_S_premise 27 = .ok (.ireturn, 1) := by decide +kernel
abbrev b_S_conclusion : ByteArray := prog_6_method_7_code
abbrev y_S_conclusion : MethodName := ⟨"ShapeSearch$Statements", "conclusion", "(I)I"⟩
abbrev ws_S_conclusion : List Cond := .code y_S_conclusion b_S_conclusion 2 (some .int) :: BG
theorem hd_S_conclusion : y_S_conclusion.cls ≠ "java/lang/invoke/MethodHandle" ∧ y_S_conclusion.cls ≠ "java/lang/invoke/VarHandle" ∧ (parseMethodDescriptor y_S_conclusion.desc).map (fun d => d.parameters.length) = some 1 := by decide +kernel
theorem d_S_conclusion_0 : decode b_S_conclusion 0 = .ok (.iload_n 1, 1) := by decide +kernel
theorem d_S_conclusion_1 : decode b_S_conclusion 1 = .ok (.ifCond .lt 20, 3) := by decide +kernel
theorem d_S_conclusion_4 : decode b_S_conclusion 4 = .ok (.iload_n 1, 1) := by decide +kernel
theorem d_S_conclusion_5 : decode b_S_conclusion 5 = .ok (.aload_n 0, 1) := by decide +kernel
theorem d_S_conclusion_6 : decode b_S_conclusion 6 = .ok (.getfield 24, 3) := by decide +kernel
theorem d_S_conclusion_9 : decode b_S_conclusion 9 = .ok (.if_icmp .ge 12, 3) := by decide +kernel
theorem d_S_conclusion_12 : decode b_S_conclusion 12 = .ok (.aload_n 0, 1) := by decide +kernel
theorem d_S_conclusion_13 : decode b_S_conclusion 13 = .ok (.getfield 18, 3) := by decide +kernel
theorem d_S_conclusion_16 : decode b_S_conclusion 16 = .ok (.iload_n 1, 1) := by decide +kernel
theorem d_S_conclusion_17 : decode b_S_conclusion 17 = .ok (.iaload, 1) := by decide +kernel
theorem d_S_conclusion_18 : decode b_S_conclusion 18 = .ok (.goto 4, 3) := by decide +kernel
theorem d_S_conclusion_21 : decode b_S_conclusion 21 = .ok (.iconst (-1), 1) := by decide +kernel
theorem d_S_conclusion_22 : decode b_S_conclusion 22 = .ok (.ireturn, 1) := by decide +kernel
abbrev b_S_withinPremises : ByteArray := prog_6_method_8_code
abbrev y_S_withinPremises : MethodName := ⟨"ShapeSearch$Statements", "withinPremises", "(ILShapeSearch$Terms;)J"⟩
abbrev ws_S_withinPremises : List Cond := .code y_S_withinPremises b_S_withinPremises 6 (some .long) :: BG
theorem hd_S_withinPremises : y_S_withinPremises.cls ≠ "java/lang/invoke/MethodHandle" ∧ y_S_withinPremises.cls ≠ "java/lang/invoke/VarHandle" ∧ (parseMethodDescriptor y_S_withinPremises.desc).map (fun d => d.parameters.length) = some 2 := by decide +kernel
theorem d_S_withinPremises_0 : decode b_S_withinPremises 0 = .ok (.lconst 0, 1) := by decide +kernel
theorem d_S_withinPremises_1 : decode b_S_withinPremises 1 = .ok (.lstore_n 3, 1) := by decide +kernel
theorem d_S_withinPremises_2 : decode b_S_withinPremises 2 = .ok (.iconst 0, 1) := by decide +kernel
theorem d_S_withinPremises_3 : decode b_S_withinPremises 3 = .ok (.istore 5, 2) := by decide +kernel
theorem d_S_withinPremises_5 : decode b_S_withinPremises 5 = .ok (.iload 5, 2) := by decide +kernel
theorem d_S_withinPremises_7 : decode b_S_withinPremises 7 = .ok (.aload_n 0, 1) := by decide +kernel
theorem d_S_withinPremises_8 : decode b_S_withinPremises 8 = .ok (.iload_n 1, 1) := by decide +kernel
theorem d_S_withinPremises_9 : decode b_S_withinPremises 9 = .ok (.invokevirtual 28, 3) := by decide +kernel
theorem d_S_withinPremises_12 : decode b_S_withinPremises 12 = .ok (.if_icmp .ge 23, 3) := by decide +kernel
theorem d_S_withinPremises_15 : decode b_S_withinPremises 15 = .ok (.lload_n 3, 1) := by decide +kernel
theorem d_S_withinPremises_16 : decode b_S_withinPremises 16 = .ok (.aload_n 2, 1) := by decide +kernel
theorem d_S_withinPremises_17 : decode b_S_withinPremises 17 = .ok (.aload_n 0, 1) := by decide +kernel
theorem d_S_withinPremises_18 : decode b_S_withinPremises 18 = .ok (.iload_n 1, 1) := by decide +kernel
theorem d_S_withinPremises_19 : decode b_S_withinPremises 19 = .ok (.iload 5, 2) := by decide +kernel
theorem d_S_withinPremises_21 : decode b_S_withinPremises 21 = .ok (.invokevirtual 31, 3) := by decide +kernel
theorem d_S_withinPremises_24 : decode b_S_withinPremises 24 = .ok (.invokevirtual 35, 3) := by decide +kernel
theorem d_S_withinPremises_27 : decode b_S_withinPremises 27 = .ok (.lor, 1) := by decide +kernel
theorem d_S_withinPremises_28 : decode b_S_withinPremises 28 = .ok (.lstore_n 3, 1) := by decide +kernel
theorem d_S_withinPremises_29 : decode b_S_withinPremises 29 = .ok (.iinc 5 1, 3) := by decide +kernel
theorem d_S_withinPremises_32 : decode b_S_withinPremises 32 = .ok (.goto (-27), 3) := by decide +kernel
theorem d_S_withinPremises_35 : decode b_S_withinPremises 35 = .ok (.lload_n 3, 1) := by decide +kernel
theorem d_S_withinPremises_36 : decode b_S_withinPremises 36 = .ok (.lreturn, 1) := by decide +kernel
abbrev b_S_within : ByteArray := prog_6_method_9_code
abbrev y_S_within : MethodName := ⟨"ShapeSearch$Statements", "within", "(ILShapeSearch$Terms;)J"⟩
abbrev ws_S_within : List Cond := .code y_S_within b_S_within 3 (some .long) :: BG
theorem hd_S_within : y_S_within.cls ≠ "java/lang/invoke/MethodHandle" ∧ y_S_within.cls ≠ "java/lang/invoke/VarHandle" ∧ (parseMethodDescriptor y_S_within.desc).map (fun d => d.parameters.length) = some 2 := by decide +kernel
theorem d_S_within_0 : decode b_S_within 0 = .ok (.aload_n 0, 1) := by decide +kernel
theorem d_S_within_1 : decode b_S_within 1 = .ok (.iload_n 1, 1) := by decide +kernel
theorem d_S_within_2 : decode b_S_within 2 = .ok (.aload_n 2, 1) := by decide +kernel
theorem d_S_within_3 : decode b_S_within 3 = .ok (.invokevirtual 41, 3) := by decide +kernel
theorem d_S_within_6 : decode b_S_within 6 = .ok (.aload_n 2, 1) := by decide +kernel
theorem d_S_within_7 : decode b_S_within 7 = .ok (.aload_n 0, 1) := by decide +kernel
theorem d_S_within_8 : decode b_S_within 8 = .ok (.iload_n 1, 1) := by decide +kernel
theorem d_S_within_9 : decode b_S_within 9 = .ok (.invokevirtual 45, 3) := by decide +kernel
theorem d_S_within_12 : decode b_S_within 12 = .ok (.invokevirtual 35, 3) := by decide +kernel
theorem d_S_within_15 : decode b_S_within 15 = .ok (.lor, 1) := by decide +kernel
theorem d_S_within_16 : decode b_S_within 16 = .ok (.lreturn, 1) := by decide +kernel
abbrev b_S_openVariables : ByteArray := prog_6_method_10_code
abbrev y_S_openVariables : MethodName := ⟨"ShapeSearch$Statements", "openVariables", "(ILShapeSearch$Terms;)I"⟩
abbrev ws_S_openVariables : List Cond := .code y_S_openVariables b_S_openVariables 3 (some .int) :: BG
theorem hd_S_openVariables : y_S_openVariables.cls ≠ "java/lang/invoke/MethodHandle" ∧ y_S_openVariables.cls ≠ "java/lang/invoke/VarHandle" ∧ (parseMethodDescriptor y_S_openVariables.desc).map (fun d => d.parameters.length) = some 2 := by decide +kernel
theorem d_S_openVariables_0 : decode b_S_openVariables 0 = .ok (.aload_n 0, 1) := by decide +kernel
theorem d_S_openVariables_1 : decode b_S_openVariables 1 = .ok (.iload_n 1, 1) := by decide +kernel
theorem d_S_openVariables_2 : decode b_S_openVariables 2 = .ok (.aload_n 2, 1) := by decide +kernel
theorem d_S_openVariables_3 : decode b_S_openVariables 3 = .ok (.invokevirtual 41, 3) := by decide +kernel
theorem d_S_openVariables_6 : decode b_S_openVariables 6 = .ok (.aload_n 2, 1) := by decide +kernel
theorem d_S_openVariables_7 : decode b_S_openVariables 7 = .ok (.aload_n 0, 1) := by decide +kernel
theorem d_S_openVariables_8 : decode b_S_openVariables 8 = .ok (.iload_n 1, 1) := by decide +kernel
theorem d_S_openVariables_9 : decode b_S_openVariables 9 = .ok (.invokevirtual 45, 3) := by decide +kernel
theorem d_S_openVariables_12 : decode b_S_openVariables 12 = .ok (.invokevirtual 35, 3) := by decide +kernel
theorem d_S_openVariables_15 : decode b_S_openVariables 15 = .ok (.ldc2_w 48, 3) := by decide +kernel
theorem d_S_openVariables_18 : decode b_S_openVariables 18 = .ok (.lxor, 1) := by decide +kernel
theorem d_S_openVariables_19 : decode b_S_openVariables 19 = .ok (.land, 1) := by decide +kernel
theorem d_S_openVariables_20 : decode b_S_openVariables 20 = .ok (.ldc2_w 50, 3) := by decide +kernel
theorem d_S_openVariables_23 : decode b_S_openVariables 23 = .ok (.land, 1) := by decide +kernel
theorem d_S_openVariables_24 : decode b_S_openVariables 24 = .ok (.invokestatic 52, 3) := by decide +kernel
theorem d_S_openVariables_27 : decode b_S_openVariables 27 = .ok (.ireturn, 1) := by decide +kernel
abbrev b_S_putInOrder : ByteArray := prog_6_method_11_code
abbrev y_S_putInOrder : MethodName := ⟨"ShapeSearch$Statements", "putInOrder", "()V"⟩
abbrev ws_S_putInOrder : List Cond := .code y_S_putInOrder b_S_putInOrder 4 (none : Option Jvm.ClassFile.FieldType) :: BG
theorem hd_S_putInOrder : y_S_putInOrder.cls ≠ "java/lang/invoke/MethodHandle" ∧ y_S_putInOrder.cls ≠ "java/lang/invoke/VarHandle" ∧ (parseMethodDescriptor y_S_putInOrder.desc).map (fun d => d.parameters.length) = some 0 := by decide +kernel
theorem d_S_putInOrder_0 : decode b_S_putInOrder 0 = .ok (.iconst 0, 1) := by decide +kernel
theorem d_S_putInOrder_1 : decode b_S_putInOrder 1 = .ok (.istore_n 1, 1) := by decide +kernel
theorem d_S_putInOrder_2 : decode b_S_putInOrder 2 = .ok (.iconst 0, 1) := by decide +kernel
theorem d_S_putInOrder_3 : decode b_S_putInOrder 3 = .ok (.istore_n 2, 1) := by decide +kernel
theorem d_S_putInOrder_4 : decode b_S_putInOrder 4 = .ok (.iload_n 2, 1) := by decide +kernel
theorem d_S_putInOrder_5 : decode b_S_putInOrder 5 = .ok (.iconst 4, 1) := by decide +kernel
theorem d_S_putInOrder_6 : decode b_S_putInOrder 6 = .ok (.if_icmp .gt 51, 3) := by decide +kernel
theorem d_S_putInOrder_9 : decode b_S_putInOrder 9 = .ok (.iconst 0, 1) := by decide +kernel
theorem d_S_putInOrder_10 : decode b_S_putInOrder 10 = .ok (.istore_n 3, 1) := by decide +kernel
theorem d_S_putInOrder_11 : decode b_S_putInOrder 11 = .ok (.iload_n 3, 1) := by decide +kernel
theorem d_S_putInOrder_12 : decode b_S_putInOrder 12 = .ok (.aload_n 0, 1) := by decide +kernel
theorem d_S_putInOrder_13 : decode b_S_putInOrder 13 = .ok (.getfield 24, 3) := by decide +kernel
theorem d_S_putInOrder_16 : decode b_S_putInOrder 16 = .ok (.if_icmp .ge 35, 3) := by decide +kernel
theorem d_S_putInOrder_19 : decode b_S_putInOrder 19 = .ok (.aload_n 0, 1) := by decide +kernel
theorem d_S_putInOrder_20 : decode b_S_putInOrder 20 = .ok (.getfield 15, 3) := by decide +kernel
theorem d_S_putInOrder_23 : decode b_S_putInOrder 23 = .ok (.iload_n 3, 1) := by decide +kernel
theorem d_S_putInOrder_24 : decode b_S_putInOrder 24 = .ok (.iaload, 1) := by decide +kernel
theorem d_S_putInOrder_25 : decode b_S_putInOrder 25 = .ok (.iload_n 2, 1) := by decide +kernel
theorem d_S_putInOrder_26 : decode b_S_putInOrder 26 = .ok (.if_icmp .ne 19, 3) := by decide +kernel
theorem d_S_putInOrder_29 : decode b_S_putInOrder 29 = .ok (.iload_n 1, 1) := by decide +kernel
theorem d_S_putInOrder_30 : decode b_S_putInOrder 30 = .ok (.bipush 30, 2) := by decide +kernel
theorem d_S_putInOrder_32 : decode b_S_putInOrder 32 = .ok (.if_icmp .ge 13, 3) := by decide +kernel
theorem d_S_putInOrder_35 : decode b_S_putInOrder 35 = .ok (.aload_n 0, 1) := by decide +kernel
theorem d_S_putInOrder_36 : decode b_S_putInOrder 36 = .ok (.getfield 21, 3) := by decide +kernel
theorem d_S_putInOrder_39 : decode b_S_putInOrder 39 = .ok (.iload_n 1, 1) := by decide +kernel
theorem d_S_putInOrder_40 : decode b_S_putInOrder 40 = .ok (.iload_n 3, 1) := by decide +kernel
theorem d_S_putInOrder_41 : decode b_S_putInOrder 41 = .ok (.iastore, 1) := by decide +kernel
theorem d_S_putInOrder_42 : decode b_S_putInOrder 42 = .ok (.iinc 1 1, 3) := by decide +kernel
theorem d_S_putInOrder_45 : decode b_S_putInOrder 45 = .ok (.iinc 3 1, 3) := by decide +kernel
theorem d_S_putInOrder_48 : decode b_S_putInOrder 48 = .ok (.goto (-37), 3) := by decide +kernel
theorem d_S_putInOrder_51 : decode b_S_putInOrder 51 = .ok (.iinc 2 1, 3) := by decide +kernel
theorem d_S_putInOrder_54 : decode b_S_putInOrder 54 = .ok (.goto (-50), 3) := by decide +kernel
theorem d_S_putInOrder_57 : decode b_S_putInOrder 57 = .ok (.return_, 1) := by decide +kernel
abbrev b_S_ordered : ByteArray := prog_6_method_12_code
abbrev y_S_ordered : MethodName := ⟨"ShapeSearch$Statements", "ordered", "(I)I"⟩
abbrev ws_S_ordered : List Cond := .code y_S_ordered b_S_ordered 2 (some .int) :: BG
theorem hd_S_ordered : y_S_ordered.cls ≠ "java/lang/invoke/MethodHandle" ∧ y_S_ordered.cls ≠ "java/lang/invoke/VarHandle" ∧ (parseMethodDescriptor y_S_ordered.desc).map (fun d => d.parameters.length) = some 1 := by decide +kernel
theorem d_S_ordered_0 : decode b_S_ordered 0 = .ok (.iload_n 1, 1) := by decide +kernel
theorem d_S_ordered_1 : decode b_S_ordered 1 = .ok (.ifCond .lt 20, 3) := by decide +kernel
theorem d_S_ordered_4 : decode b_S_ordered 4 = .ok (.iload_n 1, 1) := by decide +kernel
theorem d_S_ordered_5 : decode b_S_ordered 5 = .ok (.aload_n 0, 1) := by decide +kernel
theorem d_S_ordered_6 : decode b_S_ordered 6 = .ok (.getfield 24, 3) := by decide +kernel
theorem d_S_ordered_9 : decode b_S_ordered 9 = .ok (.if_icmp .ge 12, 3) := by decide +kernel
theorem d_S_ordered_12 : decode b_S_ordered 12 = .ok (.aload_n 0, 1) := by decide +kernel
theorem d_S_ordered_13 : decode b_S_ordered 13 = .ok (.getfield 21, 3) := by decide +kernel
theorem d_S_ordered_16 : decode b_S_ordered 16 = .ok (.iload_n 1, 1) := by decide +kernel
theorem d_S_ordered_17 : decode b_S_ordered 17 = .ok (.iaload, 1) := by decide +kernel
theorem d_S_ordered_18 : decode b_S_ordered 18 = .ok (.goto 4, 3) := by decide +kernel
theorem d_S_ordered_21 : decode b_S_ordered 21 = .ok (.iconst (-1), 1) := by decide +kernel
theorem d_S_ordered_22 : decode b_S_ordered 22 = .ok (.ireturn, 1) := by decide +kernel
theorem k1_72 : Cond.fieldLink "ShapeSearch$Statements" 24 "ShapeSearch$Statements" "count" "I" ∈ BG := List.mem_filter.mpr ⟨in_1 (List.mem_of_getElem? (i := 72) rfl), rfl⟩
theorem k1_68 : Cond.fieldLink "ShapeSearch$Statements" 9 "ShapeSearch$Statements" "premises" "[I" ∈ BG := List.mem_filter.mpr ⟨in_1 (List.mem_of_getElem? (i := 68) rfl), rfl⟩
theorem k1_69 : Cond.fieldLink "ShapeSearch$Statements" 15 "ShapeSearch$Statements" "premiseCounts" "[I" ∈ BG := List.mem_filter.mpr ⟨in_1 (List.mem_of_getElem? (i := 69) rfl), rfl⟩
theorem k1_70 : Cond.fieldLink "ShapeSearch$Statements" 18 "ShapeSearch$Statements" "conclusions" "[I" ∈ BG := List.mem_filter.mpr ⟨in_1 (List.mem_of_getElem? (i := 70) rfl), rfl⟩
theorem k3_91 : Cond.methodLink "ShapeSearch$Statements" 28 ⟨"ShapeSearch$Statements", "premises", "(I)I"⟩ ∈ BG := List.mem_filter.mpr ⟨in_3 (List.mem_of_getElem? (i := 91) rfl), rfl⟩
theorem k3_86 : Cond.code ⟨"ShapeSearch$Statements", "premises", "(I)I"⟩ prog_6_method_5_code 2 (some .int) ∈ BG := List.mem_filter.mpr ⟨in_3 (List.mem_of_getElem? (i := 86) rfl), rfl⟩
theorem k1_4 : Cond.initialized "ShapeSearch$Statements" ∈ BG := List.mem_filter.mpr ⟨in_1 (List.mem_of_getElem? (i := 4) rfl), rfl⟩
theorem k3_84 : Cond.instanceMethod ⟨"ShapeSearch$Statements", "premises", "(I)I"⟩ ∈ BG := List.mem_filter.mpr ⟨in_3 (List.mem_of_getElem? (i := 84) rfl), rfl⟩
theorem k3_85 : Cond.selects "ShapeSearch$Statements" ⟨"ShapeSearch$Statements", "premises", "(I)I"⟩ ⟨"ShapeSearch$Statements", "premises", "(I)I"⟩ ∈ BG := List.mem_filter.mpr ⟨in_3 (List.mem_of_getElem? (i := 85) rfl), rfl⟩
theorem k3_136 : Cond.methodLink "ShapeSearch$Statements" 31 ⟨"ShapeSearch$Statements", "premise", "(II)I"⟩ ∈ BG := List.mem_filter.mpr ⟨in_3 (List.mem_of_getElem? (i := 136) rfl), rfl⟩
theorem k3_90 : Cond.code ⟨"ShapeSearch$Statements", "premise", "(II)I"⟩ prog_6_method_6_code 3 (some .int) ∈ BG := List.mem_filter.mpr ⟨in_3 (List.mem_of_getElem? (i := 90) rfl), rfl⟩
theorem k3_88 : Cond.instanceMethod ⟨"ShapeSearch$Statements", "premise", "(II)I"⟩ ∈ BG := List.mem_filter.mpr ⟨in_3 (List.mem_of_getElem? (i := 88) rfl), rfl⟩
theorem k3_89 : Cond.selects "ShapeSearch$Statements" ⟨"ShapeSearch$Statements", "premise", "(II)I"⟩ ⟨"ShapeSearch$Statements", "premise", "(II)I"⟩ ∈ BG := List.mem_filter.mpr ⟨in_3 (List.mem_of_getElem? (i := 89) rfl), rfl⟩
theorem k3_137 : Cond.methodLink "ShapeSearch$Statements" 35 ⟨"ShapeSearch$Terms", "within", "(I)J"⟩ ∈ BG := List.mem_filter.mpr ⟨in_3 (List.mem_of_getElem? (i := 137) rfl), rfl⟩
theorem k3_132 : Cond.methodLink "ShapeSearch$Statements" 41 ⟨"ShapeSearch$Statements", "withinPremises", "(ILShapeSearch$Terms;)J"⟩ ∈ BG := List.mem_filter.mpr ⟨in_3 (List.mem_of_getElem? (i := 132) rfl), rfl⟩
theorem k3_135 : Cond.code ⟨"ShapeSearch$Statements", "withinPremises", "(ILShapeSearch$Terms;)J"⟩ prog_6_method_8_code 6 (some .long) ∈ BG := List.mem_filter.mpr ⟨in_3 (List.mem_of_getElem? (i := 135) rfl), rfl⟩
theorem k3_134 : Cond.instanceMethod ⟨"ShapeSearch$Statements", "withinPremises", "(ILShapeSearch$Terms;)J"⟩ ∈ BG := List.mem_filter.mpr ⟨in_3 (List.mem_of_getElem? (i := 134) rfl), rfl⟩
theorem k3_138 : Cond.methodLink "ShapeSearch$Statements" 45 ⟨"ShapeSearch$Statements", "conclusion", "(I)I"⟩ ∈ BG := List.mem_filter.mpr ⟨in_3 (List.mem_of_getElem? (i := 138) rfl), rfl⟩
theorem k2_103 : Cond.code ⟨"ShapeSearch$Statements", "conclusion", "(I)I"⟩ prog_6_method_7_code 2 (some .int) ∈ BG := List.mem_filter.mpr ⟨in_2 (List.mem_of_getElem? (i := 103) rfl), rfl⟩
theorem k2_101 : Cond.instanceMethod ⟨"ShapeSearch$Statements", "conclusion", "(I)I"⟩ ∈ BG := List.mem_filter.mpr ⟨in_2 (List.mem_of_getElem? (i := 101) rfl), rfl⟩
theorem k2_102 : Cond.selects "ShapeSearch$Statements" ⟨"ShapeSearch$Statements", "conclusion", "(I)I"⟩ ⟨"ShapeSearch$Statements", "conclusion", "(I)I"⟩ ∈ BG := List.mem_filter.mpr ⟨in_2 (List.mem_of_getElem? (i := 102) rfl), rfl⟩
theorem k3_139 : Cond.constantLong "ShapeSearch$Statements" 48 (-1) ∈ BG := List.mem_filter.mpr ⟨in_3 (List.mem_of_getElem? (i := 139) rfl), rfl⟩
theorem k3_140 : Cond.constantLong "ShapeSearch$Statements" 50 273804165120 ∈ BG := List.mem_filter.mpr ⟨in_3 (List.mem_of_getElem? (i := 140) rfl), rfl⟩
theorem k3_141 : Cond.methodLink "ShapeSearch$Statements" 52 ⟨"java/lang/Long", "bitCount", "(J)I"⟩ ∈ BG := List.mem_filter.mpr ⟨in_3 (List.mem_of_getElem? (i := 141) rfl), rfl⟩
theorem k3_143 : Cond.code ⟨"java/lang/Long", "bitCount", "(J)I"⟩ prog_15_method_50_code 2 (some .int) ∈ BG := List.mem_filter.mpr ⟨in_3 (List.mem_of_getElem? (i := 143) rfl), rfl⟩
theorem k1_17 : Cond.initialized "java/lang/Long" ∈ BG := List.mem_filter.mpr ⟨in_1 (List.mem_of_getElem? (i := 17) rfl), rfl⟩
theorem k3_142 : Cond.static ⟨"java/lang/Long", "bitCount", "(J)I"⟩ ∈ BG := List.mem_filter.mpr ⟨in_3 (List.mem_of_getElem? (i := 142) rfl), rfl⟩
theorem k1_71 : Cond.fieldLink "ShapeSearch$Statements" 21 "ShapeSearch$Statements" "order" "[I" ∈ BG := List.mem_filter.mpr ⟨in_1 (List.mem_of_getElem? (i := 71) rfl), rfl⟩
abbrev wv_9 (cI cJ cZ : ClassId) (aS aS_premises aS_premiseCounts aS_conclusions aS_order : Nat) (S_count : Int32) : va_W := [(aS, .inr (2, [.ref aS_premises, .ref aS_premiseCounts, .ref aS_conclusions, .ref aS_order, .int S_count]))]
abbrev wv_10 (cI cJ cZ : ClassId) (aS aS_premises aS_premiseCounts aS_conclusions aS_order : Nat) (S_count : Int32) (S_premises : (Nat → Int32)) (S_premiseCounts : (Nat → Int32)) (S_conclusions : (Nat → Int32)) : va_W := [(aS, .inr (2, [.ref aS_premises, .ref aS_premiseCounts, .ref aS_conclusions, .ref aS_order, .int S_count])), (aS_premises, .inl (cI, 120, .inl S_premises)), (aS_premiseCounts, .inl (cI, 30, .inl S_premiseCounts)), (aS_conclusions, .inl (cI, 30, .inl S_conclusions))]
abbrev wv_11 (cI cJ cZ : ClassId) (aS aS_premises aS_premiseCounts aS_conclusions aS_order : Nat) (S_count : Int32) (S_premiseCounts : (Nat → Int32)) : va_W := [(aS, .inr (2, [.ref aS_premises, .ref aS_premiseCounts, .ref aS_conclusions, .ref aS_order, .int S_count])), (aS_premiseCounts, .inl (cI, 30, .inl S_premiseCounts))]
abbrev wv_12 (cI cJ cZ : ClassId) (aS aS_premises aS_premiseCounts aS_conclusions aS_order : Nat) (S_count : Int32) (S_premises : (Nat → Int32)) (S_premiseCounts : (Nat → Int32)) : va_W := [(aS, .inr (2, [.ref aS_premises, .ref aS_premiseCounts, .ref aS_conclusions, .ref aS_order, .int S_count])), (aS_premises, .inl (cI, 120, .inl S_premises)), (aS_premiseCounts, .inl (cI, 30, .inl S_premiseCounts))]
abbrev wv_13 (cI cJ cZ : ClassId) (aS aS_premises aS_premiseCounts aS_conclusions aS_order : Nat) (S_count : Int32) (S_conclusions : (Nat → Int32)) : va_W := [(aS, .inr (2, [.ref aS_premises, .ref aS_premiseCounts, .ref aS_conclusions, .ref aS_order, .int S_count])), (aS_conclusions, .inl (cI, 30, .inl S_conclusions))]
abbrev wv_14 (cI cJ cZ : ClassId) (aT aT_heads aT_places aT_olders aT_sizes aT_withins aT_newest aS aS_premises aS_premiseCounts aS_conclusions aS_order : Nat) (T_count : Int32) (nT_withins : Nat) (T_withins : (Nat → Int64)) (S_count : Int32) (S_premises : (Nat → Int32)) (S_premiseCounts : (Nat → Int32)) : va_W := [(aT, .inr (1, [.ref aT_heads, .ref aT_places, .ref aT_olders, .ref aT_sizes, .ref aT_withins, .ref aT_newest, .int T_count])), (aT_withins, .inl (cJ, nT_withins, .inr (.inl T_withins))), (aS, .inr (2, [.ref aS_premises, .ref aS_premiseCounts, .ref aS_conclusions, .ref aS_order, .int S_count])), (aS_premises, .inl (cI, 120, .inl S_premises)), (aS_premiseCounts, .inl (cI, 30, .inl S_premiseCounts))]
abbrev wv_15 (cI cJ cZ : ClassId) (aT aT_heads aT_places aT_olders aT_sizes aT_withins aT_newest aS aS_premises aS_premiseCounts aS_conclusions aS_order : Nat) (T_count : Int32) (nT_withins : Nat) (T_withins : (Nat → Int64)) (S_count : Int32) (S_premises : (Nat → Int32)) (S_premiseCounts : (Nat → Int32)) (S_conclusions : (Nat → Int32)) : va_W := [(aT, .inr (1, [.ref aT_heads, .ref aT_places, .ref aT_olders, .ref aT_sizes, .ref aT_withins, .ref aT_newest, .int T_count])), (aT_withins, .inl (cJ, nT_withins, .inr (.inl T_withins))), (aS, .inr (2, [.ref aS_premises, .ref aS_premiseCounts, .ref aS_conclusions, .ref aS_order, .int S_count])), (aS_premises, .inl (cI, 120, .inl S_premises)), (aS_premiseCounts, .inl (cI, 30, .inl S_premiseCounts)), (aS_conclusions, .inl (cI, 30, .inl S_conclusions))]
abbrev wv_16 (cI cJ cZ : ClassId) (aS aS_premises aS_premiseCounts aS_conclusions aS_order : Nat) (S_count : Int32) (S_premiseCounts : (Nat → Int32)) (S_order : (Nat → Int32)) : va_W := [(aS, .inr (2, [.ref aS_premises, .ref aS_premiseCounts, .ref aS_conclusions, .ref aS_order, .int S_count])), (aS_premiseCounts, .inl (cI, 30, .inl S_premiseCounts)), (aS_order, .inl (cI, 30, .inl S_order))]
abbrev wv_17 (cI cJ cZ : ClassId) (aS aS_premises aS_premiseCounts aS_conclusions aS_order : Nat) (S_count : Int32) (S_order : (Nat → Int32)) : va_W := [(aS, .inr (2, [.ref aS_premises, .ref aS_premiseCounts, .ref aS_conclusions, .ref aS_order, .int S_count])), (aS_order, .inl (cI, 30, .inl S_order))]
def f_S_count (S_count : Int32) : Option (Int32) :=
  some S_count
abbrev rm_S_count : Room := { frames := 0, cells := 0, slots := 0, locals := 0 }
set_option maxHeartbeats 4000000 in
set_option maxRecDepth 100000 in
theorem c_S_count (l : Launch) (D : va_G) (cI cJ cZ : ClassId) (aS aS_premises aS_premiseCounts aS_conclusions aS_order : Nat) (S_count : Int32) (o : Int32) (hf : f_S_count S_count = some o) : Met l y_S_count (ws_S_count) rm_S_count (RPc D vwCl cI cJ cZ [.ref aS] (wv_9 cI cJ cZ aS aS_premises aS_premiseCounts aS_conclusions aS_order S_count)) (RQ (some (.int o))) 0 0 (fun _ => False) := by
  refine Met.ofW (cc := b_S_count) (maxL := 1) (ret := (some .int)) (by decide) rfl ?_
  intro p e s m args below meth c s₁ B hml hv
  obtain ⟨rfl, hP, hK⟩ := hv
  have hx := B.exec
  have hb := B.bytes
  have hr := B.returns
  have hts : ∀ w ∈ BG, w.before _ s = true := fun w h => atoms_spec (ws := (ws_S_count)) B.pre w (List.mem_cons_of_mem _ h)
  have hown : s.vm.findClass RR_S = some m.cls := findClass_of_methodNamed B.named
  have hlocks := B.notSynchronized
  have hl := lv_entry ([.ref aS]) (n := 1) (Nat.le_of_ble_eq_true rfl)
  rw [lg_entry_eq]
  generalize (lg_sl ([.ref aS]) ++ List.replicate (1 - (lg_sl ([.ref aS])).length) Slot.unset).toArray = ls at hl ⊢
  have hl : lv_has ls 1 [(0, .ref aS)] := hl
  rw [f_S_count] at hf
  refine lv_aload_n hx hb d_S_count_0 rfl (lv_at hl 0 rfl) ?_
  refine va_get (D := D) (ci := 2) (v := .int S_count) (C := RR_S) (T := FF_S) (N := 5) hx hb hts kin_S hown hK.1 hP 0 rfl rfl 4 (by decide) (hts _ k1_72) (fun _ h9 => h9) rfl d_S_count_1 ?_
  obtain rfl := Option.some.inj hf
  exact W.iret (v := S_count) hx hb hr (fun t ht hW => ⟨rfl, ht⟩) (fun q h => by cases h) d_S_count_4
def f_S_add (S_count : Int32) (S_premises : (Nat → Int32)) (S_premiseCounts : (Nat → Int32)) (S_conclusions : (Nat → Int32)) (p0 : Int32) (p1 : Int32) (p2 : Int32) (p3 : Int32) (p4 : Int32) (p5 : Int32) : Option (Int32 × Int32 × (Nat → Int32) × (Nat → Int32) × (Nat → Int32)) :=
  if S_count < (30 : Int32) then
    nm (S_count * (4 : Int32)) fun x2 =>
    gd (ixb x2 120) <| nm (upd S_premises x2.toNatClampNeg p1) fun g4 =>
    gd (ixb (x2 + (1 : Int32)) 120) <| nm (upd g4 (x2 + (1 : Int32)).toNatClampNeg p2) fun g6 =>
    gd (ixb (x2 + (2 : Int32)) 120) <| nm (upd g6 (x2 + (2 : Int32)).toNatClampNeg p3) fun g8 =>
    gd (ixb (x2 + (3 : Int32)) 120) <| nm (upd g8 (x2 + (3 : Int32)).toNatClampNeg p4) fun g10 =>
    gd (ixb S_count 30) <| nm (upd S_premiseCounts S_count.toNatClampNeg p0) fun g12 =>
    gd (ixb S_count 30) <| nm (upd S_conclusions S_count.toNatClampNeg p5) fun g14 =>
    nm (S_count + (1 : Int32)) fun x15 =>
    some (x15 - (1 : Int32), x15, g10, g12, g14)
  else
    some ((-1 : Int32), S_count, S_premises, S_premiseCounts, S_conclusions)
abbrev rm_S_add : Room := { frames := 0, cells := 0, slots := 0, locals := 0 }
set_option maxHeartbeats 4000000 in
set_option maxRecDepth 100000 in
theorem c_S_add (l : Launch) (D : va_G) (cI cJ cZ : ClassId) (aS aS_premises aS_premiseCounts aS_conclusions aS_order : Nat) (sz : Nat) (S_count : Int32) (S_premises : (Nat → Int32)) (S_premiseCounts : (Nat → Int32)) (S_conclusions : (Nat → Int32)) (p0 : Int32) (p1 : Int32) (p2 : Int32) (p3 : Int32) (p4 : Int32) (p5 : Int32) (o : Int32 × Int32 × (Nat → Int32) × (Nat → Int32) × (Nat → Int32)) (hf : f_S_add S_count S_premises S_premiseCounts S_conclusions p0 p1 p2 p3 p4 p5 = some o) : Met l y_S_add (ws_S_add) rm_S_add (WPc D vwCl cI cJ cZ [.ref aS, .int p0, .int p1, .int p2, .int p3, .int p4, .int p5] (wv_10 cI cJ cZ aS aS_premises aS_premiseCounts aS_conclusions aS_order S_count S_premises S_premiseCounts S_conclusions) sz) (WQ D vwCl (some (.int o.1)) (wv_10 cI cJ cZ aS aS_premises aS_premiseCounts aS_conclusions aS_order o.2.1 o.2.2.1 o.2.2.2.1 o.2.2.2.2) (va_A (wv_10 cI cJ cZ aS aS_premises aS_premiseCounts aS_conclusions aS_order S_count S_premises S_premiseCounts S_conclusions) sz)) 0 0 (va_A (wv_10 cI cJ cZ aS aS_premises aS_premiseCounts aS_conclusions aS_order S_count S_premises S_premiseCounts S_conclusions) sz) := by
  refine Met.ofW (cc := b_S_add) (maxL := 8) (ret := (some .int)) (by decide) rfl ?_
  intro p e s m args below meth c s₁ B hml hv
  obtain ⟨rfl, rfl, hP, hK, hD0⟩ := hv
  have hx := B.exec
  have hb := B.bytes
  have hr := B.returns
  have hts : ∀ w ∈ BG, w.before _ s = true := fun w h => atoms_spec (ws := (ws_S_add)) B.pre w (List.mem_cons_of_mem _ h)
  have hown : s.vm.findClass RR_S = some m.cls := findClass_of_methodNamed B.named
  have hlocks := B.notSynchronized
  have hD := hD0.self (sz := s.heap.size)
  have hA : ∀ q : Nat, s.heap.size ≤ q → va_A (wv_10 cI cJ cZ aS aS_premises aS_premiseCounts aS_conclusions aS_order S_count S_premises S_premiseCounts S_conclusions) s.heap.size q := fun q h => Or.inr h
  have hS : va_S (va_A (wv_10 cI cJ cZ aS aS_premises aS_premiseCounts aS_conclusions aS_order S_count S_premises S_premiseCounts S_conclusions) s.heap.size) s.heap s.heap [] := va_S.rf
  generalize va_A (wv_10 cI cJ cZ aS aS_premises aS_premiseCounts aS_conclusions aS_order S_count S_premises S_premiseCounts S_conclusions) s.heap.size = A at hD hA hS ⊢
  have hl := lv_entry ([.ref aS, .int p0, .int p1, .int p2, .int p3, .int p4, .int p5]) (n := 8) (Nat.le_of_ble_eq_true rfl)
  rw [lg_entry_eq]
  generalize (lg_sl ([.ref aS, .int p0, .int p1, .int p2, .int p3, .int p4, .int p5]) ++ List.replicate (8 - (lg_sl ([.ref aS, .int p0, .int p1, .int p2, .int p3, .int p4, .int p5])).length) Slot.unset).toArray = ls at hl ⊢
  have hl : lv_has ls 8 [(0, .ref aS), (1, .int p0), (2, .int p1), (3, .int p2), (4, .int p3), (5, .int p4), (6, .int p5)] := hl
  rw [f_S_add] at hf
  refine lv_aload_n hx hb d_S_add_0 rfl (lv_at hl 0 rfl) ?_
  refine va_get (D := D) (ci := 2) (v := .int S_count) (C := RR_S) (T := FF_S) (N := 5) hx hb hts kin_S hown hK.1 hP 0 rfl rfl 4 (by decide) (hts _ k1_72) (fun _ h9 => h9) rfl d_S_add_1 ?_
  refine lv_bipush (v := 30) hx hb d_S_add_4 (by decide) ?_
  refine lv_icmp_lt (tgt := 11) hx hb d_S_add_6 (by decide) (fun c1 => ?_) (fun c1 => ?_)
  · have hf := ite_t c1 hf
    refine lv_aload_n hx hb d_S_add_11 rfl (lv_at hl 0 rfl) ?_
    refine va_get (D := D) (ci := 2) (v := .int S_count) (C := RR_S) (T := FF_S) (N := 5) hx hb hts kin_S hown hK.1 hP 0 rfl rfl 4 (by decide) (hts _ k1_72) (fun _ h9 => h9) rfl d_S_add_12 ?_
    refine lv_iconst (v := 4) hx hb d_S_add_15 (by decide) ?_
    refine lv_imul hx hb d_S_add_16 ?_
    refine lv_topi (fun x2 ex2 => ?_)
    have hf := of_nm ex2 hf
    refine lv_istore (lv' := [(7, .int x2), (0, .ref aS), (1, .int p0), (2, .int p1), (3, .int p2), (4, .int p3), (5, .int p4), (6, .int p5)]) hx hb d_S_add_17 hl (by decide) rfl (fun ls hl => ?_)
    refine lv_aload_n hx hb d_S_add_19 rfl (lv_at hl 1 rfl) ?_
    refine va_get (D := D) (ci := 2) (v := .ref aS_premises) (C := RR_S) (T := FF_S) (N := 5) hx hb hts kin_S hown hK.1 hP 0 rfl rfl 0 (by decide) (hts _ k1_68) (fun _ h9 => h9) rfl d_S_add_20 ?_
    refine lv_iload hx hb d_S_add_23 (lv_at hl 0 rfl) ?_
    refine lv_iload_n hx hb d_S_add_25 rfl (lv_at hl 3 rfl) ?_
    obtain ⟨h3, hf⟩ := of_gd hf
    obtain ⟨g4, eg4⟩ : ∃ y : Nat → Int32, y = upd S_premises x2.toNatClampNeg p1 := ⟨_, rfl⟩
    have hf := of_nm eg4 hf
    refine va_iast hx hb hK.1 hP hD hS 1 0 rfl rfl (ixb_in h3) d_S_add_26 (fun H locs hP hD hS => ?_)
    rw [← eg4] at hP hD
    have hP : va_P D vwCl (wv_10 cI cJ cZ aS aS_premises aS_premiseCounts aS_conclusions aS_order S_count g4 S_premiseCounts S_conclusions) H := hP
    have hD : va_D A (wv_10 cI cJ cZ aS aS_premises aS_premiseCounts aS_conclusions aS_order S_count g4 S_premiseCounts S_conclusions) := hD
    refine lv_aload_n hx hb d_S_add_27 rfl (lv_at hl 1 rfl) ?_
    refine va_get (D := D) (ci := 2) (v := .ref aS_premises) (C := RR_S) (T := FF_S) (N := 5) hx hb hts kin_S hown hK.1 hP 0 rfl rfl 0 (by decide) (hts _ k1_68) (fun _ h9 => h9) rfl d_S_add_28 ?_
    refine lv_iload hx hb d_S_add_31 (lv_at hl 0 rfl) ?_
    refine lv_iconst (v := 1) hx hb d_S_add_33 (by decide) ?_
    refine lv_iadd hx hb d_S_add_34 ?_
    refine lv_iload_n hx hb d_S_add_35 rfl (lv_at hl 4 rfl) ?_
    obtain ⟨h5, hf⟩ := of_gd hf
    obtain ⟨g6, eg6⟩ : ∃ y : Nat → Int32, y = upd g4 (x2 + (1 : Int32)).toNatClampNeg p2 := ⟨_, rfl⟩
    have hf := of_nm eg6 hf
    refine va_iast hx hb hK.1 hP hD hS 1 0 rfl rfl (ixb_in h5) d_S_add_36 (fun H locs hP hD hS => ?_)
    rw [← eg6] at hP hD
    have hP : va_P D vwCl (wv_10 cI cJ cZ aS aS_premises aS_premiseCounts aS_conclusions aS_order S_count g6 S_premiseCounts S_conclusions) H := hP
    have hD : va_D A (wv_10 cI cJ cZ aS aS_premises aS_premiseCounts aS_conclusions aS_order S_count g6 S_premiseCounts S_conclusions) := hD
    refine lv_aload_n hx hb d_S_add_37 rfl (lv_at hl 1 rfl) ?_
    refine va_get (D := D) (ci := 2) (v := .ref aS_premises) (C := RR_S) (T := FF_S) (N := 5) hx hb hts kin_S hown hK.1 hP 0 rfl rfl 0 (by decide) (hts _ k1_68) (fun _ h9 => h9) rfl d_S_add_38 ?_
    refine lv_iload hx hb d_S_add_41 (lv_at hl 0 rfl) ?_
    refine lv_iconst (v := 2) hx hb d_S_add_43 (by decide) ?_
    refine lv_iadd hx hb d_S_add_44 ?_
    refine lv_iload hx hb d_S_add_45 (lv_at hl 5 rfl) ?_
    obtain ⟨h7, hf⟩ := of_gd hf
    obtain ⟨g8, eg8⟩ : ∃ y : Nat → Int32, y = upd g6 (x2 + (2 : Int32)).toNatClampNeg p3 := ⟨_, rfl⟩
    have hf := of_nm eg8 hf
    refine va_iast hx hb hK.1 hP hD hS 1 0 rfl rfl (ixb_in h7) d_S_add_47 (fun H locs hP hD hS => ?_)
    rw [← eg8] at hP hD
    have hP : va_P D vwCl (wv_10 cI cJ cZ aS aS_premises aS_premiseCounts aS_conclusions aS_order S_count g8 S_premiseCounts S_conclusions) H := hP
    have hD : va_D A (wv_10 cI cJ cZ aS aS_premises aS_premiseCounts aS_conclusions aS_order S_count g8 S_premiseCounts S_conclusions) := hD
    refine lv_aload_n hx hb d_S_add_48 rfl (lv_at hl 1 rfl) ?_
    refine va_get (D := D) (ci := 2) (v := .ref aS_premises) (C := RR_S) (T := FF_S) (N := 5) hx hb hts kin_S hown hK.1 hP 0 rfl rfl 0 (by decide) (hts _ k1_68) (fun _ h9 => h9) rfl d_S_add_49 ?_
    refine lv_iload hx hb d_S_add_52 (lv_at hl 0 rfl) ?_
    refine lv_iconst (v := 3) hx hb d_S_add_54 (by decide) ?_
    refine lv_iadd hx hb d_S_add_55 ?_
    refine lv_iload hx hb d_S_add_56 (lv_at hl 6 rfl) ?_
    obtain ⟨h9, hf⟩ := of_gd hf
    obtain ⟨g10, eg10⟩ : ∃ y : Nat → Int32, y = upd g8 (x2 + (3 : Int32)).toNatClampNeg p4 := ⟨_, rfl⟩
    have hf := of_nm eg10 hf
    refine va_iast hx hb hK.1 hP hD hS 1 0 rfl rfl (ixb_in h9) d_S_add_58 (fun H locs hP hD hS => ?_)
    rw [← eg10] at hP hD
    have hP : va_P D vwCl (wv_10 cI cJ cZ aS aS_premises aS_premiseCounts aS_conclusions aS_order S_count g10 S_premiseCounts S_conclusions) H := hP
    have hD : va_D A (wv_10 cI cJ cZ aS aS_premises aS_premiseCounts aS_conclusions aS_order S_count g10 S_premiseCounts S_conclusions) := hD
    refine lv_aload_n hx hb d_S_add_59 rfl (lv_at hl 1 rfl) ?_
    refine va_get (D := D) (ci := 2) (v := .ref aS_premiseCounts) (C := RR_S) (T := FF_S) (N := 5) hx hb hts kin_S hown hK.1 hP 0 rfl rfl 1 (by decide) (hts _ k1_69) (fun _ h9 => h9) rfl d_S_add_60 ?_
    refine lv_aload_n hx hb d_S_add_63 rfl (lv_at hl 1 rfl) ?_
    refine va_get (D := D) (ci := 2) (v := .int S_count) (C := RR_S) (T := FF_S) (N := 5) hx hb hts kin_S hown hK.1 hP 0 rfl rfl 4 (by decide) (hts _ k1_72) (fun _ h9 => h9) rfl d_S_add_64 ?_
    refine lv_iload_n hx hb d_S_add_67 rfl (lv_at hl 2 rfl) ?_
    obtain ⟨h11, hf⟩ := of_gd hf
    obtain ⟨g12, eg12⟩ : ∃ y : Nat → Int32, y = upd S_premiseCounts S_count.toNatClampNeg p0 := ⟨_, rfl⟩
    have hf := of_nm eg12 hf
    refine va_iast hx hb hK.1 hP hD hS 2 0 rfl rfl (ixb_in h11) d_S_add_68 (fun H locs hP hD hS => ?_)
    rw [← eg12] at hP hD
    have hP : va_P D vwCl (wv_10 cI cJ cZ aS aS_premises aS_premiseCounts aS_conclusions aS_order S_count g10 g12 S_conclusions) H := hP
    have hD : va_D A (wv_10 cI cJ cZ aS aS_premises aS_premiseCounts aS_conclusions aS_order S_count g10 g12 S_conclusions) := hD
    refine lv_aload_n hx hb d_S_add_69 rfl (lv_at hl 1 rfl) ?_
    refine va_get (D := D) (ci := 2) (v := .ref aS_conclusions) (C := RR_S) (T := FF_S) (N := 5) hx hb hts kin_S hown hK.1 hP 0 rfl rfl 2 (by decide) (hts _ k1_70) (fun _ h9 => h9) rfl d_S_add_70 ?_
    refine lv_aload_n hx hb d_S_add_73 rfl (lv_at hl 1 rfl) ?_
    refine va_get (D := D) (ci := 2) (v := .int S_count) (C := RR_S) (T := FF_S) (N := 5) hx hb hts kin_S hown hK.1 hP 0 rfl rfl 4 (by decide) (hts _ k1_72) (fun _ h9 => h9) rfl d_S_add_74 ?_
    refine lv_iload hx hb d_S_add_77 (lv_at hl 7 rfl) ?_
    obtain ⟨h13, hf⟩ := of_gd hf
    obtain ⟨g14, eg14⟩ : ∃ y : Nat → Int32, y = upd S_conclusions S_count.toNatClampNeg p5 := ⟨_, rfl⟩
    have hf := of_nm eg14 hf
    refine va_iast hx hb hK.1 hP hD hS 3 0 rfl rfl (ixb_in h13) d_S_add_79 (fun H locs hP hD hS => ?_)
    rw [← eg14] at hP hD
    have hP : va_P D vwCl (wv_10 cI cJ cZ aS aS_premises aS_premiseCounts aS_conclusions aS_order S_count g10 g12 g14) H := hP
    have hD : va_D A (wv_10 cI cJ cZ aS aS_premises aS_premiseCounts aS_conclusions aS_order S_count g10 g12 g14) := hD
    refine lv_aload_n hx hb d_S_add_80 rfl (lv_at hl 1 rfl) ?_
    refine lv_dup hx hb d_S_add_81 rfl ?_
    refine va_get (D := D) (ci := 2) (v := .int S_count) (C := RR_S) (T := FF_S) (N := 5) hx hb hts kin_S hown hK.1 hP 0 rfl rfl 4 (by decide) (hts _ k1_72) (fun _ h9 => h9) rfl d_S_add_82 ?_
    refine lv_iconst (v := 1) hx hb d_S_add_85 (by decide) ?_
    refine lv_iadd hx hb d_S_add_86 ?_
    refine lv_topi (fun x15 ex15 => ?_)
    have hf := of_nm ex15 hf
    refine va_put (D := D) (ci := 2) (v := .int x15) (ty := .int) (C := RR_S) (T := FF_S) (N := 5) hx hb hts kin_S TT_S tok_S nok_S hown hK.1 hP hD hS 0 rfl rfl 4 (by decide) (hts _ k1_72) (fun _ h9 => h9) rfl (by decide +kernel) rfl rfl (Nat.le_of_ble_eq_true rfl) d_S_add_87 (fun H locs hP hD hS => ?_)
    have hP : va_P D vwCl (wv_10 cI cJ cZ aS aS_premises aS_premiseCounts aS_conclusions aS_order x15 g10 g12 g14) H := hP
    have hD : va_D A (wv_10 cI cJ cZ aS aS_premises aS_premiseCounts aS_conclusions aS_order x15 g10 g12 g14) := hD
    refine lv_aload_n hx hb d_S_add_90 rfl (lv_at hl 1 rfl) ?_
    refine va_get (D := D) (ci := 2) (v := .int x15) (C := RR_S) (T := FF_S) (N := 5) hx hb hts kin_S hown hK.1 hP 0 rfl rfl 4 (by decide) (hts _ k1_72) (fun _ h9 => h9) rfl d_S_add_91 ?_
    refine lv_iconst (v := 1) hx hb d_S_add_94 (by decide) ?_
    refine lv_isub hx hb d_S_add_95 ?_
    obtain rfl := Option.some.inj hf
    exact W.iret (v := x15 - (1 : Int32)) hx hb hr (fun t ht hW => ⟨rfl, by rw [ht]; exact hP, hD, hS.F ht⟩) hS.2.2 d_S_add_96
  · have hf := ite_f c1 hf
    refine lv_iconst (v := -1) hx hb d_S_add_9 (by decide) ?_
    obtain rfl := Option.some.inj hf
    exact W.iret (v := (-1 : Int32)) hx hb hr (fun t ht hW => ⟨rfl, by rw [ht]; exact hP, hD, hS.F ht⟩) hS.2.2 d_S_add_10
def f_S_dropLatest (S_count : Int32) : Option (Int32 × Int32) :=
  if S_count = 0 then
    some ((0 : Int32), S_count)
  else
    nm (S_count - (1 : Int32)) fun x2 =>
    some ((1 : Int32), x2)
abbrev rm_S_dropLatest : Room := { frames := 0, cells := 0, slots := 0, locals := 0 }
set_option maxHeartbeats 4000000 in
set_option maxRecDepth 100000 in
theorem c_S_dropLatest (l : Launch) (D : va_G) (cI cJ cZ : ClassId) (aS aS_premises aS_premiseCounts aS_conclusions aS_order : Nat) (sz : Nat) (S_count : Int32) (o : Int32 × Int32) (hf : f_S_dropLatest S_count = some o) : Met l y_S_dropLatest (ws_S_dropLatest) rm_S_dropLatest (WPc D vwCl cI cJ cZ [.ref aS] (wv_9 cI cJ cZ aS aS_premises aS_premiseCounts aS_conclusions aS_order S_count) sz) (WQ D vwCl (some (.int o.1)) (wv_9 cI cJ cZ aS aS_premises aS_premiseCounts aS_conclusions aS_order o.2) (va_A (wv_9 cI cJ cZ aS aS_premises aS_premiseCounts aS_conclusions aS_order S_count) sz)) 0 0 (va_A (wv_9 cI cJ cZ aS aS_premises aS_premiseCounts aS_conclusions aS_order S_count) sz) := by
  refine Met.ofW (cc := b_S_dropLatest) (maxL := 1) (ret := (some .boolean)) (by decide) rfl ?_
  intro p e s m args below meth c s₁ B hml hv
  obtain ⟨rfl, rfl, hP, hK, hD0⟩ := hv
  have hx := B.exec
  have hb := B.bytes
  have hr := B.returns
  have hts : ∀ w ∈ BG, w.before _ s = true := fun w h => atoms_spec (ws := (ws_S_dropLatest)) B.pre w (List.mem_cons_of_mem _ h)
  have hown : s.vm.findClass RR_S = some m.cls := findClass_of_methodNamed B.named
  have hlocks := B.notSynchronized
  have hD := hD0.self (sz := s.heap.size)
  have hA : ∀ q : Nat, s.heap.size ≤ q → va_A (wv_9 cI cJ cZ aS aS_premises aS_premiseCounts aS_conclusions aS_order S_count) s.heap.size q := fun q h => Or.inr h
  have hS : va_S (va_A (wv_9 cI cJ cZ aS aS_premises aS_premiseCounts aS_conclusions aS_order S_count) s.heap.size) s.heap s.heap [] := va_S.rf
  generalize va_A (wv_9 cI cJ cZ aS aS_premises aS_premiseCounts aS_conclusions aS_order S_count) s.heap.size = A at hD hA hS ⊢
  have hl := lv_entry ([.ref aS]) (n := 1) (Nat.le_of_ble_eq_true rfl)
  rw [lg_entry_eq]
  generalize (lg_sl ([.ref aS]) ++ List.replicate (1 - (lg_sl ([.ref aS])).length) Slot.unset).toArray = ls at hl ⊢
  have hl : lv_has ls 1 [(0, .ref aS)] := hl
  rw [f_S_dropLatest] at hf
  refine lv_aload_n hx hb d_S_dropLatest_0 rfl (lv_at hl 0 rfl) ?_
  refine va_get (D := D) (ci := 2) (v := .int S_count) (C := RR_S) (T := FF_S) (N := 5) hx hb hts kin_S hown hK.1 hP 0 rfl rfl 4 (by decide) (hts _ k1_72) (fun _ h9 => h9) rfl d_S_dropLatest_1 ?_
  refine lv_if_ne (tgt := 9) hx hb d_S_dropLatest_4 (by decide) (fun c1 => ?_) (fun c1 => ?_)
  · have hf := ite_f c1 hf
    refine lv_aload_n hx hb d_S_dropLatest_9 rfl (lv_at hl 0 rfl) ?_
    refine lv_dup hx hb d_S_dropLatest_10 rfl ?_
    refine va_get (D := D) (ci := 2) (v := .int S_count) (C := RR_S) (T := FF_S) (N := 5) hx hb hts kin_S hown hK.1 hP 0 rfl rfl 4 (by decide) (hts _ k1_72) (fun _ h9 => h9) rfl d_S_dropLatest_11 ?_
    refine lv_iconst (v := 1) hx hb d_S_dropLatest_14 (by decide) ?_
    refine lv_isub hx hb d_S_dropLatest_15 ?_
    refine lv_topi (fun x2 ex2 => ?_)
    have hf := of_nm ex2 hf
    refine va_put (D := D) (ci := 2) (v := .int x2) (ty := .int) (C := RR_S) (T := FF_S) (N := 5) hx hb hts kin_S TT_S tok_S nok_S hown hK.1 hP hD hS 0 rfl rfl 4 (by decide) (hts _ k1_72) (fun _ h9 => h9) rfl (by decide +kernel) rfl rfl (Nat.le_of_ble_eq_true rfl) d_S_dropLatest_16 (fun H locs hP hD hS => ?_)
    have hP : va_P D vwCl (wv_9 cI cJ cZ aS aS_premises aS_premiseCounts aS_conclusions aS_order x2) H := hP
    have hD : va_D A (wv_9 cI cJ cZ aS aS_premises aS_premiseCounts aS_conclusions aS_order x2) := hD
    refine lv_iconst (v := 1) hx hb d_S_dropLatest_19 (by decide) ?_
    obtain rfl := Option.some.inj hf
    exact W.zret (v := (1 : Int32)) hx hb hr rfl (fun t ht hW => ⟨rfl, by rw [ht]; exact hP, hD, hS.F ht⟩) hS.2.2 d_S_dropLatest_20
  · have hf := ite_t c1 hf
    refine lv_iconst (v := 0) hx hb d_S_dropLatest_7 (by decide) ?_
    obtain rfl := Option.some.inj hf
    exact W.zret (v := (0 : Int32)) hx hb hr rfl (fun t ht hW => ⟨rfl, by rw [ht]; exact hP, hD, hS.F ht⟩) hS.2.2 d_S_dropLatest_8
def f_S_premises (S_count : Int32) (S_premiseCounts : (Nat → Int32)) (p0 : Int32) : Option (Int32) :=
  if p0 < 0 then
    some (0 : Int32)
  else
    if S_count ≤ p0 then
      some (0 : Int32)
    else
      gd (ixb p0 30) <|
      some (S_premiseCounts p0.toNatClampNeg)
abbrev rm_S_premises : Room := { frames := 0, cells := 0, slots := 0, locals := 0 }
set_option maxHeartbeats 4000000 in
set_option maxRecDepth 100000 in
theorem c_S_premises (l : Launch) (D : va_G) (cI cJ cZ : ClassId) (aS aS_premises aS_premiseCounts aS_conclusions aS_order : Nat) (S_count : Int32) (S_premiseCounts : (Nat → Int32)) (p0 : Int32) (o : Int32) (hf : f_S_premises S_count S_premiseCounts p0 = some o) : Met l y_S_premises (ws_S_premises) rm_S_premises (RPc D vwCl cI cJ cZ [.ref aS, .int p0] (wv_11 cI cJ cZ aS aS_premises aS_premiseCounts aS_conclusions aS_order S_count S_premiseCounts)) (RQ (some (.int o))) 0 0 (fun _ => False) := by
  refine Met.ofW (cc := b_S_premises) (maxL := 2) (ret := (some .int)) (by decide) rfl ?_
  intro p e s m args below meth c s₁ B hml hv
  obtain ⟨rfl, hP, hK⟩ := hv
  have hx := B.exec
  have hb := B.bytes
  have hr := B.returns
  have hts : ∀ w ∈ BG, w.before _ s = true := fun w h => atoms_spec (ws := (ws_S_premises)) B.pre w (List.mem_cons_of_mem _ h)
  have hown : s.vm.findClass RR_S = some m.cls := findClass_of_methodNamed B.named
  have hlocks := B.notSynchronized
  have hl := lv_entry ([.ref aS, .int p0]) (n := 2) (Nat.le_of_ble_eq_true rfl)
  rw [lg_entry_eq]
  generalize (lg_sl ([.ref aS, .int p0]) ++ List.replicate (2 - (lg_sl ([.ref aS, .int p0])).length) Slot.unset).toArray = ls at hl ⊢
  have hl : lv_has ls 2 [(0, .ref aS), (1, .int p0)] := hl
  rw [f_S_premises] at hf
  refine lv_iload_n hx hb d_S_premises_0 rfl (lv_at hl 1 rfl) ?_
  refine lv_if_lt (tgt := 21) hx hb d_S_premises_1 (by decide) (fun c1 => ?_) (fun c1 => ?_)
  · have hf := ite_t c1 hf
    refine lv_iconst (v := 0) hx hb d_S_premises_21 (by decide) ?_
    obtain rfl := Option.some.inj hf
    exact W.iret (v := (0 : Int32)) hx hb hr (fun t ht hW => ⟨rfl, ht⟩) (fun q h => by cases h) d_S_premises_22
  · have hf := ite_f c1 hf
    refine lv_iload_n hx hb d_S_premises_4 rfl (lv_at hl 1 rfl) ?_
    refine lv_aload_n hx hb d_S_premises_5 rfl (lv_at hl 0 rfl) ?_
    refine va_get (D := D) (ci := 2) (v := .int S_count) (C := RR_S) (T := FF_S) (N := 5) hx hb hts kin_S hown hK.1 hP 0 rfl rfl 4 (by decide) (hts _ k1_72) (fun _ h9 => h9) rfl d_S_premises_6 ?_
    refine lv_icmp_ge (tgt := 21) hx hb d_S_premises_9 (by decide) (fun c2 => ?_) (fun c2 => ?_)
    · have hf := ite_t c2 hf
      refine lv_iconst (v := 0) hx hb d_S_premises_21 (by decide) ?_
      obtain rfl := Option.some.inj hf
      exact W.iret (v := (0 : Int32)) hx hb hr (fun t ht hW => ⟨rfl, ht⟩) (fun q h => by cases h) d_S_premises_22
    · have hf := ite_f c2 hf
      refine lv_aload_n hx hb d_S_premises_12 rfl (lv_at hl 0 rfl) ?_
      refine va_get (D := D) (ci := 2) (v := .ref aS_premiseCounts) (C := RR_S) (T := FF_S) (N := 5) hx hb hts kin_S hown hK.1 hP 0 rfl rfl 1 (by decide) (hts _ k1_69) (fun _ h9 => h9) rfl d_S_premises_13 ?_
      refine lv_iload_n hx hb d_S_premises_16 rfl (lv_at hl 1 rfl) ?_
      obtain ⟨h3, hf⟩ := of_gd hf
      refine va_iald hx hb hK.1 hP 1 0 rfl rfl (ixb_in h3) d_S_premises_17 ?_
      refine lv_goto (tgt := 22) hx hb d_S_premises_18 (by decide) ?_
      obtain rfl := Option.some.inj hf
      exact W.iret (v := S_premiseCounts p0.toNatClampNeg) hx hb hr (fun t ht hW => ⟨rfl, ht⟩) (fun q h => by cases h) d_S_premises_22
def f_S_premise (S_count : Int32) (S_premises : (Nat → Int32)) (S_premiseCounts : (Nat → Int32)) (p0 : Int32) (p1 : Int32) : Option (Int32) :=
  if p1 < 0 then
    some (-1 : Int32)
  else
    (f_S_premises S_count S_premiseCounts p0).bind fun r2 =>
    if r2 ≤ p1 then
      some (-1 : Int32)
    else
      gd (ixb ((p0 * (4 : Int32)) + p1) 120) <|
      some (S_premises ((p0 * (4 : Int32)) + p1).toNatClampNeg)
abbrev rm_S_premise : Room := { frames := 1, cells := 0, slots := 0, locals := 21 }
set_option maxHeartbeats 4000000 in
set_option maxRecDepth 100000 in
theorem c_S_premise (l : Launch) (D : va_G) (cI cJ cZ : ClassId) (aS aS_premises aS_premiseCounts aS_conclusions aS_order : Nat) (S_count : Int32) (S_premises : (Nat → Int32)) (S_premiseCounts : (Nat → Int32)) (p0 : Int32) (p1 : Int32) (o : Int32) (hf : f_S_premise S_count S_premises S_premiseCounts p0 p1 = some o) : Met l y_S_premise (ws_S_premise) rm_S_premise (RPc D vwCl cI cJ cZ [.ref aS, .int p0, .int p1] (wv_12 cI cJ cZ aS aS_premises aS_premiseCounts aS_conclusions aS_order S_count S_premises S_premiseCounts)) (RQ (some (.int o))) 0 0 (fun _ => False) := by
  refine Met.ofW (cc := b_S_premise) (maxL := 3) (ret := (some .int)) (by decide) rfl ?_
  intro p e s m args below meth c s₁ B hml hv
  obtain ⟨rfl, hP, hK⟩ := hv
  have hx := B.exec
  have hb := B.bytes
  have hr := B.returns
  have hts : ∀ w ∈ BG, w.before _ s = true := fun w h => atoms_spec (ws := (ws_S_premise)) B.pre w (List.mem_cons_of_mem _ h)
  have hown : s.vm.findClass RR_S = some m.cls := findClass_of_methodNamed B.named
  have hlocks := B.notSynchronized
  have hl := lv_entry ([.ref aS, .int p0, .int p1]) (n := 3) (Nat.le_of_ble_eq_true rfl)
  rw [lg_entry_eq]
  generalize (lg_sl ([.ref aS, .int p0, .int p1]) ++ List.replicate (3 - (lg_sl ([.ref aS, .int p0, .int p1])).length) Slot.unset).toArray = ls at hl ⊢
  have hl : lv_has ls 3 [(0, .ref aS), (1, .int p0), (2, .int p1)] := hl
  rw [f_S_premise] at hf
  refine lv_iload_n hx hb d_S_premise_0 rfl (lv_at hl 2 rfl) ?_
  refine lv_if_lt (tgt := 26) hx hb d_S_premise_1 (by decide) (fun c1 => ?_) (fun c1 => ?_)
  · have hf := ite_t c1 hf
    refine lv_iconst (v := -1) hx hb d_S_premise_26 (by decide) ?_
    obtain rfl := Option.some.inj hf
    exact W.iret (v := (-1 : Int32)) hx hb hr (fun t ht hW => ⟨rfl, ht⟩) (fun q h => by cases h) d_S_premise_27
  · have hf := ite_f c1 hf
    refine lv_iload_n hx hb d_S_premise_4 rfl (lv_at hl 2 rfl) ?_
    refine lv_aload_n hx hb d_S_premise_5 rfl (lv_at hl 0 rfl) ?_
    refine lv_iload_n hx hb d_S_premise_6 rfl (lv_at hl 1 rfl) ?_
    obtain ⟨r2, hr2, hf⟩ := of_bd hf
    refine rd_call (va_runV (As := [.int p0]) (rest := [.int p1]) ⟨hx, hb, hml, hown, hts⟩ (c_S_premises l D cI cJ cZ aS aS_premises aS_premiseCounts aS_conclusions aS_order S_count S_premiseCounts p0 r2 hr2) (bigV 1 hts k3_91 k3_84 k3_85 k1_4 k3_86 rfl rfl hd_S_premises ⟨Nat.le_of_ble_eq_true rfl, Nat.le_of_ble_eq_true rfl⟩) (rd_preV hK hP [0, 2] rfl 0 rfl rfl rfl) rfl rfl hl.1 rfl (lv_room (Nat.le_of_ble_eq_true rfl)) d_S_premise_7 ⟨Nat.le_of_ble_eq_true rfl, Nat.le_of_ble_eq_true rfl⟩) ?_
    refine lv_icmp_ge (tgt := 26) hx hb d_S_premise_10 (by decide) (fun c3 => ?_) (fun c3 => ?_)
    · have hf := ite_t c3 hf
      refine lv_iconst (v := -1) hx hb d_S_premise_26 (by decide) ?_
      obtain rfl := Option.some.inj hf
      exact W.iret (v := (-1 : Int32)) hx hb hr (fun t ht hW => ⟨rfl, ht⟩) (fun q h => by cases h) d_S_premise_27
    · have hf := ite_f c3 hf
      refine lv_aload_n hx hb d_S_premise_13 rfl (lv_at hl 0 rfl) ?_
      refine va_get (D := D) (ci := 2) (v := .ref aS_premises) (C := RR_S) (T := FF_S) (N := 5) hx hb hts kin_S hown hK.1 hP 0 rfl rfl 0 (by decide) (hts _ k1_68) (fun _ h9 => h9) rfl d_S_premise_14 ?_
      refine lv_iload_n hx hb d_S_premise_17 rfl (lv_at hl 1 rfl) ?_
      refine lv_iconst (v := 4) hx hb d_S_premise_18 (by decide) ?_
      refine lv_imul hx hb d_S_premise_19 ?_
      refine lv_iload_n hx hb d_S_premise_20 rfl (lv_at hl 2 rfl) ?_
      refine lv_iadd hx hb d_S_premise_21 ?_
      obtain ⟨h4, hf⟩ := of_gd hf
      refine va_iald hx hb hK.1 hP 1 0 rfl rfl (ixb_in h4) d_S_premise_22 ?_
      refine lv_goto (tgt := 27) hx hb d_S_premise_23 (by decide) ?_
      obtain rfl := Option.some.inj hf
      exact W.iret (v := S_premises ((p0 * (4 : Int32)) + p1).toNatClampNeg) hx hb hr (fun t ht hW => ⟨rfl, ht⟩) (fun q h => by cases h) d_S_premise_27
def f_S_conclusion (S_count : Int32) (S_conclusions : (Nat → Int32)) (p0 : Int32) : Option (Int32) :=
  if p0 < 0 then
    some (-1 : Int32)
  else
    if S_count ≤ p0 then
      some (-1 : Int32)
    else
      gd (ixb p0 30) <|
      some (S_conclusions p0.toNatClampNeg)
abbrev rm_S_conclusion : Room := { frames := 0, cells := 0, slots := 0, locals := 0 }
set_option maxHeartbeats 4000000 in
set_option maxRecDepth 100000 in
theorem c_S_conclusion (l : Launch) (D : va_G) (cI cJ cZ : ClassId) (aS aS_premises aS_premiseCounts aS_conclusions aS_order : Nat) (S_count : Int32) (S_conclusions : (Nat → Int32)) (p0 : Int32) (o : Int32) (hf : f_S_conclusion S_count S_conclusions p0 = some o) : Met l y_S_conclusion (ws_S_conclusion) rm_S_conclusion (RPc D vwCl cI cJ cZ [.ref aS, .int p0] (wv_13 cI cJ cZ aS aS_premises aS_premiseCounts aS_conclusions aS_order S_count S_conclusions)) (RQ (some (.int o))) 0 0 (fun _ => False) := by
  refine Met.ofW (cc := b_S_conclusion) (maxL := 2) (ret := (some .int)) (by decide) rfl ?_
  intro p e s m args below meth c s₁ B hml hv
  obtain ⟨rfl, hP, hK⟩ := hv
  have hx := B.exec
  have hb := B.bytes
  have hr := B.returns
  have hts : ∀ w ∈ BG, w.before _ s = true := fun w h => atoms_spec (ws := (ws_S_conclusion)) B.pre w (List.mem_cons_of_mem _ h)
  have hown : s.vm.findClass RR_S = some m.cls := findClass_of_methodNamed B.named
  have hlocks := B.notSynchronized
  have hl := lv_entry ([.ref aS, .int p0]) (n := 2) (Nat.le_of_ble_eq_true rfl)
  rw [lg_entry_eq]
  generalize (lg_sl ([.ref aS, .int p0]) ++ List.replicate (2 - (lg_sl ([.ref aS, .int p0])).length) Slot.unset).toArray = ls at hl ⊢
  have hl : lv_has ls 2 [(0, .ref aS), (1, .int p0)] := hl
  rw [f_S_conclusion] at hf
  refine lv_iload_n hx hb d_S_conclusion_0 rfl (lv_at hl 1 rfl) ?_
  refine lv_if_lt (tgt := 21) hx hb d_S_conclusion_1 (by decide) (fun c1 => ?_) (fun c1 => ?_)
  · have hf := ite_t c1 hf
    refine lv_iconst (v := -1) hx hb d_S_conclusion_21 (by decide) ?_
    obtain rfl := Option.some.inj hf
    exact W.iret (v := (-1 : Int32)) hx hb hr (fun t ht hW => ⟨rfl, ht⟩) (fun q h => by cases h) d_S_conclusion_22
  · have hf := ite_f c1 hf
    refine lv_iload_n hx hb d_S_conclusion_4 rfl (lv_at hl 1 rfl) ?_
    refine lv_aload_n hx hb d_S_conclusion_5 rfl (lv_at hl 0 rfl) ?_
    refine va_get (D := D) (ci := 2) (v := .int S_count) (C := RR_S) (T := FF_S) (N := 5) hx hb hts kin_S hown hK.1 hP 0 rfl rfl 4 (by decide) (hts _ k1_72) (fun _ h9 => h9) rfl d_S_conclusion_6 ?_
    refine lv_icmp_ge (tgt := 21) hx hb d_S_conclusion_9 (by decide) (fun c2 => ?_) (fun c2 => ?_)
    · have hf := ite_t c2 hf
      refine lv_iconst (v := -1) hx hb d_S_conclusion_21 (by decide) ?_
      obtain rfl := Option.some.inj hf
      exact W.iret (v := (-1 : Int32)) hx hb hr (fun t ht hW => ⟨rfl, ht⟩) (fun q h => by cases h) d_S_conclusion_22
    · have hf := ite_f c2 hf
      refine lv_aload_n hx hb d_S_conclusion_12 rfl (lv_at hl 0 rfl) ?_
      refine va_get (D := D) (ci := 2) (v := .ref aS_conclusions) (C := RR_S) (T := FF_S) (N := 5) hx hb hts kin_S hown hK.1 hP 0 rfl rfl 2 (by decide) (hts _ k1_70) (fun _ h9 => h9) rfl d_S_conclusion_13 ?_
      refine lv_iload_n hx hb d_S_conclusion_16 rfl (lv_at hl 1 rfl) ?_
      obtain ⟨h3, hf⟩ := of_gd hf
      refine va_iald hx hb hK.1 hP 1 0 rfl rfl (ixb_in h3) d_S_conclusion_17 ?_
      refine lv_goto (tgt := 22) hx hb d_S_conclusion_18 (by decide) ?_
      obtain rfl := Option.some.inj hf
      exact W.iret (v := S_conclusions p0.toNatClampNeg) hx hb hr (fun t ht hW => ⟨rfl, ht⟩) (fun q h => by cases h) d_S_conclusion_22
def f_S_withinPremises_L5 (T_count : Int32) (nT_withins : Nat) (T_withins : (Nat → Int64)) (S_count : Int32) (S_premises : (Nat → Int32)) (S_premiseCounts : (Nat → Int32)) : Nat → Int32 → Int64 → Int32 → Option (Int64)
  | 0, _, _, _ => none
  | n + 1, x1_5, x3_5, x5_5 =>
    (f_S_premises S_count S_premiseCounts x1_5).bind fun r1 =>
    if r1 ≤ x5_5 then
      some x3_5
    else
      (f_S_premise S_count S_premises S_premiseCounts x1_5 x5_5).bind fun r3 =>
      (f_T_within T_count nT_withins T_withins r3).bind fun r4 =>
      nm (x3_5 ||| r4) fun x5 =>
      nm (x5_5 + (1 : Int32)) fun x6 =>
      (f_S_withinPremises_L5 T_count nT_withins T_withins S_count S_premises S_premiseCounts n) x1_5 x5 x6
def f_S_withinPremises (T_count : Int32) (nT_withins : Nat) (T_withins : (Nat → Int64)) (S_count : Int32) (S_premises : (Nat → Int32)) (S_premiseCounts : (Nat → Int32)) (p0 : Int32) : Option (Int64) :=
  f_S_withinPremises_L5 T_count nT_withins T_withins S_count S_premises S_premiseCounts FU p0 (0 : Int64) (0 : Int32)
abbrev rm_S_withinPremises : Room := { frames := 2, cells := 0, slots := 0, locals := 43 }
set_option maxHeartbeats 4000000 in
set_option maxRecDepth 100000 in
theorem c_S_withinPremises (l : Launch) (D : va_G) (cI cJ cZ : ClassId) (aT aT_heads aT_places aT_olders aT_sizes aT_withins aT_newest aS aS_premises aS_premiseCounts aS_conclusions aS_order : Nat) (T_count : Int32) (nT_withins : Nat) (T_withins : (Nat → Int64)) (S_count : Int32) (S_premises : (Nat → Int32)) (S_premiseCounts : (Nat → Int32)) (p0 : Int32) (o : Int64) (hf : f_S_withinPremises T_count nT_withins T_withins S_count S_premises S_premiseCounts p0 = some o) : Met l y_S_withinPremises (ws_S_withinPremises) rm_S_withinPremises (RPc D vwCl cI cJ cZ [.ref aS, .int p0, .ref aT] (wv_14 cI cJ cZ aT aT_heads aT_places aT_olders aT_sizes aT_withins aT_newest aS aS_premises aS_premiseCounts aS_conclusions aS_order T_count nT_withins T_withins S_count S_premises S_premiseCounts)) (RQ (some (.long o))) 0 0 (fun _ => False) := by
  refine Met.ofW (cc := b_S_withinPremises) (maxL := 6) (ret := (some .long)) (by decide) rfl ?_
  intro p e s m args below meth c s₁ B hml hv
  obtain ⟨rfl, hP, hK⟩ := hv
  have hx := B.exec
  have hb := B.bytes
  have hr := B.returns
  have hts : ∀ w ∈ BG, w.before _ s = true := fun w h => atoms_spec (ws := (ws_S_withinPremises)) B.pre w (List.mem_cons_of_mem _ h)
  have hown : s.vm.findClass RR_S = some m.cls := findClass_of_methodNamed B.named
  have hlocks := B.notSynchronized
  have hl := lv_entry ([.ref aS, .int p0, .ref aT]) (n := 6) (Nat.le_of_ble_eq_true rfl)
  rw [lg_entry_eq]
  generalize (lg_sl ([.ref aS, .int p0, .ref aT]) ++ List.replicate (6 - (lg_sl ([.ref aS, .int p0, .ref aT])).length) Slot.unset).toArray = ls at hl ⊢
  have hl : lv_has ls 6 [(0, .ref aS), (1, .int p0), (2, .ref aT)] := hl
  have hL5 : ∀ (n5 : Nat), ∀ (x1_5 : Int32) (x3_5 : Int64) (x5_5 : Int32), ∀ (ls : Array Slot), lv_has ls 6 [(0, .ref aS), (1, .int x1_5), (2, .ref aT), (3, .long x3_5), (5, .int x5_5)] → f_S_withinPremises_L5 T_count nT_withins T_withins S_count S_premises S_premiseCounts n5 x1_5 x3_5 x5_5 = some o → W p l e (headSpec (ws_S_withinPremises) rm_S_withinPremises).room s m ([.ref aS, .int p0, .ref aT] : List Value).toArray below meth c s.heap [] 0 0 (MQ below (RQ (some (.long o))) ([.ref aS, .int p0, .ref aT] : List Value).toArray s 0 0 (fun _ => False)) (F0 m 5 ls []) := by
    intro n5
    induction n5 with
    | zero =>
      intro x1_5 x3_5 x5_5 ls hl hf
      rw [f_S_withinPremises_L5] at hf
      cases hf
    | succ n5 ih5 =>
      intro x1_5 x3_5 x5_5 ls hl hf
      rw [f_S_withinPremises_L5] at hf
      refine lv_iload hx hb d_S_withinPremises_5 (lv_at hl 4 rfl) ?_
      refine lv_aload_n hx hb d_S_withinPremises_7 rfl (lv_at hl 0 rfl) ?_
      refine lv_iload_n hx hb d_S_withinPremises_8 rfl (lv_at hl 1 rfl) ?_
      obtain ⟨r1, hr1, hf⟩ := of_bd hf
      refine rd_call (va_runV (As := [.int x1_5]) (rest := [.int x5_5]) ⟨hx, hb, hml, hown, hts⟩ (c_S_premises l D cI cJ cZ aS aS_premises aS_premiseCounts aS_conclusions aS_order S_count S_premiseCounts x1_5 r1 hr1) (bigV 1 hts k3_91 k3_84 k3_85 k1_4 k3_86 rfl rfl hd_S_premises ⟨Nat.le_of_ble_eq_true rfl, Nat.le_of_ble_eq_true rfl⟩) (rd_preV hK hP [2, 4] rfl 2 rfl rfl rfl) rfl rfl hl.1 rfl (lv_room (Nat.le_of_ble_eq_true rfl)) d_S_withinPremises_9 ⟨Nat.le_of_ble_eq_true rfl, Nat.le_of_ble_eq_true rfl⟩) ?_
      refine lv_icmp_ge (tgt := 35) hx hb d_S_withinPremises_12 (by decide) (fun c2 => ?_) (fun c2 => ?_)
      · have hf := ite_t c2 hf
        refine lv_lload_n hx hb d_S_withinPremises_35 rfl (lv_at hl 3 rfl) ?_
        obtain rfl := Option.some.inj hf
        exact W.lret (v := x3_5) hx hb hr (fun t ht hW => ⟨rfl, ht⟩) (fun q h => by cases h) d_S_withinPremises_36
      · have hf := ite_f c2 hf
        refine lv_lload_n hx hb d_S_withinPremises_15 rfl (lv_at hl 3 rfl) ?_
        refine lv_aload_n hx hb d_S_withinPremises_16 rfl (lv_at hl 2 rfl) ?_
        refine lv_aload_n hx hb d_S_withinPremises_17 rfl (lv_at hl 0 rfl) ?_
        refine lv_iload_n hx hb d_S_withinPremises_18 rfl (lv_at hl 1 rfl) ?_
        refine lv_iload hx hb d_S_withinPremises_19 (lv_at hl 4 rfl) ?_
        obtain ⟨r3, hr3, hf⟩ := of_bd hf
        refine rd_call (va_runV (As := [.int x1_5, .int x5_5]) (rest := [.ref aT, .long x3_5]) ⟨hx, hb, hml, hown, hts⟩ (c_S_premise l D cI cJ cZ aS aS_premises aS_premiseCounts aS_conclusions aS_order S_count S_premises S_premiseCounts x1_5 x5_5 r3 hr3) (bigV 2 hts k3_136 k3_88 k3_89 k1_4 k3_90 rfl rfl hd_S_premise ⟨Nat.le_of_ble_eq_true rfl, Nat.le_of_ble_eq_true rfl⟩) (rd_preV hK hP [2, 3, 4] rfl 2 rfl rfl rfl) rfl rfl hl.1 rfl (lv_room (Nat.le_of_ble_eq_true rfl)) d_S_withinPremises_21 ⟨Nat.le_of_ble_eq_true rfl, Nat.le_of_ble_eq_true rfl⟩) ?_
        obtain ⟨r4, hr4, hf⟩ := of_bd hf
        refine rd_call (va_runV (As := [.int r3]) (rest := [.long x3_5]) ⟨hx, hb, hml, hown, hts⟩ (c_T_within l D cI cJ cZ aT aT_heads aT_places aT_olders aT_sizes aT_withins aT_newest T_count nT_withins T_withins r3 r4 hr4) (bigV 1 hts k3_137 k3_9 k3_10 k1_2 k3_11 rfl rfl hd_T_within ⟨Nat.le_of_ble_eq_true rfl, Nat.le_of_ble_eq_true rfl⟩) (rd_preV hK hP [0, 1] rfl 0 rfl rfl rfl) rfl rfl hl.1 rfl (lv_room (Nat.le_of_ble_eq_true rfl)) d_S_withinPremises_24 ⟨Nat.le_of_ble_eq_true rfl, Nat.le_of_ble_eq_true rfl⟩) ?_
        refine lv_lor hx hb d_S_withinPremises_27 ?_
        refine lv_topl (fun x5 ex5 => ?_)
        have hf := of_nm ex5 hf
        refine lv_lstore_n (lv' := [(3, .long x5), (0, .ref aS), (1, .int x1_5), (2, .ref aT), (5, .int x5_5)]) hx hb d_S_withinPremises_28 rfl hl (by decide) rfl (fun ls hl => ?_)
        obtain ⟨x6, ex6⟩ : ∃ y : Int32, y = x5_5 + (1 : Int32) := ⟨_, rfl⟩
        refine lv_iinc (v := x6) (lv' := [(5, .int x6), (3, .long x5), (0, .ref aS), (1, .int x1_5), (2, .ref aT)]) hx hb d_S_withinPremises_29 hl (k := 4) rfl (by rw [ex6]; rfl) (by decide) rfl (fun ls hl => ?_)
        have hf := of_nm ex6 hf
        refine lv_goto (tgt := 5) hx hb d_S_withinPremises_32 (by decide) ?_
        exact ih5 _ _ _ _ (lv_sub hl [2, 3, 4, 1, 0] rfl) hf
  rw [f_S_withinPremises] at hf
  refine lv_lconst (v := 0) hx hb d_S_withinPremises_0 (by decide) ?_
  refine lv_lstore_n (lv' := [(3, .long (0 : Int64)), (0, .ref aS), (1, .int p0), (2, .ref aT)]) hx hb d_S_withinPremises_1 rfl hl (by decide) rfl (fun ls hl => ?_)
  refine lv_iconst (v := 0) hx hb d_S_withinPremises_2 (by decide) ?_
  refine lv_istore (lv' := [(5, .int (0 : Int32)), (3, .long (0 : Int64)), (0, .ref aS), (1, .int p0), (2, .ref aT)]) hx hb d_S_withinPremises_3 hl (by decide) rfl (fun ls hl => ?_)
  exact hL5 FU _ _ _ _ (lv_sub hl [2, 3, 4, 1, 0] rfl) hf
def f_S_within (T_count : Int32) (nT_withins : Nat) (T_withins : (Nat → Int64)) (S_count : Int32) (S_premises : (Nat → Int32)) (S_premiseCounts : (Nat → Int32)) (S_conclusions : (Nat → Int32)) (p0 : Int32) : Option (Int64) :=
  (f_S_withinPremises T_count nT_withins T_withins S_count S_premises S_premiseCounts p0).bind fun r1 =>
  (f_S_conclusion S_count S_conclusions p0).bind fun r2 =>
  (f_T_within T_count nT_withins T_withins r2).bind fun r3 =>
  some (r1 ||| r3)
abbrev rm_S_within : Room := { frames := 3, cells := 0, slots := 0, locals := 68 }
set_option maxHeartbeats 4000000 in
set_option maxRecDepth 100000 in
theorem c_S_within (l : Launch) (D : va_G) (cI cJ cZ : ClassId) (aT aT_heads aT_places aT_olders aT_sizes aT_withins aT_newest aS aS_premises aS_premiseCounts aS_conclusions aS_order : Nat) (T_count : Int32) (nT_withins : Nat) (T_withins : (Nat → Int64)) (S_count : Int32) (S_premises : (Nat → Int32)) (S_premiseCounts : (Nat → Int32)) (S_conclusions : (Nat → Int32)) (p0 : Int32) (o : Int64) (hf : f_S_within T_count nT_withins T_withins S_count S_premises S_premiseCounts S_conclusions p0 = some o) : Met l y_S_within (ws_S_within) rm_S_within (RPc D vwCl cI cJ cZ [.ref aS, .int p0, .ref aT] (wv_15 cI cJ cZ aT aT_heads aT_places aT_olders aT_sizes aT_withins aT_newest aS aS_premises aS_premiseCounts aS_conclusions aS_order T_count nT_withins T_withins S_count S_premises S_premiseCounts S_conclusions)) (RQ (some (.long o))) 0 0 (fun _ => False) := by
  refine Met.ofW (cc := b_S_within) (maxL := 3) (ret := (some .long)) (by decide) rfl ?_
  intro p e s m args below meth c s₁ B hml hv
  obtain ⟨rfl, hP, hK⟩ := hv
  have hx := B.exec
  have hb := B.bytes
  have hr := B.returns
  have hts : ∀ w ∈ BG, w.before _ s = true := fun w h => atoms_spec (ws := (ws_S_within)) B.pre w (List.mem_cons_of_mem _ h)
  have hown : s.vm.findClass RR_S = some m.cls := findClass_of_methodNamed B.named
  have hlocks := B.notSynchronized
  have hl := lv_entry ([.ref aS, .int p0, .ref aT]) (n := 3) (Nat.le_of_ble_eq_true rfl)
  rw [lg_entry_eq]
  generalize (lg_sl ([.ref aS, .int p0, .ref aT]) ++ List.replicate (3 - (lg_sl ([.ref aS, .int p0, .ref aT])).length) Slot.unset).toArray = ls at hl ⊢
  have hl : lv_has ls 3 [(0, .ref aS), (1, .int p0), (2, .ref aT)] := hl
  rw [f_S_within] at hf
  refine lv_aload_n hx hb d_S_within_0 rfl (lv_at hl 0 rfl) ?_
  refine lv_iload_n hx hb d_S_within_1 rfl (lv_at hl 1 rfl) ?_
  refine lv_aload_n hx hb d_S_within_2 rfl (lv_at hl 2 rfl) ?_
  obtain ⟨r1, hr1, hf⟩ := of_bd hf
  refine rd_call (va_runV (As := [.int p0, .ref aT]) (rest := []) ⟨hx, hb, hml, hown, hts⟩ (c_S_withinPremises l D cI cJ cZ aT aT_heads aT_places aT_olders aT_sizes aT_withins aT_newest aS aS_premises aS_premiseCounts aS_conclusions aS_order T_count nT_withins T_withins S_count S_premises S_premiseCounts p0 r1 hr1) (bigV 2 hts k3_132 k3_134 ks_S_withinPremises k1_4 k3_135 rfl rfl hd_S_withinPremises ⟨Nat.le_of_ble_eq_true rfl, Nat.le_of_ble_eq_true rfl⟩) (rd_preV hK hP [0, 1, 2, 3, 4] rfl 2 rfl rfl rfl) rfl rfl hl.1 rfl (lv_room (Nat.le_of_ble_eq_true rfl)) d_S_within_3 ⟨Nat.le_of_ble_eq_true rfl, Nat.le_of_ble_eq_true rfl⟩) ?_
  refine lv_aload_n hx hb d_S_within_6 rfl (lv_at hl 2 rfl) ?_
  refine lv_aload_n hx hb d_S_within_7 rfl (lv_at hl 0 rfl) ?_
  refine lv_iload_n hx hb d_S_within_8 rfl (lv_at hl 1 rfl) ?_
  obtain ⟨r2, hr2, hf⟩ := of_bd hf
  refine rd_call (va_runV (As := [.int p0]) (rest := [.ref aT, .long r1]) ⟨hx, hb, hml, hown, hts⟩ (c_S_conclusion l D cI cJ cZ aS aS_premises aS_premiseCounts aS_conclusions aS_order S_count S_conclusions p0 r2 hr2) (bigV 1 hts k3_138 k2_101 k2_102 k1_4 k2_103 rfl rfl hd_S_conclusion ⟨Nat.le_of_ble_eq_true rfl, Nat.le_of_ble_eq_true rfl⟩) (rd_preV hK hP [2, 5] rfl 2 rfl rfl rfl) rfl rfl hl.1 rfl (lv_room (Nat.le_of_ble_eq_true rfl)) d_S_within_9 ⟨Nat.le_of_ble_eq_true rfl, Nat.le_of_ble_eq_true rfl⟩) ?_
  obtain ⟨r3, hr3, hf⟩ := of_bd hf
  refine rd_call (va_runV (As := [.int r2]) (rest := [.long r1]) ⟨hx, hb, hml, hown, hts⟩ (c_T_within l D cI cJ cZ aT aT_heads aT_places aT_olders aT_sizes aT_withins aT_newest T_count nT_withins T_withins r2 r3 hr3) (bigV 1 hts k3_137 k3_9 k3_10 k1_2 k3_11 rfl rfl hd_T_within ⟨Nat.le_of_ble_eq_true rfl, Nat.le_of_ble_eq_true rfl⟩) (rd_preV hK hP [0, 1] rfl 0 rfl rfl rfl) rfl rfl hl.1 rfl (lv_room (Nat.le_of_ble_eq_true rfl)) d_S_within_12 ⟨Nat.le_of_ble_eq_true rfl, Nat.le_of_ble_eq_true rfl⟩) ?_
  refine lv_lor hx hb d_S_within_15 ?_
  obtain rfl := Option.some.inj hf
  exact W.lret (v := r1 ||| r3) hx hb hr (fun t ht hW => ⟨rfl, ht⟩) (fun q h => by cases h) d_S_within_16
def f_S_openVariables (T_count : Int32) (nT_withins : Nat) (T_withins : (Nat → Int64)) (S_count : Int32) (S_premises : (Nat → Int32)) (S_premiseCounts : (Nat → Int32)) (S_conclusions : (Nat → Int32)) (p0 : Int32) : Option (Int32) :=
  (f_S_withinPremises T_count nT_withins T_withins S_count S_premises S_premiseCounts p0).bind fun r1 =>
  (f_S_conclusion S_count S_conclusions p0).bind fun r2 =>
  (f_T_within T_count nT_withins T_withins r2).bind fun r3 =>
  (f_JL_bitCount ((r1 &&& (r3 ^^^ (-1 : Int64))) &&& (273804165120 : Int64))).bind fun r4 =>
  some r4
abbrev rm_S_openVariables : Room := { frames := 3, cells := 0, slots := 0, locals := 68 }
set_option maxHeartbeats 4000000 in
set_option maxRecDepth 100000 in
theorem c_S_openVariables (l : Launch) (D : va_G) (cI cJ cZ : ClassId) (aT aT_heads aT_places aT_olders aT_sizes aT_withins aT_newest aS aS_premises aS_premiseCounts aS_conclusions aS_order : Nat) (T_count : Int32) (nT_withins : Nat) (T_withins : (Nat → Int64)) (S_count : Int32) (S_premises : (Nat → Int32)) (S_premiseCounts : (Nat → Int32)) (S_conclusions : (Nat → Int32)) (p0 : Int32) (o : Int32) (hf : f_S_openVariables T_count nT_withins T_withins S_count S_premises S_premiseCounts S_conclusions p0 = some o) : Met l y_S_openVariables (ws_S_openVariables) rm_S_openVariables (RPc D vwCl cI cJ cZ [.ref aS, .int p0, .ref aT] (wv_15 cI cJ cZ aT aT_heads aT_places aT_olders aT_sizes aT_withins aT_newest aS aS_premises aS_premiseCounts aS_conclusions aS_order T_count nT_withins T_withins S_count S_premises S_premiseCounts S_conclusions)) (RQ (some (.int o))) 0 0 (fun _ => False) := by
  refine Met.ofW (cc := b_S_openVariables) (maxL := 3) (ret := (some .int)) (by decide) rfl ?_
  intro p e s m args below meth c s₁ B hml hv
  obtain ⟨rfl, hP, hK⟩ := hv
  have hx := B.exec
  have hb := B.bytes
  have hr := B.returns
  have hts : ∀ w ∈ BG, w.before _ s = true := fun w h => atoms_spec (ws := (ws_S_openVariables)) B.pre w (List.mem_cons_of_mem _ h)
  have hown : s.vm.findClass RR_S = some m.cls := findClass_of_methodNamed B.named
  have hlocks := B.notSynchronized
  have hl := lv_entry ([.ref aS, .int p0, .ref aT]) (n := 3) (Nat.le_of_ble_eq_true rfl)
  rw [lg_entry_eq]
  generalize (lg_sl ([.ref aS, .int p0, .ref aT]) ++ List.replicate (3 - (lg_sl ([.ref aS, .int p0, .ref aT])).length) Slot.unset).toArray = ls at hl ⊢
  have hl : lv_has ls 3 [(0, .ref aS), (1, .int p0), (2, .ref aT)] := hl
  rw [f_S_openVariables] at hf
  refine lv_aload_n hx hb d_S_openVariables_0 rfl (lv_at hl 0 rfl) ?_
  refine lv_iload_n hx hb d_S_openVariables_1 rfl (lv_at hl 1 rfl) ?_
  refine lv_aload_n hx hb d_S_openVariables_2 rfl (lv_at hl 2 rfl) ?_
  obtain ⟨r1, hr1, hf⟩ := of_bd hf
  refine rd_call (va_runV (As := [.int p0, .ref aT]) (rest := []) ⟨hx, hb, hml, hown, hts⟩ (c_S_withinPremises l D cI cJ cZ aT aT_heads aT_places aT_olders aT_sizes aT_withins aT_newest aS aS_premises aS_premiseCounts aS_conclusions aS_order T_count nT_withins T_withins S_count S_premises S_premiseCounts p0 r1 hr1) (bigV 2 hts k3_132 k3_134 ks_S_withinPremises k1_4 k3_135 rfl rfl hd_S_withinPremises ⟨Nat.le_of_ble_eq_true rfl, Nat.le_of_ble_eq_true rfl⟩) (rd_preV hK hP [0, 1, 2, 3, 4] rfl 2 rfl rfl rfl) rfl rfl hl.1 rfl (lv_room (Nat.le_of_ble_eq_true rfl)) d_S_openVariables_3 ⟨Nat.le_of_ble_eq_true rfl, Nat.le_of_ble_eq_true rfl⟩) ?_
  refine lv_aload_n hx hb d_S_openVariables_6 rfl (lv_at hl 2 rfl) ?_
  refine lv_aload_n hx hb d_S_openVariables_7 rfl (lv_at hl 0 rfl) ?_
  refine lv_iload_n hx hb d_S_openVariables_8 rfl (lv_at hl 1 rfl) ?_
  obtain ⟨r2, hr2, hf⟩ := of_bd hf
  refine rd_call (va_runV (As := [.int p0]) (rest := [.ref aT, .long r1]) ⟨hx, hb, hml, hown, hts⟩ (c_S_conclusion l D cI cJ cZ aS aS_premises aS_premiseCounts aS_conclusions aS_order S_count S_conclusions p0 r2 hr2) (bigV 1 hts k3_138 k2_101 k2_102 k1_4 k2_103 rfl rfl hd_S_conclusion ⟨Nat.le_of_ble_eq_true rfl, Nat.le_of_ble_eq_true rfl⟩) (rd_preV hK hP [2, 5] rfl 2 rfl rfl rfl) rfl rfl hl.1 rfl (lv_room (Nat.le_of_ble_eq_true rfl)) d_S_openVariables_9 ⟨Nat.le_of_ble_eq_true rfl, Nat.le_of_ble_eq_true rfl⟩) ?_
  obtain ⟨r3, hr3, hf⟩ := of_bd hf
  refine rd_call (va_runV (As := [.int r2]) (rest := [.long r1]) ⟨hx, hb, hml, hown, hts⟩ (c_T_within l D cI cJ cZ aT aT_heads aT_places aT_olders aT_sizes aT_withins aT_newest T_count nT_withins T_withins r2 r3 hr3) (bigV 1 hts k3_137 k3_9 k3_10 k1_2 k3_11 rfl rfl hd_T_within ⟨Nat.le_of_ble_eq_true rfl, Nat.le_of_ble_eq_true rfl⟩) (rd_preV hK hP [0, 1] rfl 0 rfl rfl rfl) rfl rfl hl.1 rfl (lv_room (Nat.le_of_ble_eq_true rfl)) d_S_openVariables_12 ⟨Nat.le_of_ble_eq_true rfl, Nat.le_of_ble_eq_true rfl⟩) ?_
  refine lv_ldc2 (v := -1) hx hb hown (hts _ k3_139) d_S_openVariables_15 ?_
  refine lv_lxor hx hb d_S_openVariables_18 ?_
  refine lv_land hx hb d_S_openVariables_19 ?_
  refine lv_ldc2 (v := 273804165120) hx hb hown (hts _ k3_140) d_S_openVariables_20 ?_
  refine lv_land hx hb d_S_openVariables_23 ?_
  obtain ⟨r4, hr4, hf⟩ := of_bd hf
  refine rd_call (va_runS (As := [.long ((r1 &&& (r3 ^^^ (-1 : Int64))) &&& (273804165120 : Int64))]) (rest := []) ⟨hx, hb, hml, hown, hts⟩ (c_JL_bitCount l D cI cJ cZ ((r1 &&& (r3 ^^^ (-1 : Int64))) &&& (273804165120 : Int64)) r4 hr4) (bigS 1 hts k3_141 k3_142 k1_17 k3_143 rfl rfl hd_JL_bitCount ⟨Nat.le_of_ble_eq_true rfl, Nat.le_of_ble_eq_true rfl⟩) (rd_preS hK hP [] rfl) rfl rfl hl.1 rfl (lv_room (Nat.le_of_ble_eq_true rfl)) d_S_openVariables_24 ⟨Nat.le_of_ble_eq_true rfl, Nat.le_of_ble_eq_true rfl⟩) ?_
  obtain rfl := Option.some.inj hf
  exact W.iret (v := r4) hx hb hr (fun t ht hW => ⟨rfl, ht⟩) (fun q h => by cases h) d_S_openVariables_27
def f_S_putInOrder_L11 (S_count : Int32) (S_premiseCounts : (Nat → Int32)) (K4 : (Nat → Int32) → Int32 → Int32 → Option ((Nat → Int32))) : Nat → (Nat → Int32) → Int32 → Int32 → Int32 → Option ((Nat → Int32))
  | 0, _, _, _, _ => none
  | n + 1, S_order_11, x1_11, x2_11, x3_11 =>
    if S_count ≤ x3_11 then
      nm (x2_11 + (1 : Int32)) fun x3 =>
      K4 S_order_11 x1_11 x3
    else
      gd (ixb x3_11 30) <|
      if (S_premiseCounts x3_11.toNatClampNeg) = x2_11 then
        if (30 : Int32) ≤ x1_11 then
          nm (x3_11 + (1 : Int32)) fun x8 =>
          (f_S_putInOrder_L11 S_count S_premiseCounts K4 n) S_order_11 x1_11 x2_11 x8
        else
          gd (ixb x1_11 30) <| nm (upd S_order_11 x1_11.toNatClampNeg x3_11) fun g10 =>
          nm (x1_11 + (1 : Int32)) fun x11 =>
          nm (x3_11 + (1 : Int32)) fun x12 =>
          (f_S_putInOrder_L11 S_count S_premiseCounts K4 n) g10 x11 x2_11 x12
      else
        nm (x3_11 + (1 : Int32)) fun x6 =>
        (f_S_putInOrder_L11 S_count S_premiseCounts K4 n) S_order_11 x1_11 x2_11 x6
def f_S_putInOrder_L4 (S_count : Int32) (S_premiseCounts : (Nat → Int32)) : Nat → (Nat → Int32) → Int32 → Int32 → Option ((Nat → Int32))
  | 0, _, _, _ => none
  | n + 1, S_order_4, x1_4, x2_4 =>
    if (4 : Int32) < x2_4 then
      some S_order_4
    else
      f_S_putInOrder_L11 S_count S_premiseCounts (f_S_putInOrder_L4 S_count S_premiseCounts n) FU S_order_4 x1_4 x2_4 (0 : Int32)
def f_S_putInOrder (S_count : Int32) (S_premiseCounts : (Nat → Int32)) (S_order : (Nat → Int32)) : Option ((Nat → Int32)) :=
  f_S_putInOrder_L4 S_count S_premiseCounts FU S_order (0 : Int32) (0 : Int32)
abbrev rm_S_putInOrder : Room := { frames := 0, cells := 0, slots := 0, locals := 0 }
set_option maxHeartbeats 4000000 in
set_option maxRecDepth 100000 in
theorem c_S_putInOrder (l : Launch) (D : va_G) (cI cJ cZ : ClassId) (aS aS_premises aS_premiseCounts aS_conclusions aS_order : Nat) (sz : Nat) (S_count : Int32) (S_premiseCounts : (Nat → Int32)) (S_order : (Nat → Int32)) (o : (Nat → Int32)) (hf : f_S_putInOrder S_count S_premiseCounts S_order = some o) : Met l y_S_putInOrder (ws_S_putInOrder) rm_S_putInOrder (WPc D vwCl cI cJ cZ [.ref aS] (wv_16 cI cJ cZ aS aS_premises aS_premiseCounts aS_conclusions aS_order S_count S_premiseCounts S_order) sz) (WQ D vwCl none (wv_16 cI cJ cZ aS aS_premises aS_premiseCounts aS_conclusions aS_order S_count S_premiseCounts o) (va_A (wv_16 cI cJ cZ aS aS_premises aS_premiseCounts aS_conclusions aS_order S_count S_premiseCounts S_order) sz)) 0 0 (va_A (wv_16 cI cJ cZ aS aS_premises aS_premiseCounts aS_conclusions aS_order S_count S_premiseCounts S_order) sz) := by
  refine Met.ofW (cc := b_S_putInOrder) (maxL := 4) (ret := none) (by decide) rfl ?_
  intro p e s m args below meth c s₁ B hml hv
  obtain ⟨rfl, rfl, hP, hK, hD0⟩ := hv
  have hx := B.exec
  have hb := B.bytes
  have hr := B.returns
  have hts : ∀ w ∈ BG, w.before _ s = true := fun w h => atoms_spec (ws := (ws_S_putInOrder)) B.pre w (List.mem_cons_of_mem _ h)
  have hown : s.vm.findClass RR_S = some m.cls := findClass_of_methodNamed B.named
  have hlocks := B.notSynchronized
  have hD := hD0.self (sz := s.heap.size)
  have hA : ∀ q : Nat, s.heap.size ≤ q → va_A (wv_16 cI cJ cZ aS aS_premises aS_premiseCounts aS_conclusions aS_order S_count S_premiseCounts S_order) s.heap.size q := fun q h => Or.inr h
  have hS : va_S (va_A (wv_16 cI cJ cZ aS aS_premises aS_premiseCounts aS_conclusions aS_order S_count S_premiseCounts S_order) s.heap.size) s.heap s.heap [] := va_S.rf
  generalize va_A (wv_16 cI cJ cZ aS aS_premises aS_premiseCounts aS_conclusions aS_order S_count S_premiseCounts S_order) s.heap.size = A at hD hA hS ⊢
  have hl := lv_entry ([.ref aS]) (n := 4) (Nat.le_of_ble_eq_true rfl)
  rw [lg_entry_eq]
  generalize (lg_sl ([.ref aS]) ++ List.replicate (4 - (lg_sl ([.ref aS])).length) Slot.unset).toArray = ls at hl ⊢
  have hl : lv_has ls 4 [(0, .ref aS)] := hl
  have hL4 : ∀ (n4 : Nat), ∀ (S_order_4 : (Nat → Int32)) (x1_4 : Int32) (x2_4 : Int32), ∀ (H : Heap) (locs : List Loc), va_P D vwCl (wv_16 cI cJ cZ aS aS_premises aS_premiseCounts aS_conclusions aS_order S_count S_premiseCounts S_order_4) H → va_D A (wv_16 cI cJ cZ aS aS_premises aS_premiseCounts aS_conclusions aS_order S_count S_premiseCounts S_order_4) → va_S A s.heap H locs → ∀ (ls : Array Slot), lv_has ls 4 [(0, .ref aS), (1, .int x1_4), (2, .int x2_4)] → f_S_putInOrder_L4 S_count S_premiseCounts n4 S_order_4 x1_4 x2_4 = some o → W p l e (headSpec (ws_S_putInOrder) rm_S_putInOrder).room s m ([.ref aS] : List Value).toArray below meth c H locs 0 0 (MQ below (WQ D vwCl none (wv_16 cI cJ cZ aS aS_premises aS_premiseCounts aS_conclusions aS_order S_count S_premiseCounts o) A) ([.ref aS] : List Value).toArray s 0 0 A) (F0 m 4 ls []) := by
    intro n4
    induction n4 with
    | zero =>
      intro S_order_4 x1_4 x2_4 H locs hP hD hS ls hl hf
      rw [f_S_putInOrder_L4] at hf
      cases hf
    | succ n4 ih4 =>
      have hL11 : ∀ (n11 : Nat), ∀ (S_order_11 : (Nat → Int32)) (x1_11 : Int32) (x2_11 : Int32) (x3_11 : Int32), ∀ (H : Heap) (locs : List Loc), va_P D vwCl (wv_16 cI cJ cZ aS aS_premises aS_premiseCounts aS_conclusions aS_order S_count S_premiseCounts S_order_11) H → va_D A (wv_16 cI cJ cZ aS aS_premises aS_premiseCounts aS_conclusions aS_order S_count S_premiseCounts S_order_11) → va_S A s.heap H locs → ∀ (ls : Array Slot), lv_has ls 4 [(0, .ref aS), (1, .int x1_11), (2, .int x2_11), (3, .int x3_11)] → f_S_putInOrder_L11 S_count S_premiseCounts (f_S_putInOrder_L4 S_count S_premiseCounts n4) n11 S_order_11 x1_11 x2_11 x3_11 = some o → W p l e (headSpec (ws_S_putInOrder) rm_S_putInOrder).room s m ([.ref aS] : List Value).toArray below meth c H locs 0 0 (MQ below (WQ D vwCl none (wv_16 cI cJ cZ aS aS_premises aS_premiseCounts aS_conclusions aS_order S_count S_premiseCounts o) A) ([.ref aS] : List Value).toArray s 0 0 A) (F0 m 11 ls []) := by
        intro n11
        induction n11 with
        | zero =>
          intro S_order_11 x1_11 x2_11 x3_11 H locs hP hD hS ls hl hf
          rw [f_S_putInOrder_L11] at hf
          cases hf
        | succ n11 ih11 =>
          intro S_order_11 x1_11 x2_11 x3_11 H locs hP hD hS ls hl hf
          rw [f_S_putInOrder_L11] at hf
          refine lv_iload_n hx hb d_S_putInOrder_11 rfl (lv_at hl 3 rfl) ?_
          refine lv_aload_n hx hb d_S_putInOrder_12 rfl (lv_at hl 0 rfl) ?_
          refine va_get (D := D) (ci := 2) (v := .int S_count) (C := RR_S) (T := FF_S) (N := 5) hx hb hts kin_S hown hK.1 hP 0 rfl rfl 4 (by decide) (hts _ k1_72) (fun _ h9 => h9) rfl d_S_putInOrder_13 ?_
          refine lv_icmp_ge (tgt := 51) hx hb d_S_putInOrder_16 (by decide) (fun c2 => ?_) (fun c2 => ?_)
          · have hf := ite_t c2 hf
            obtain ⟨x3, ex3⟩ : ∃ y : Int32, y = x2_11 + (1 : Int32) := ⟨_, rfl⟩
            refine lv_iinc (v := x3) (lv' := [(2, .int x3), (0, .ref aS), (1, .int x1_11), (3, .int x3_11)]) hx hb d_S_putInOrder_51 hl (k := 2) rfl (by rw [ex3]; rfl) (by decide) rfl (fun ls hl => ?_)
            have hf := of_nm ex3 hf
            refine lv_goto (tgt := 4) hx hb d_S_putInOrder_54 (by decide) ?_
            exact ih4 _ _ _ _ _ hP hD hS _ (lv_sub hl [1, 2, 0] rfl) hf
          · have hf := ite_f c2 hf
            refine lv_aload_n hx hb d_S_putInOrder_19 rfl (lv_at hl 0 rfl) ?_
            refine va_get (D := D) (ci := 2) (v := .ref aS_premiseCounts) (C := RR_S) (T := FF_S) (N := 5) hx hb hts kin_S hown hK.1 hP 0 rfl rfl 1 (by decide) (hts _ k1_69) (fun _ h9 => h9) rfl d_S_putInOrder_20 ?_
            refine lv_iload_n hx hb d_S_putInOrder_23 rfl (lv_at hl 3 rfl) ?_
            obtain ⟨h4, hf⟩ := of_gd hf
            refine va_iald hx hb hK.1 hP 1 0 rfl rfl (ixb_in h4) d_S_putInOrder_24 ?_
            refine lv_iload_n hx hb d_S_putInOrder_25 rfl (lv_at hl 2 rfl) ?_
            refine lv_icmp_ne (tgt := 45) hx hb d_S_putInOrder_26 (by decide) (fun c5 => ?_) (fun c5 => ?_)
            · have hf := ite_f c5 hf
              obtain ⟨x6, ex6⟩ : ∃ y : Int32, y = x3_11 + (1 : Int32) := ⟨_, rfl⟩
              refine lv_iinc (v := x6) (lv' := [(3, .int x6), (0, .ref aS), (1, .int x1_11), (2, .int x2_11)]) hx hb d_S_putInOrder_45 hl (k := 3) rfl (by rw [ex6]; rfl) (by decide) rfl (fun ls hl => ?_)
              have hf := of_nm ex6 hf
              refine lv_goto (tgt := 11) hx hb d_S_putInOrder_48 (by decide) ?_
              exact ih11 _ _ _ _ _ _ hP hD hS _ (lv_sub hl [1, 2, 3, 0] rfl) hf
            · have hf := ite_t c5 hf
              refine lv_iload_n hx hb d_S_putInOrder_29 rfl (lv_at hl 1 rfl) ?_
              refine lv_bipush (v := 30) hx hb d_S_putInOrder_30 (by decide) ?_
              refine lv_icmp_ge (tgt := 45) hx hb d_S_putInOrder_32 (by decide) (fun c7 => ?_) (fun c7 => ?_)
              · have hf := ite_t c7 hf
                obtain ⟨x8, ex8⟩ : ∃ y : Int32, y = x3_11 + (1 : Int32) := ⟨_, rfl⟩
                refine lv_iinc (v := x8) (lv' := [(3, .int x8), (0, .ref aS), (1, .int x1_11), (2, .int x2_11)]) hx hb d_S_putInOrder_45 hl (k := 3) rfl (by rw [ex8]; rfl) (by decide) rfl (fun ls hl => ?_)
                have hf := of_nm ex8 hf
                refine lv_goto (tgt := 11) hx hb d_S_putInOrder_48 (by decide) ?_
                exact ih11 _ _ _ _ _ _ hP hD hS _ (lv_sub hl [1, 2, 3, 0] rfl) hf
              · have hf := ite_f c7 hf
                refine lv_aload_n hx hb d_S_putInOrder_35 rfl (lv_at hl 0 rfl) ?_
                refine va_get (D := D) (ci := 2) (v := .ref aS_order) (C := RR_S) (T := FF_S) (N := 5) hx hb hts kin_S hown hK.1 hP 0 rfl rfl 3 (by decide) (hts _ k1_71) (fun _ h9 => h9) rfl d_S_putInOrder_36 ?_
                refine lv_iload_n hx hb d_S_putInOrder_39 rfl (lv_at hl 1 rfl) ?_
                refine lv_iload_n hx hb d_S_putInOrder_40 rfl (lv_at hl 3 rfl) ?_
                obtain ⟨h9, hf⟩ := of_gd hf
                obtain ⟨g10, eg10⟩ : ∃ y : Nat → Int32, y = upd S_order_11 x1_11.toNatClampNeg x3_11 := ⟨_, rfl⟩
                have hf := of_nm eg10 hf
                refine va_iast hx hb hK.1 hP hD hS 2 0 rfl rfl (ixb_in h9) d_S_putInOrder_41 (fun H locs hP hD hS => ?_)
                rw [← eg10] at hP hD
                have hP : va_P D vwCl (wv_16 cI cJ cZ aS aS_premises aS_premiseCounts aS_conclusions aS_order S_count S_premiseCounts g10) H := hP
                have hD : va_D A (wv_16 cI cJ cZ aS aS_premises aS_premiseCounts aS_conclusions aS_order S_count S_premiseCounts g10) := hD
                obtain ⟨x11, ex11⟩ : ∃ y : Int32, y = x1_11 + (1 : Int32) := ⟨_, rfl⟩
                refine lv_iinc (v := x11) (lv' := [(1, .int x11), (0, .ref aS), (2, .int x2_11), (3, .int x3_11)]) hx hb d_S_putInOrder_42 hl (k := 1) rfl (by rw [ex11]; rfl) (by decide) rfl (fun ls hl => ?_)
                have hf := of_nm ex11 hf
                obtain ⟨x12, ex12⟩ : ∃ y : Int32, y = x3_11 + (1 : Int32) := ⟨_, rfl⟩
                refine lv_iinc (v := x12) (lv' := [(3, .int x12), (1, .int x11), (0, .ref aS), (2, .int x2_11)]) hx hb d_S_putInOrder_45 hl (k := 3) rfl (by rw [ex12]; rfl) (by decide) rfl (fun ls hl => ?_)
                have hf := of_nm ex12 hf
                refine lv_goto (tgt := 11) hx hb d_S_putInOrder_48 (by decide) ?_
                exact ih11 _ _ _ _ _ _ hP hD hS _ (lv_sub hl [2, 1, 3, 0] rfl) hf
      intro S_order_4 x1_4 x2_4 H locs hP hD hS ls hl hf
      rw [f_S_putInOrder_L4] at hf
      refine lv_iload_n hx hb d_S_putInOrder_4 rfl (lv_at hl 2 rfl) ?_
      refine lv_iconst (v := 4) hx hb d_S_putInOrder_5 (by decide) ?_
      refine lv_icmp_gt (tgt := 57) hx hb d_S_putInOrder_6 (by decide) (fun c1 => ?_) (fun c1 => ?_)
      · have hf := ite_t c1 hf
        obtain rfl := Option.some.inj hf
        exact W.vret hx hb hr (fun t ht hW => ⟨rfl, by rw [ht]; exact hP, hD, hS.F ht⟩) hS.2.2 d_S_putInOrder_57
      · have hf := ite_f c1 hf
        refine lv_iconst (v := 0) hx hb d_S_putInOrder_9 (by decide) ?_
        refine lv_istore_n (lv' := [(3, .int (0 : Int32)), (0, .ref aS), (1, .int x1_4), (2, .int x2_4)]) hx hb d_S_putInOrder_10 rfl hl (by decide) rfl (fun ls hl => ?_)
        exact hL11 FU _ _ _ _ _ _ hP hD hS _ (lv_sub hl [1, 2, 3, 0] rfl) hf
  rw [f_S_putInOrder] at hf
  refine lv_iconst (v := 0) hx hb d_S_putInOrder_0 (by decide) ?_
  refine lv_istore_n (lv' := [(1, .int (0 : Int32)), (0, .ref aS)]) hx hb d_S_putInOrder_1 rfl hl (by decide) rfl (fun ls hl => ?_)
  refine lv_iconst (v := 0) hx hb d_S_putInOrder_2 (by decide) ?_
  refine lv_istore_n (lv' := [(2, .int (0 : Int32)), (1, .int (0 : Int32)), (0, .ref aS)]) hx hb d_S_putInOrder_3 rfl hl (by decide) rfl (fun ls hl => ?_)
  exact hL4 FU _ _ _ _ _ hP hD hS _ (lv_sub hl [2, 1, 0] rfl) hf
def f_S_ordered (S_count : Int32) (S_order : (Nat → Int32)) (p0 : Int32) : Option (Int32) :=
  if p0 < 0 then
    some (-1 : Int32)
  else
    if S_count ≤ p0 then
      some (-1 : Int32)
    else
      gd (ixb p0 30) <|
      some (S_order p0.toNatClampNeg)
abbrev rm_S_ordered : Room := { frames := 0, cells := 0, slots := 0, locals := 0 }
set_option maxHeartbeats 4000000 in
set_option maxRecDepth 100000 in
theorem c_S_ordered (l : Launch) (D : va_G) (cI cJ cZ : ClassId) (aS aS_premises aS_premiseCounts aS_conclusions aS_order : Nat) (S_count : Int32) (S_order : (Nat → Int32)) (p0 : Int32) (o : Int32) (hf : f_S_ordered S_count S_order p0 = some o) : Met l y_S_ordered (ws_S_ordered) rm_S_ordered (RPc D vwCl cI cJ cZ [.ref aS, .int p0] (wv_17 cI cJ cZ aS aS_premises aS_premiseCounts aS_conclusions aS_order S_count S_order)) (RQ (some (.int o))) 0 0 (fun _ => False) := by
  refine Met.ofW (cc := b_S_ordered) (maxL := 2) (ret := (some .int)) (by decide) rfl ?_
  intro p e s m args below meth c s₁ B hml hv
  obtain ⟨rfl, hP, hK⟩ := hv
  have hx := B.exec
  have hb := B.bytes
  have hr := B.returns
  have hts : ∀ w ∈ BG, w.before _ s = true := fun w h => atoms_spec (ws := (ws_S_ordered)) B.pre w (List.mem_cons_of_mem _ h)
  have hown : s.vm.findClass RR_S = some m.cls := findClass_of_methodNamed B.named
  have hlocks := B.notSynchronized
  have hl := lv_entry ([.ref aS, .int p0]) (n := 2) (Nat.le_of_ble_eq_true rfl)
  rw [lg_entry_eq]
  generalize (lg_sl ([.ref aS, .int p0]) ++ List.replicate (2 - (lg_sl ([.ref aS, .int p0])).length) Slot.unset).toArray = ls at hl ⊢
  have hl : lv_has ls 2 [(0, .ref aS), (1, .int p0)] := hl
  rw [f_S_ordered] at hf
  refine lv_iload_n hx hb d_S_ordered_0 rfl (lv_at hl 1 rfl) ?_
  refine lv_if_lt (tgt := 21) hx hb d_S_ordered_1 (by decide) (fun c1 => ?_) (fun c1 => ?_)
  · have hf := ite_t c1 hf
    refine lv_iconst (v := -1) hx hb d_S_ordered_21 (by decide) ?_
    obtain rfl := Option.some.inj hf
    exact W.iret (v := (-1 : Int32)) hx hb hr (fun t ht hW => ⟨rfl, ht⟩) (fun q h => by cases h) d_S_ordered_22
  · have hf := ite_f c1 hf
    refine lv_iload_n hx hb d_S_ordered_4 rfl (lv_at hl 1 rfl) ?_
    refine lv_aload_n hx hb d_S_ordered_5 rfl (lv_at hl 0 rfl) ?_
    refine va_get (D := D) (ci := 2) (v := .int S_count) (C := RR_S) (T := FF_S) (N := 5) hx hb hts kin_S hown hK.1 hP 0 rfl rfl 4 (by decide) (hts _ k1_72) (fun _ h9 => h9) rfl d_S_ordered_6 ?_
    refine lv_icmp_ge (tgt := 21) hx hb d_S_ordered_9 (by decide) (fun c2 => ?_) (fun c2 => ?_)
    · have hf := ite_t c2 hf
      refine lv_iconst (v := -1) hx hb d_S_ordered_21 (by decide) ?_
      obtain rfl := Option.some.inj hf
      exact W.iret (v := (-1 : Int32)) hx hb hr (fun t ht hW => ⟨rfl, ht⟩) (fun q h => by cases h) d_S_ordered_22
    · have hf := ite_f c2 hf
      refine lv_aload_n hx hb d_S_ordered_12 rfl (lv_at hl 0 rfl) ?_
      refine va_get (D := D) (ci := 2) (v := .ref aS_order) (C := RR_S) (T := FF_S) (N := 5) hx hb hts kin_S hown hK.1 hP 0 rfl rfl 3 (by decide) (hts _ k1_71) (fun _ h9 => h9) rfl d_S_ordered_13 ?_
      refine lv_iload_n hx hb d_S_ordered_16 rfl (lv_at hl 1 rfl) ?_
      obtain ⟨h3, hf⟩ := of_gd hf
      refine va_iald hx hb hK.1 hP 1 0 rfl rfl (ixb_in h3) d_S_ordered_17 ?_
      refine lv_goto (tgt := 22) hx hb d_S_ordered_18 (by decide) ?_
      obtain rfl := Option.some.inj hf
      exact W.iret (v := S_order p0.toNatClampNeg) hx hb hr (fun t ht hW => ⟨rfl, ht⟩) (fun q h => by cases h) d_S_ordered_22
