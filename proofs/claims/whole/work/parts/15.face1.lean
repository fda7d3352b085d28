abbrev b_X_leading : ByteArray := prog_1_method_16_code
abbrev y_X_leading : MethodName := ⟨"ShapeSearch", "leading", "(IIII)I"⟩
abbrev ws_X_leading : List Cond := .code y_X_leading b_X_leading 4 (some .int) :: BG
theorem hd_X_leading : y_X_leading.cls ≠ "java/lang/invoke/MethodHandle" ∧ y_X_leading.cls ≠ "java/lang/invoke/VarHandle" ∧ (parseMethodDescriptor y_X_leading.desc).map (fun d => d.parameters.length) = some 4 := by decide +kernel
theorem d_X_leading_0 : decode b_X_leading 0 = .ok (.iload_n 0, 1) := by decide +kernel
theorem d_X_leading_1 : decode b_X_leading 1 = .ok (.iconst (-1), 1) := by decide +kernel
theorem d_X_leading_2 : decode b_X_leading 2 = .ok (.if_icmp .ne 5, 3) := by decide +kernel
theorem d_X_leading_5 : decode b_X_leading 5 = .ok (.iconst 0, 1) := by decide +kernel
theorem d_X_leading_6 : decode b_X_leading 6 = .ok (.ireturn, 1) := by decide +kernel
theorem d_X_leading_7 : decode b_X_leading 7 = .ok (.iload_n 1, 1) := by decide +kernel
theorem d_X_leading_8 : decode b_X_leading 8 = .ok (.iconst (-1), 1) := by decide +kernel
theorem d_X_leading_9 : decode b_X_leading 9 = .ok (.if_icmp .ne 5, 3) := by decide +kernel
theorem d_X_leading_12 : decode b_X_leading 12 = .ok (.iconst 1, 1) := by decide +kernel
theorem d_X_leading_13 : decode b_X_leading 13 = .ok (.ireturn, 1) := by decide +kernel
theorem d_X_leading_14 : decode b_X_leading 14 = .ok (.iload_n 2, 1) := by decide +kernel
theorem d_X_leading_15 : decode b_X_leading 15 = .ok (.iconst (-1), 1) := by decide +kernel
theorem d_X_leading_16 : decode b_X_leading 16 = .ok (.if_icmp .ne 5, 3) := by decide +kernel
theorem d_X_leading_19 : decode b_X_leading 19 = .ok (.iconst 2, 1) := by decide +kernel
theorem d_X_leading_20 : decode b_X_leading 20 = .ok (.ireturn, 1) := by decide +kernel
theorem d_X_leading_21 : decode b_X_leading 21 = .ok (.iload_n 3, 1) := by decide +kernel
theorem d_X_leading_22 : decode b_X_leading 22 = .ok (.iconst (-1), 1) := by decide +kernel
theorem d_X_leading_23 : decode b_X_leading 23 = .ok (.if_icmp .ne 7, 3) := by decide +kernel
theorem d_X_leading_26 : decode b_X_leading 26 = .ok (.iconst 3, 1) := by decide +kernel
theorem d_X_leading_27 : decode b_X_leading 27 = .ok (.goto 4, 3) := by decide +kernel
theorem d_X_leading_30 : decode b_X_leading 30 = .ok (.iconst 4, 1) := by decide +kernel
theorem d_X_leading_31 : decode b_X_leading 31 = .ok (.ireturn, 1) := by decide +kernel
abbrev b_X_areTerms : ByteArray := prog_1_method_17_code
abbrev y_X_areTerms : MethodName := ⟨"ShapeSearch", "areTerms", "(IIIII)Z"⟩
abbrev ws_X_areTerms : List Cond := .code y_X_areTerms b_X_areTerms 6 (some .boolean) :: BG
theorem hd_X_areTerms : y_X_areTerms.cls ≠ "java/lang/invoke/MethodHandle" ∧ y_X_areTerms.cls ≠ "java/lang/invoke/VarHandle" ∧ (parseMethodDescriptor y_X_areTerms.desc).map (fun d => d.parameters.length) = some 5 := by decide +kernel
theorem d_X_areTerms_0 : decode b_X_areTerms 0 = .ok (.iload_n 1, 1) := by decide +kernel
theorem d_X_areTerms_1 : decode b_X_areTerms 1 = .ok (.iconst 1, 1) := by decide +kernel
theorem d_X_areTerms_2 : decode b_X_areTerms 2 = .ok (.if_icmp .lt 14, 3) := by decide +kernel
theorem d_X_areTerms_5 : decode b_X_areTerms 5 = .ok (.aload_n 0, 1) := by decide +kernel
theorem d_X_areTerms_6 : decode b_X_areTerms 6 = .ok (.getfield 12, 3) := by decide +kernel
theorem d_X_areTerms_9 : decode b_X_areTerms 9 = .ok (.iload_n 2, 1) := by decide +kernel
theorem d_X_areTerms_10 : decode b_X_areTerms 10 = .ok (.invokevirtual 102, 3) := by decide +kernel
theorem d_X_areTerms_13 : decode b_X_areTerms 13 = .ok (.ifCond .eq 57, 3) := by decide +kernel
theorem d_X_areTerms_16 : decode b_X_areTerms 16 = .ok (.iload_n 1, 1) := by decide +kernel
theorem d_X_areTerms_17 : decode b_X_areTerms 17 = .ok (.iconst 2, 1) := by decide +kernel
theorem d_X_areTerms_18 : decode b_X_areTerms 18 = .ok (.if_icmp .lt 14, 3) := by decide +kernel
theorem d_X_areTerms_21 : decode b_X_areTerms 21 = .ok (.aload_n 0, 1) := by decide +kernel
theorem d_X_areTerms_22 : decode b_X_areTerms 22 = .ok (.getfield 12, 3) := by decide +kernel
theorem d_X_areTerms_25 : decode b_X_areTerms 25 = .ok (.iload_n 3, 1) := by decide +kernel
theorem d_X_areTerms_26 : decode b_X_areTerms 26 = .ok (.invokevirtual 102, 3) := by decide +kernel
theorem d_X_areTerms_29 : decode b_X_areTerms 29 = .ok (.ifCond .eq 41, 3) := by decide +kernel
theorem d_X_areTerms_32 : decode b_X_areTerms 32 = .ok (.iload_n 1, 1) := by decide +kernel
theorem d_X_areTerms_33 : decode b_X_areTerms 33 = .ok (.iconst 3, 1) := by decide +kernel
theorem d_X_areTerms_34 : decode b_X_areTerms 34 = .ok (.if_icmp .lt 15, 3) := by decide +kernel
theorem d_X_areTerms_37 : decode b_X_areTerms 37 = .ok (.aload_n 0, 1) := by decide +kernel
theorem d_X_areTerms_38 : decode b_X_areTerms 38 = .ok (.getfield 12, 3) := by decide +kernel
theorem d_X_areTerms_41 : decode b_X_areTerms 41 = .ok (.iload 4, 2) := by decide +kernel
theorem d_X_areTerms_43 : decode b_X_areTerms 43 = .ok (.invokevirtual 102, 3) := by decide +kernel
theorem d_X_areTerms_46 : decode b_X_areTerms 46 = .ok (.ifCond .eq 24, 3) := by decide +kernel
theorem d_X_areTerms_49 : decode b_X_areTerms 49 = .ok (.iload_n 1, 1) := by decide +kernel
theorem d_X_areTerms_50 : decode b_X_areTerms 50 = .ok (.iconst 4, 1) := by decide +kernel
theorem d_X_areTerms_51 : decode b_X_areTerms 51 = .ok (.if_icmp .lt 15, 3) := by decide +kernel
theorem d_X_areTerms_54 : decode b_X_areTerms 54 = .ok (.aload_n 0, 1) := by decide +kernel
theorem d_X_areTerms_55 : decode b_X_areTerms 55 = .ok (.getfield 12, 3) := by decide +kernel
theorem d_X_areTerms_58 : decode b_X_areTerms 58 = .ok (.iload 5, 2) := by decide +kernel
theorem d_X_areTerms_60 : decode b_X_areTerms 60 = .ok (.invokevirtual 102, 3) := by decide +kernel
theorem d_X_areTerms_63 : decode b_X_areTerms 63 = .ok (.ifCond .eq 7, 3) := by decide +kernel
theorem d_X_areTerms_66 : decode b_X_areTerms 66 = .ok (.iconst 1, 1) := by decide +kernel
theorem d_X_areTerms_67 : decode b_X_areTerms 67 = .ok (.goto 4, 3) := by decide +kernel
theorem d_X_areTerms_70 : decode b_X_areTerms 70 = .ok (.iconst 0, 1) := by decide +kernel
theorem d_X_areTerms_71 : decode b_X_areTerms 71 = .ok (.ireturn, 1) := by decide +kernel
abbrev b_X_holeStandsIn : ByteArray := prog_1_method_18_code
abbrev y_X_holeStandsIn : MethodName := ⟨"ShapeSearch", "holeStandsIn", "(IIIII)Z"⟩
abbrev ws_X_holeStandsIn : List Cond := .code y_X_holeStandsIn b_X_holeStandsIn 6 (some .boolean) :: BG
theorem hd_X_holeStandsIn : y_X_holeStandsIn.cls ≠ "java/lang/invoke/MethodHandle" ∧ y_X_holeStandsIn.cls ≠ "java/lang/invoke/VarHandle" ∧ (parseMethodDescriptor y_X_holeStandsIn.desc).map (fun d => d.parameters.length) = some 5 := by decide +kernel
theorem d_X_holeStandsIn_0 : decode b_X_holeStandsIn 0 = .ok (.iload_n 1, 1) := by decide +kernel
theorem d_X_holeStandsIn_1 : decode b_X_holeStandsIn 1 = .ok (.ifCond .le 17, 3) := by decide +kernel
theorem d_X_holeStandsIn_4 : decode b_X_holeStandsIn 4 = .ok (.aload_n 0, 1) := by decide +kernel
theorem d_X_holeStandsIn_5 : decode b_X_holeStandsIn 5 = .ok (.getfield 12, 3) := by decide +kernel
theorem d_X_holeStandsIn_8 : decode b_X_holeStandsIn 8 = .ok (.iload_n 2, 1) := by decide +kernel
theorem d_X_holeStandsIn_9 : decode b_X_holeStandsIn 9 = .ok (.ldc2_w 122, 3) := by decide +kernel
theorem d_X_holeStandsIn_12 : decode b_X_holeStandsIn 12 = .ok (.invokevirtual 124, 3) := by decide +kernel
theorem d_X_holeStandsIn_15 : decode b_X_holeStandsIn 15 = .ok (.ifCond .ne 62, 3) := by decide +kernel
theorem d_X_holeStandsIn_18 : decode b_X_holeStandsIn 18 = .ok (.iload_n 1, 1) := by decide +kernel
theorem d_X_holeStandsIn_19 : decode b_X_holeStandsIn 19 = .ok (.iconst 1, 1) := by decide +kernel
theorem d_X_holeStandsIn_20 : decode b_X_holeStandsIn 20 = .ok (.if_icmp .le 17, 3) := by decide +kernel
theorem d_X_holeStandsIn_23 : decode b_X_holeStandsIn 23 = .ok (.aload_n 0, 1) := by decide +kernel
theorem d_X_holeStandsIn_24 : decode b_X_holeStandsIn 24 = .ok (.getfield 12, 3) := by decide +kernel
theorem d_X_holeStandsIn_27 : decode b_X_holeStandsIn 27 = .ok (.iload_n 3, 1) := by decide +kernel
theorem d_X_holeStandsIn_28 : decode b_X_holeStandsIn 28 = .ok (.ldc2_w 122, 3) := by decide +kernel
theorem d_X_holeStandsIn_31 : decode b_X_holeStandsIn 31 = .ok (.invokevirtual 124, 3) := by decide +kernel
theorem d_X_holeStandsIn_34 : decode b_X_holeStandsIn 34 = .ok (.ifCond .ne 43, 3) := by decide +kernel
theorem d_X_holeStandsIn_37 : decode b_X_holeStandsIn 37 = .ok (.iload_n 1, 1) := by decide +kernel
theorem d_X_holeStandsIn_38 : decode b_X_holeStandsIn 38 = .ok (.iconst 2, 1) := by decide +kernel
theorem d_X_holeStandsIn_39 : decode b_X_holeStandsIn 39 = .ok (.if_icmp .le 18, 3) := by decide +kernel
theorem d_X_holeStandsIn_42 : decode b_X_holeStandsIn 42 = .ok (.aload_n 0, 1) := by decide +kernel
theorem d_X_holeStandsIn_43 : decode b_X_holeStandsIn 43 = .ok (.getfield 12, 3) := by decide +kernel
theorem d_X_holeStandsIn_46 : decode b_X_holeStandsIn 46 = .ok (.iload 4, 2) := by decide +kernel
theorem d_X_holeStandsIn_48 : decode b_X_holeStandsIn 48 = .ok (.ldc2_w 122, 3) := by decide +kernel
theorem d_X_holeStandsIn_51 : decode b_X_holeStandsIn 51 = .ok (.invokevirtual 124, 3) := by decide +kernel
theorem d_X_holeStandsIn_54 : decode b_X_holeStandsIn 54 = .ok (.ifCond .ne 23, 3) := by decide +kernel
theorem d_X_holeStandsIn_57 : decode b_X_holeStandsIn 57 = .ok (.iload_n 1, 1) := by decide +kernel
theorem d_X_holeStandsIn_58 : decode b_X_holeStandsIn 58 = .ok (.iconst 3, 1) := by decide +kernel
theorem d_X_holeStandsIn_59 : decode b_X_holeStandsIn 59 = .ok (.if_icmp .le 22, 3) := by decide +kernel
theorem d_X_holeStandsIn_62 : decode b_X_holeStandsIn 62 = .ok (.aload_n 0, 1) := by decide +kernel
theorem d_X_holeStandsIn_63 : decode b_X_holeStandsIn 63 = .ok (.getfield 12, 3) := by decide +kernel
theorem d_X_holeStandsIn_66 : decode b_X_holeStandsIn 66 = .ok (.iload 5, 2) := by decide +kernel
theorem d_X_holeStandsIn_68 : decode b_X_holeStandsIn 68 = .ok (.ldc2_w 122, 3) := by decide +kernel
theorem d_X_holeStandsIn_71 : decode b_X_holeStandsIn 71 = .ok (.invokevirtual 124, 3) := by decide +kernel
theorem d_X_holeStandsIn_74 : decode b_X_holeStandsIn 74 = .ok (.ifCond .eq 7, 3) := by decide +kernel
theorem d_X_holeStandsIn_77 : decode b_X_holeStandsIn 77 = .ok (.iconst 1, 1) := by decide +kernel
theorem d_X_holeStandsIn_78 : decode b_X_holeStandsIn 78 = .ok (.goto 4, 3) := by decide +kernel
theorem d_X_holeStandsIn_81 : decode b_X_holeStandsIn 81 = .ok (.iconst 0, 1) := by decide +kernel
theorem d_X_holeStandsIn_82 : decode b_X_holeStandsIn 82 = .ok (.ireturn, 1) := by decide +kernel
abbrev b_X_binding : ByteArray := prog_1_method_20_code
abbrev y_X_binding : MethodName := ⟨"ShapeSearch", "binding", "(II)I"⟩
abbrev ws_X_binding : List Cond := .code y_X_binding b_X_binding 3 (some .int) :: BG
theorem hd_X_binding : y_X_binding.cls ≠ "java/lang/invoke/MethodHandle" ∧ y_X_binding.cls ≠ "java/lang/invoke/VarHandle" ∧ (parseMethodDescriptor y_X_binding.desc).map (fun d => d.parameters.length) = some 2 := by decide +kernel
theorem d_X_binding_0 : decode b_X_binding 0 = .ok (.aload_n 0, 1) := by decide +kernel
theorem d_X_binding_1 : decode b_X_binding 1 = .ok (.getfield 67, 3) := by decide +kernel
theorem d_X_binding_4 : decode b_X_binding 4 = .ok (.invokevirtual 224, 3) := by decide +kernel
theorem d_X_binding_7 : decode b_X_binding 7 = .ok (.iconst 1, 1) := by decide +kernel
theorem d_X_binding_8 : decode b_X_binding 8 = .ok (.if_icmp .ne 54, 3) := by decide +kernel
theorem d_X_binding_11 : decode b_X_binding 11 = .ok (.iload_n 2, 1) := by decide +kernel
theorem d_X_binding_12 : decode b_X_binding 12 = .ok (.iconst 4, 1) := by decide +kernel
theorem d_X_binding_13 : decode b_X_binding 13 = .ok (.if_icmp .lt 49, 3) := by decide +kernel
theorem d_X_binding_16 : decode b_X_binding 16 = .ok (.iload_n 2, 1) := by decide +kernel
theorem d_X_binding_17 : decode b_X_binding 17 = .ok (.bipush 8, 2) := by decide +kernel
theorem d_X_binding_19 : decode b_X_binding 19 = .ok (.if_icmp .ge 43, 3) := by decide +kernel
theorem d_X_binding_22 : decode b_X_binding 22 = .ok (.aload_n 0, 1) := by decide +kernel
theorem d_X_binding_23 : decode b_X_binding 23 = .ok (.getfield 42, 3) := by decide +kernel
theorem d_X_binding_26 : decode b_X_binding 26 = .ok (.aload_n 0, 1) := by decide +kernel
theorem d_X_binding_27 : decode b_X_binding 27 = .ok (.getfield 67, 3) := by decide +kernel
theorem d_X_binding_30 : decode b_X_binding 30 = .ok (.invokevirtual 229, 3) := by decide +kernel
theorem d_X_binding_33 : decode b_X_binding 33 = .ok (.aload_n 0, 1) := by decide +kernel
theorem d_X_binding_34 : decode b_X_binding 34 = .ok (.getfield 67, 3) := by decide +kernel
theorem d_X_binding_37 : decode b_X_binding 37 = .ok (.iload_n 1, 1) := by decide +kernel
theorem d_X_binding_38 : decode b_X_binding 38 = .ok (.invokevirtual 218, 3) := by decide +kernel
theorem d_X_binding_41 : decode b_X_binding 41 = .ok (.ldc2_w 122, 3) := by decide +kernel
theorem d_X_binding_44 : decode b_X_binding 44 = .ok (.invokevirtual 182, 3) := by decide +kernel
theorem d_X_binding_47 : decode b_X_binding 47 = .ok (.pop, 1) := by decide +kernel
theorem d_X_binding_48 : decode b_X_binding 48 = .ok (.aload_n 0, 1) := by decide +kernel
theorem d_X_binding_49 : decode b_X_binding 49 = .ok (.getfield 42, 3) := by decide +kernel
theorem d_X_binding_52 : decode b_X_binding 52 = .ok (.bipush 38, 2) := by decide +kernel
theorem d_X_binding_54 : decode b_X_binding 54 = .ok (.iload_n 2, 1) := by decide +kernel
theorem d_X_binding_55 : decode b_X_binding 55 = .ok (.iadd, 1) := by decide +kernel
theorem d_X_binding_56 : decode b_X_binding 56 = .ok (.iconst 4, 1) := by decide +kernel
theorem d_X_binding_57 : decode b_X_binding 57 = .ok (.isub, 1) := by decide +kernel
theorem d_X_binding_58 : decode b_X_binding 58 = .ok (.invokevirtual 265, 3) := by decide +kernel
theorem d_X_binding_61 : decode b_X_binding 61 = .ok (.ireturn, 1) := by decide +kernel
theorem d_X_binding_62 : decode b_X_binding 62 = .ok (.aload_n 0, 1) := by decide +kernel
theorem d_X_binding_63 : decode b_X_binding 63 = .ok (.getfield 67, 3) := by decide +kernel
theorem d_X_binding_66 : decode b_X_binding 66 = .ok (.invokevirtual 224, 3) := by decide +kernel
theorem d_X_binding_69 : decode b_X_binding 69 = .ok (.iconst 2, 1) := by decide +kernel
theorem d_X_binding_70 : decode b_X_binding 70 = .ok (.if_icmp .ne 61, 3) := by decide +kernel
theorem d_X_binding_73 : decode b_X_binding 73 = .ok (.iload_n 2, 1) := by decide +kernel
theorem d_X_binding_74 : decode b_X_binding 74 = .ok (.iconst 4, 1) := by decide +kernel
theorem d_X_binding_75 : decode b_X_binding 75 = .ok (.if_icmp .lt 56, 3) := by decide +kernel
theorem d_X_binding_78 : decode b_X_binding 78 = .ok (.iload_n 2, 1) := by decide +kernel
theorem d_X_binding_79 : decode b_X_binding 79 = .ok (.bipush 12, 2) := by decide +kernel
theorem d_X_binding_81 : decode b_X_binding 81 = .ok (.if_icmp .ge 50, 3) := by decide +kernel
theorem d_X_binding_84 : decode b_X_binding 84 = .ok (.aload_n 0, 1) := by decide +kernel
theorem d_X_binding_85 : decode b_X_binding 85 = .ok (.getfield 42, 3) := by decide +kernel
theorem d_X_binding_88 : decode b_X_binding 88 = .ok (.aload_n 0, 1) := by decide +kernel
theorem d_X_binding_89 : decode b_X_binding 89 = .ok (.getfield 33, 3) := by decide +kernel
theorem d_X_binding_92 : decode b_X_binding 92 = .ok (.aload_n 0, 1) := by decide +kernel
theorem d_X_binding_93 : decode b_X_binding 93 = .ok (.getfield 67, 3) := by decide +kernel
theorem d_X_binding_96 : decode b_X_binding 96 = .ok (.iload_n 1, 1) := by decide +kernel
theorem d_X_binding_97 : decode b_X_binding 97 = .ok (.invokevirtual 212, 3) := by decide +kernel
theorem d_X_binding_100 : decode b_X_binding 100 = .ok (.invokevirtual 177, 3) := by decide +kernel
theorem d_X_binding_103 : decode b_X_binding 103 = .ok (.aload_n 0, 1) := by decide +kernel
theorem d_X_binding_104 : decode b_X_binding 104 = .ok (.getfield 67, 3) := by decide +kernel
theorem d_X_binding_107 : decode b_X_binding 107 = .ok (.invokevirtual 229, 3) := by decide +kernel
theorem d_X_binding_110 : decode b_X_binding 110 = .ok (.ldc2_w 180, 3) := by decide +kernel
theorem d_X_binding_113 : decode b_X_binding 113 = .ok (.invokevirtual 182, 3) := by decide +kernel
theorem d_X_binding_116 : decode b_X_binding 116 = .ok (.pop, 1) := by decide +kernel
theorem d_X_binding_117 : decode b_X_binding 117 = .ok (.aload_n 0, 1) := by decide +kernel
theorem d_X_binding_118 : decode b_X_binding 118 = .ok (.getfield 42, 3) := by decide +kernel
theorem d_X_binding_121 : decode b_X_binding 121 = .ok (.bipush 30, 2) := by decide +kernel
theorem d_X_binding_123 : decode b_X_binding 123 = .ok (.iload_n 2, 1) := by decide +kernel
theorem d_X_binding_124 : decode b_X_binding 124 = .ok (.iadd, 1) := by decide +kernel
theorem d_X_binding_125 : decode b_X_binding 125 = .ok (.iconst 4, 1) := by decide +kernel
theorem d_X_binding_126 : decode b_X_binding 126 = .ok (.isub, 1) := by decide +kernel
theorem d_X_binding_127 : decode b_X_binding 127 = .ok (.invokevirtual 265, 3) := by decide +kernel
theorem d_X_binding_130 : decode b_X_binding 130 = .ok (.ireturn, 1) := by decide +kernel
theorem d_X_binding_131 : decode b_X_binding 131 = .ok (.iconst (-1), 1) := by decide +kernel
theorem d_X_binding_132 : decode b_X_binding 132 = .ok (.ireturn, 1) := by decide +kernel
abbrev b_X_term : ByteArray := prog_1_method_4_code
abbrev y_X_term : MethodName := ⟨"ShapeSearch", "term", "(II)I"⟩
abbrev ws_X_term : List Cond := .code y_X_term b_X_term 4 (some .int) :: BG
theorem hd_X_term : y_X_term.cls ≠ "java/lang/invoke/MethodHandle" ∧ y_X_term.cls ≠ "java/lang/invoke/VarHandle" ∧ (parseMethodDescriptor y_X_term.desc).map (fun d => d.parameters.length) = some 2 := by decide +kernel
theorem d_X_term_0 : decode b_X_term 0 = .ok (.aload_n 0, 1) := by decide +kernel
theorem d_X_term_1 : decode b_X_term 1 = .ok (.getfield 12, 3) := by decide +kernel
theorem d_X_term_4 : decode b_X_term 4 = .ok (.iload_n 1, 1) := by decide +kernel
theorem d_X_term_5 : decode b_X_term 5 = .ok (.invokevirtual 102, 3) := by decide +kernel
theorem d_X_term_8 : decode b_X_term 8 = .ok (.ifCond .ne 5, 3) := by decide +kernel
theorem d_X_term_11 : decode b_X_term 11 = .ok (.iconst (-1), 1) := by decide +kernel
theorem d_X_term_12 : decode b_X_term 12 = .ok (.ireturn, 1) := by decide +kernel
theorem d_X_term_13 : decode b_X_term 13 = .ok (.aload_n 0, 1) := by decide +kernel
theorem d_X_term_14 : decode b_X_term 14 = .ok (.getfield 12, 3) := by decide +kernel
theorem d_X_term_17 : decode b_X_term 17 = .ok (.iload_n 1, 1) := by decide +kernel
theorem d_X_term_18 : decode b_X_term 18 = .ok (.invokevirtual 106, 3) := by decide +kernel
theorem d_X_term_21 : decode b_X_term 21 = .ok (.istore_n 3, 1) := by decide +kernel
theorem d_X_term_22 : decode b_X_term 22 = .ok (.iload_n 2, 1) := by decide +kernel
theorem d_X_term_23 : decode b_X_term 23 = .ok (.tableswitch 108 0 5 #[37, 59, 87, 87, 87, 99], 37) := by decide +kernel
theorem d_X_term_60 : decode b_X_term 60 = .ok (.iload_n 3, 1) := by decide +kernel
theorem d_X_term_61 : decode b_X_term 61 = .ok (.bipush 30, 2) := by decide +kernel
theorem d_X_term_63 : decode b_X_term 63 = .ok (.if_icmp .ge 7, 3) := by decide +kernel
theorem d_X_term_66 : decode b_X_term 66 = .ok (.iconst 0, 1) := by decide +kernel
theorem d_X_term_67 : decode b_X_term 67 = .ok (.goto 14, 3) := by decide +kernel
theorem d_X_term_70 : decode b_X_term 70 = .ok (.iload_n 3, 1) := by decide +kernel
theorem d_X_term_71 : decode b_X_term 71 = .ok (.bipush 38, 2) := by decide +kernel
theorem d_X_term_73 : decode b_X_term 73 = .ok (.if_icmp .ge 7, 3) := by decide +kernel
theorem d_X_term_76 : decode b_X_term 76 = .ok (.iconst 1, 1) := by decide +kernel
theorem d_X_term_77 : decode b_X_term 77 = .ok (.goto 4, 3) := by decide +kernel
theorem d_X_term_80 : decode b_X_term 80 = .ok (.iconst 2, 1) := by decide +kernel
theorem d_X_term_81 : decode b_X_term 81 = .ok (.ireturn, 1) := by decide +kernel
theorem d_X_term_82 : decode b_X_term 82 = .ok (.iload_n 3, 1) := by decide +kernel
theorem d_X_term_83 : decode b_X_term 83 = .ok (.bipush 30, 2) := by decide +kernel
theorem d_X_term_85 : decode b_X_term 85 = .ok (.if_icmp .ge 7, 3) := by decide +kernel
theorem d_X_term_88 : decode b_X_term 88 = .ok (.iload_n 3, 1) := by decide +kernel
theorem d_X_term_89 : decode b_X_term 89 = .ok (.goto 20, 3) := by decide +kernel
theorem d_X_term_92 : decode b_X_term 92 = .ok (.iload_n 3, 1) := by decide +kernel
theorem d_X_term_93 : decode b_X_term 93 = .ok (.bipush 38, 2) := by decide +kernel
theorem d_X_term_95 : decode b_X_term 95 = .ok (.if_icmp .ge 10, 3) := by decide +kernel
theorem d_X_term_98 : decode b_X_term 98 = .ok (.iload_n 3, 1) := by decide +kernel
theorem d_X_term_99 : decode b_X_term 99 = .ok (.bipush 30, 2) := by decide +kernel
theorem d_X_term_101 : decode b_X_term 101 = .ok (.isub, 1) := by decide +kernel
theorem d_X_term_102 : decode b_X_term 102 = .ok (.goto 7, 3) := by decide +kernel
theorem d_X_term_105 : decode b_X_term 105 = .ok (.iload_n 3, 1) := by decide +kernel
theorem d_X_term_106 : decode b_X_term 106 = .ok (.bipush 38, 2) := by decide +kernel
theorem d_X_term_108 : decode b_X_term 108 = .ok (.isub, 1) := by decide +kernel
theorem d_X_term_109 : decode b_X_term 109 = .ok (.ireturn, 1) := by decide +kernel
theorem d_X_term_110 : decode b_X_term 110 = .ok (.aload_n 0, 1) := by decide +kernel
theorem d_X_term_111 : decode b_X_term 111 = .ok (.getfield 12, 3) := by decide +kernel
theorem d_X_term_114 : decode b_X_term 114 = .ok (.iload_n 1, 1) := by decide +kernel
theorem d_X_term_115 : decode b_X_term 115 = .ok (.iload_n 2, 1) := by decide +kernel
theorem d_X_term_116 : decode b_X_term 116 = .ok (.iconst 2, 1) := by decide +kernel
theorem d_X_term_117 : decode b_X_term 117 = .ok (.isub, 1) := by decide +kernel
theorem d_X_term_118 : decode b_X_term 118 = .ok (.invokevirtual 110, 3) := by decide +kernel
theorem d_X_term_121 : decode b_X_term 121 = .ok (.ireturn, 1) := by decide +kernel
theorem d_X_term_122 : decode b_X_term 122 = .ok (.aload_n 0, 1) := by decide +kernel
theorem d_X_term_123 : decode b_X_term 123 = .ok (.getfield 12, 3) := by decide +kernel
theorem d_X_term_126 : decode b_X_term 126 = .ok (.iload_n 1, 1) := by decide +kernel
theorem d_X_term_127 : decode b_X_term 127 = .ok (.invokevirtual 114, 3) := by decide +kernel
theorem d_X_term_130 : decode b_X_term 130 = .ok (.ireturn, 1) := by decide +kernel
theorem d_X_term_131 : decode b_X_term 131 = .ok (.iconst (-1), 1) := by decide +kernel
theorem d_X_term_132 : decode b_X_term 132 = .ok (.ireturn, 1) := by decide +kernel
abbrev b_X_forget : ByteArray := prog_1_method_6_code
abbrev y_X_forget : MethodName := ⟨"ShapeSearch", "forget", "()Z"⟩
abbrev ws_X_forget : List Cond := .code y_X_forget b_X_forget 1 (some .boolean) :: BG
theorem hd_X_forget : y_X_forget.cls ≠ "java/lang/invoke/MethodHandle" ∧ y_X_forget.cls ≠ "java/lang/invoke/VarHandle" ∧ (parseMethodDescriptor y_X_forget.desc).map (fun d => d.parameters.length) = some 0 := by decide +kernel
theorem d_X_forget_0 : decode b_X_forget 0 = .ok (.aload_n 0, 1) := by decide +kernel
theorem d_X_forget_1 : decode b_X_forget 1 = .ok (.getfield 67, 3) := by decide +kernel
theorem d_X_forget_4 : decode b_X_forget 4 = .ok (.invokevirtual 136, 3) := by decide +kernel
theorem d_X_forget_7 : decode b_X_forget 7 = .ok (.aload_n 0, 1) := by decide +kernel
theorem d_X_forget_8 : decode b_X_forget 8 = .ok (.getfield 33, 3) := by decide +kernel
theorem d_X_forget_11 : decode b_X_forget 11 = .ok (.invokevirtual 139, 3) := by decide +kernel
theorem d_X_forget_14 : decode b_X_forget 14 = .ok (.ireturn, 1) := by decide +kernel
abbrev b_X_hit : ByteArray := prog_1_method_10_code
abbrev y_X_hit : MethodName := ⟨"ShapeSearch", "hit", "(II)I"⟩
abbrev ws_X_hit : List Cond := .code y_X_hit b_X_hit 3 (some .int) :: BG
theorem hd_X_hit : y_X_hit.cls ≠ "java/lang/invoke/MethodHandle" ∧ y_X_hit.cls ≠ "java/lang/invoke/VarHandle" ∧ (parseMethodDescriptor y_X_hit.desc).map (fun d => d.parameters.length) = some 2 := by decide +kernel
theorem d_X_hit_0 : decode b_X_hit 0 = .ok (.aload_n 0, 1) := by decide +kernel
theorem d_X_hit_1 : decode b_X_hit 1 = .ok (.getfield 67, 3) := by decide +kernel
theorem d_X_hit_4 : decode b_X_hit 4 = .ok (.iload_n 1, 1) := by decide +kernel
theorem d_X_hit_5 : decode b_X_hit 5 = .ok (.invokevirtual 211, 3) := by decide +kernel
theorem d_X_hit_8 : decode b_X_hit 8 = .ok (.ifCond .ne 5, 3) := by decide +kernel
theorem d_X_hit_11 : decode b_X_hit 11 = .ok (.iconst (-1), 1) := by decide +kernel
theorem d_X_hit_12 : decode b_X_hit 12 = .ok (.ireturn, 1) := by decide +kernel
theorem d_X_hit_13 : decode b_X_hit 13 = .ok (.iload_n 2, 1) := by decide +kernel
theorem d_X_hit_14 : decode b_X_hit 14 = .ok (.tableswitch 53 0 2 #[26, 35, 44], 26) := by decide +kernel
theorem d_X_hit_40 : decode b_X_hit 40 = .ok (.aload_n 0, 1) := by decide +kernel
theorem d_X_hit_41 : decode b_X_hit 41 = .ok (.getfield 67, 3) := by decide +kernel
theorem d_X_hit_44 : decode b_X_hit 44 = .ok (.iload_n 1, 1) := by decide +kernel
theorem d_X_hit_45 : decode b_X_hit 45 = .ok (.invokevirtual 212, 3) := by decide +kernel
theorem d_X_hit_48 : decode b_X_hit 48 = .ok (.ireturn, 1) := by decide +kernel
theorem d_X_hit_49 : decode b_X_hit 49 = .ok (.aload_n 0, 1) := by decide +kernel
theorem d_X_hit_50 : decode b_X_hit 50 = .ok (.getfield 67, 3) := by decide +kernel
theorem d_X_hit_53 : decode b_X_hit 53 = .ok (.iload_n 1, 1) := by decide +kernel
theorem d_X_hit_54 : decode b_X_hit 54 = .ok (.invokevirtual 215, 3) := by decide +kernel
theorem d_X_hit_57 : decode b_X_hit 57 = .ok (.ireturn, 1) := by decide +kernel
theorem d_X_hit_58 : decode b_X_hit 58 = .ok (.aload_n 0, 1) := by decide +kernel
theorem d_X_hit_59 : decode b_X_hit 59 = .ok (.getfield 67, 3) := by decide +kernel
theorem d_X_hit_62 : decode b_X_hit 62 = .ok (.iload_n 1, 1) := by decide +kernel
theorem d_X_hit_63 : decode b_X_hit 63 = .ok (.invokevirtual 218, 3) := by decide +kernel
theorem d_X_hit_66 : decode b_X_hit 66 = .ok (.ireturn, 1) := by decide +kernel
theorem d_X_hit_67 : decode b_X_hit 67 = .ok (.aload_n 0, 1) := by decide +kernel
theorem d_X_hit_68 : decode b_X_hit 68 = .ok (.iload_n 1, 1) := by decide +kernel
theorem d_X_hit_69 : decode b_X_hit 69 = .ok (.iload_n 2, 1) := by decide +kernel
theorem d_X_hit_70 : decode b_X_hit 70 = .ok (.invokevirtual 221, 3) := by decide +kernel
theorem d_X_hit_73 : decode b_X_hit 73 = .ok (.ireturn, 1) := by decide +kernel
abbrev b_X_tried : ByteArray := prog_1_method_14_code
abbrev y_X_tried : MethodName := ⟨"ShapeSearch", "tried", "(I)I"⟩
abbrev ws_X_tried : List Cond := .code y_X_tried b_X_tried 2 (some .int) :: BG
theorem hd_X_tried : y_X_tried.cls ≠ "java/lang/invoke/MethodHandle" ∧ y_X_tried.cls ≠ "java/lang/invoke/VarHandle" ∧ (parseMethodDescriptor y_X_tried.desc).map (fun d => d.parameters.length) = some 1 := by decide +kernel
theorem d_X_tried_0 : decode b_X_tried 0 = .ok (.iload_n 1, 1) := by decide +kernel
theorem d_X_tried_1 : decode b_X_tried 1 = .ok (.tableswitch 51 0 2 #[27, 35, 43], 27) := by decide +kernel
theorem d_X_tried_28 : decode b_X_tried 28 = .ok (.aload_n 0, 1) := by decide +kernel
theorem d_X_tried_29 : decode b_X_tried 29 = .ok (.getfield 60, 3) := by decide +kernel
theorem d_X_tried_32 : decode b_X_tried 32 = .ok (.invokevirtual 257, 3) := by decide +kernel
theorem d_X_tried_35 : decode b_X_tried 35 = .ok (.ireturn, 1) := by decide +kernel
theorem d_X_tried_36 : decode b_X_tried 36 = .ok (.aload_n 0, 1) := by decide +kernel
theorem d_X_tried_37 : decode b_X_tried 37 = .ok (.getfield 60, 3) := by decide +kernel
theorem d_X_tried_40 : decode b_X_tried 40 = .ok (.invokevirtual 254, 3) := by decide +kernel
theorem d_X_tried_43 : decode b_X_tried 43 = .ok (.ireturn, 1) := by decide +kernel
theorem d_X_tried_44 : decode b_X_tried 44 = .ok (.aload_n 0, 1) := by decide +kernel
theorem d_X_tried_45 : decode b_X_tried 45 = .ok (.getfield 60, 3) := by decide +kernel
theorem d_X_tried_48 : decode b_X_tried 48 = .ok (.invokevirtual 260, 3) := by decide +kernel
theorem d_X_tried_51 : decode b_X_tried 51 = .ok (.ireturn, 1) := by decide +kernel
theorem d_X_tried_52 : decode b_X_tried 52 = .ok (.iconst (-1), 1) := by decide +kernel
theorem d_X_tried_53 : decode b_X_tried 53 = .ok (.ireturn, 1) := by decide +kernel
abbrev b_X_about : ByteArray := prog_1_method_15_code
abbrev y_X_about : MethodName := ⟨"ShapeSearch", "about", "(I)I"⟩
abbrev ws_X_about : List Cond := .code y_X_about b_X_about 2 (some .int) :: BG
theorem hd_X_about : y_X_about.cls ≠ "java/lang/invoke/MethodHandle" ∧ y_X_about.cls ≠ "java/lang/invoke/VarHandle" ∧ (parseMethodDescriptor y_X_about.desc).map (fun d => d.parameters.length) = some 1 := by decide +kernel
theorem d_X_about_0 : decode b_X_about 0 = .ok (.iload_n 1, 1) := by decide +kernel
theorem d_X_about_1 : decode b_X_about 1 = .ok (.tableswitch 60 0 3 #[31, 39, 47, 52], 31) := by decide +kernel
theorem d_X_about_32 : decode b_X_about 32 = .ok (.aload_n 0, 1) := by decide +kernel
theorem d_X_about_33 : decode b_X_about 33 = .ok (.getfield 12, 3) := by decide +kernel
theorem d_X_about_36 : decode b_X_about 36 = .ok (.invokevirtual 262, 3) := by decide +kernel
theorem d_X_about_39 : decode b_X_about 39 = .ok (.ireturn, 1) := by decide +kernel
theorem d_X_about_40 : decode b_X_about 40 = .ok (.aload_n 0, 1) := by decide +kernel
theorem d_X_about_41 : decode b_X_about 41 = .ok (.getfield 33, 3) := by decide +kernel
theorem d_X_about_44 : decode b_X_about 44 = .ok (.invokevirtual 150, 3) := by decide +kernel
theorem d_X_about_47 : decode b_X_about 47 = .ok (.ireturn, 1) := by decide +kernel
theorem d_X_about_48 : decode b_X_about 48 = .ok (.aload_n 0, 1) := by decide +kernel
theorem d_X_about_49 : decode b_X_about 49 = .ok (.getfield 26, 3) := by decide +kernel
theorem d_X_about_52 : decode b_X_about 52 = .ok (.ireturn, 1) := by decide +kernel
theorem d_X_about_53 : decode b_X_about 53 = .ok (.aload_n 0, 1) := by decide +kernel
theorem d_X_about_54 : decode b_X_about 54 = .ok (.getfield 67, 3) := by decide +kernel
theorem d_X_about_57 : decode b_X_about 57 = .ok (.invokevirtual 167, 3) := by decide +kernel
theorem d_X_about_60 : decode b_X_about 60 = .ok (.ireturn, 1) := by decide +kernel
theorem d_X_about_61 : decode b_X_about 61 = .ok (.iconst (-1), 1) := by decide +kernel
theorem d_X_about_62 : decode b_X_about 62 = .ok (.ireturn, 1) := by decide +kernel
theorem k1_203 : Cond.fieldLink "ShapeSearch" 12 "ShapeSearch" "terms" "LShapeSearch$Terms;" ∈ BG := List.mem_filter.mpr ⟨in_1 (List.mem_of_getElem? (i := 203) rfl), rfl⟩
theorem k1_232 : Cond.methodLink "ShapeSearch" 102 ⟨"ShapeSearch$Terms", "has", "(I)Z"⟩ ∈ BG := List.mem_filter.mpr ⟨in_1 (List.mem_of_getElem? (i := 232) rfl), rfl⟩
theorem k1_235 : Cond.code ⟨"ShapeSearch$Terms", "has", "(I)Z"⟩ prog_7_method_3_code 2 (some .boolean) ∈ BG := List.mem_filter.mpr ⟨in_1 (List.mem_of_getElem? (i := 235) rfl), rfl⟩
theorem k1_233 : Cond.instanceMethod ⟨"ShapeSearch$Terms", "has", "(I)Z"⟩ ∈ BG := List.mem_filter.mpr ⟨in_1 (List.mem_of_getElem? (i := 233) rfl), rfl⟩
theorem k1_234 : Cond.selects "ShapeSearch$Terms" ⟨"ShapeSearch$Terms", "has", "(I)Z"⟩ ⟨"ShapeSearch$Terms", "has", "(I)Z"⟩ ∈ BG := List.mem_filter.mpr ⟨in_1 (List.mem_of_getElem? (i := 234) rfl), rfl⟩
theorem k2_57 : Cond.constantLong "ShapeSearch" 122 4123168604160 ∈ BG := List.mem_filter.mpr ⟨in_2 (List.mem_of_getElem? (i := 57) rfl), rfl⟩
theorem k3_48 : Cond.methodLink "ShapeSearch" 124 ⟨"ShapeSearch$Terms", "holds", "(IJ)Z"⟩ ∈ BG := List.mem_filter.mpr ⟨in_3 (List.mem_of_getElem? (i := 48) rfl), rfl⟩
theorem k1_210 : Cond.fieldLink "ShapeSearch" 67 "ShapeSearch" "hits" "LShapeSearch$Hits;" ∈ BG := List.mem_filter.mpr ⟨in_1 (List.mem_of_getElem? (i := 210) rfl), rfl⟩
theorem k2_49 : Cond.methodLink "ShapeSearch" 224 ⟨"ShapeSearch$Hits", "kind", "()I"⟩ ∈ BG := List.mem_filter.mpr ⟨in_2 (List.mem_of_getElem? (i := 49) rfl), rfl⟩
theorem k2_52 : Cond.code ⟨"ShapeSearch$Hits", "kind", "()I"⟩ prog_3_method_7_code 1 (some .int) ∈ BG := List.mem_filter.mpr ⟨in_2 (List.mem_of_getElem? (i := 52) rfl), rfl⟩
theorem k2_50 : Cond.instanceMethod ⟨"ShapeSearch$Hits", "kind", "()I"⟩ ∈ BG := List.mem_filter.mpr ⟨in_2 (List.mem_of_getElem? (i := 50) rfl), rfl⟩
theorem k2_51 : Cond.selects "ShapeSearch$Hits" ⟨"ShapeSearch$Hits", "kind", "()I"⟩ ⟨"ShapeSearch$Hits", "kind", "()I"⟩ ∈ BG := List.mem_filter.mpr ⟨in_2 (List.mem_of_getElem? (i := 51) rfl), rfl⟩
theorem k1_207 : Cond.fieldLink "ShapeSearch" 42 "ShapeSearch" "matcher" "LShapeSearch$Matcher;" ∈ BG := List.mem_filter.mpr ⟨in_1 (List.mem_of_getElem? (i := 207) rfl), rfl⟩
theorem k2_53 : Cond.methodLink "ShapeSearch" 229 ⟨"ShapeSearch$Hits", "subject", "()I"⟩ ∈ BG := List.mem_filter.mpr ⟨in_2 (List.mem_of_getElem? (i := 53) rfl), rfl⟩
theorem k2_56 : Cond.code ⟨"ShapeSearch$Hits", "subject", "()I"⟩ prog_3_method_8_code 1 (some .int) ∈ BG := List.mem_filter.mpr ⟨in_2 (List.mem_of_getElem? (i := 56) rfl), rfl⟩
theorem k2_54 : Cond.instanceMethod ⟨"ShapeSearch$Hits", "subject", "()I"⟩ ∈ BG := List.mem_filter.mpr ⟨in_2 (List.mem_of_getElem? (i := 54) rfl), rfl⟩
theorem k2_55 : Cond.selects "ShapeSearch$Hits" ⟨"ShapeSearch$Hits", "subject", "()I"⟩ ⟨"ShapeSearch$Hits", "subject", "()I"⟩ ∈ BG := List.mem_filter.mpr ⟨in_2 (List.mem_of_getElem? (i := 55) rfl), rfl⟩
theorem k2_41 : Cond.methodLink "ShapeSearch" 218 ⟨"ShapeSearch$Hits", "second", "(I)I"⟩ ∈ BG := List.mem_filter.mpr ⟨in_2 (List.mem_of_getElem? (i := 41) rfl), rfl⟩
theorem k2_44 : Cond.code ⟨"ShapeSearch$Hits", "second", "(I)I"⟩ prog_3_method_13_code 2 (some .int) ∈ BG := List.mem_filter.mpr ⟨in_2 (List.mem_of_getElem? (i := 44) rfl), rfl⟩
theorem k2_42 : Cond.instanceMethod ⟨"ShapeSearch$Hits", "second", "(I)I"⟩ ∈ BG := List.mem_filter.mpr ⟨in_2 (List.mem_of_getElem? (i := 42) rfl), rfl⟩
theorem k2_43 : Cond.selects "ShapeSearch$Hits" ⟨"ShapeSearch$Hits", "second", "(I)I"⟩ ⟨"ShapeSearch$Hits", "second", "(I)I"⟩ ∈ BG := List.mem_filter.mpr ⟨in_2 (List.mem_of_getElem? (i := 43) rfl), rfl⟩
theorem k2_58 : Cond.methodLink "ShapeSearch" 182 ⟨"ShapeSearch$Matcher", "matches", "(IIJ)Z"⟩ ∈ BG := List.mem_filter.mpr ⟨in_2 (List.mem_of_getElem? (i := 58) rfl), rfl⟩
theorem k2_81 : Cond.methodLink "ShapeSearch" 265 ⟨"ShapeSearch$Matcher", "imageOfLeaf", "(I)I"⟩ ∈ BG := List.mem_filter.mpr ⟨in_2 (List.mem_of_getElem? (i := 81) rfl), rfl⟩
theorem k2_84 : Cond.code ⟨"ShapeSearch$Matcher", "imageOfLeaf", "(I)I"⟩ prog_4_method_4_code 2 (some .int) ∈ BG := List.mem_filter.mpr ⟨in_2 (List.mem_of_getElem? (i := 84) rfl), rfl⟩
theorem k2_82 : Cond.instanceMethod ⟨"ShapeSearch$Matcher", "imageOfLeaf", "(I)I"⟩ ∈ BG := List.mem_filter.mpr ⟨in_2 (List.mem_of_getElem? (i := 82) rfl), rfl⟩
theorem k2_83 : Cond.selects "ShapeSearch$Matcher" ⟨"ShapeSearch$Matcher", "imageOfLeaf", "(I)I"⟩ ⟨"ShapeSearch$Matcher", "imageOfLeaf", "(I)I"⟩ ∈ BG := List.mem_filter.mpr ⟨in_2 (List.mem_of_getElem? (i := 83) rfl), rfl⟩
theorem k1_206 : Cond.fieldLink "ShapeSearch" 33 "ShapeSearch" "statements" "LShapeSearch$Statements;" ∈ BG := List.mem_filter.mpr ⟨in_1 (List.mem_of_getElem? (i := 206) rfl), rfl⟩
theorem k2_32 : Cond.methodLink "ShapeSearch" 212 ⟨"ShapeSearch$Hits", "statement", "(I)I"⟩ ∈ BG := List.mem_filter.mpr ⟨in_2 (List.mem_of_getElem? (i := 32) rfl), rfl⟩
theorem k2_35 : Cond.code ⟨"ShapeSearch$Hits", "statement", "(I)I"⟩ prog_3_method_11_code 2 (some .int) ∈ BG := List.mem_filter.mpr ⟨in_2 (List.mem_of_getElem? (i := 35) rfl), rfl⟩
theorem k2_33 : Cond.instanceMethod ⟨"ShapeSearch$Hits", "statement", "(I)I"⟩ ∈ BG := List.mem_filter.mpr ⟨in_2 (List.mem_of_getElem? (i := 33) rfl), rfl⟩
theorem k2_34 : Cond.selects "ShapeSearch$Hits" ⟨"ShapeSearch$Hits", "statement", "(I)I"⟩ ⟨"ShapeSearch$Hits", "statement", "(I)I"⟩ ∈ BG := List.mem_filter.mpr ⟨in_2 (List.mem_of_getElem? (i := 34) rfl), rfl⟩
theorem k2_100 : Cond.methodLink "ShapeSearch" 177 ⟨"ShapeSearch$Statements", "conclusion", "(I)I"⟩ ∈ BG := List.mem_filter.mpr ⟨in_2 (List.mem_of_getElem? (i := 100) rfl), rfl⟩
theorem k2_104 : Cond.constantLong "ShapeSearch" 180 273804165120 ∈ BG := List.mem_filter.mpr ⟨in_2 (List.mem_of_getElem? (i := 104) rfl), rfl⟩
theorem k1_236 : Cond.methodLink "ShapeSearch" 106 ⟨"ShapeSearch$Terms", "head", "(I)I"⟩ ∈ BG := List.mem_filter.mpr ⟨in_1 (List.mem_of_getElem? (i := 236) rfl), rfl⟩
theorem k2_0 : Cond.methodLink "ShapeSearch" 110 ⟨"ShapeSearch$Terms", "place", "(II)I"⟩ ∈ BG := List.mem_filter.mpr ⟨in_2 (List.mem_of_getElem? (i := 0) rfl), rfl⟩
theorem k2_4 : Cond.methodLink "ShapeSearch" 114 ⟨"ShapeSearch$Terms", "size", "(I)I"⟩ ∈ BG := List.mem_filter.mpr ⟨in_2 (List.mem_of_getElem? (i := 4) rfl), rfl⟩
theorem k2_12 : Cond.methodLink "ShapeSearch" 136 ⟨"ShapeSearch$Hits", "clear", "()V"⟩ ∈ BG := List.mem_filter.mpr ⟨in_2 (List.mem_of_getElem? (i := 12) rfl), rfl⟩
theorem k2_15 : Cond.code ⟨"ShapeSearch$Hits", "clear", "()V"⟩ prog_3_method_2_code 1 (none : Option Jvm.ClassFile.FieldType) ∈ BG := List.mem_filter.mpr ⟨in_2 (List.mem_of_getElem? (i := 15) rfl), rfl⟩
theorem k2_13 : Cond.instanceMethod ⟨"ShapeSearch$Hits", "clear", "()V"⟩ ∈ BG := List.mem_filter.mpr ⟨in_2 (List.mem_of_getElem? (i := 13) rfl), rfl⟩
theorem k2_14 : Cond.selects "ShapeSearch$Hits" ⟨"ShapeSearch$Hits", "clear", "()V"⟩ ⟨"ShapeSearch$Hits", "clear", "()V"⟩ ∈ BG := List.mem_filter.mpr ⟨in_2 (List.mem_of_getElem? (i := 14) rfl), rfl⟩
theorem k2_20 : Cond.methodLink "ShapeSearch" 139 ⟨"ShapeSearch$Statements", "dropLatest", "()Z"⟩ ∈ BG := List.mem_filter.mpr ⟨in_2 (List.mem_of_getElem? (i := 20) rfl), rfl⟩
theorem k2_23 : Cond.code ⟨"ShapeSearch$Statements", "dropLatest", "()Z"⟩ prog_6_method_4_code 1 (some .boolean) ∈ BG := List.mem_filter.mpr ⟨in_2 (List.mem_of_getElem? (i := 23) rfl), rfl⟩
theorem k2_21 : Cond.instanceMethod ⟨"ShapeSearch$Statements", "dropLatest", "()Z"⟩ ∈ BG := List.mem_filter.mpr ⟨in_2 (List.mem_of_getElem? (i := 21) rfl), rfl⟩
theorem k2_22 : Cond.selects "ShapeSearch$Statements" ⟨"ShapeSearch$Statements", "dropLatest", "()Z"⟩ ⟨"ShapeSearch$Statements", "dropLatest", "()Z"⟩ ∈ BG := List.mem_filter.mpr ⟨in_2 (List.mem_of_getElem? (i := 22) rfl), rfl⟩
theorem k2_28 : Cond.methodLink "ShapeSearch" 211 ⟨"ShapeSearch$Hits", "has", "(I)Z"⟩ ∈ BG := List.mem_filter.mpr ⟨in_2 (List.mem_of_getElem? (i := 28) rfl), rfl⟩
theorem k2_37 : Cond.methodLink "ShapeSearch" 215 ⟨"ShapeSearch$Hits", "first", "(I)I"⟩ ∈ BG := List.mem_filter.mpr ⟨in_2 (List.mem_of_getElem? (i := 37) rfl), rfl⟩
theorem k2_40 : Cond.code ⟨"ShapeSearch$Hits", "first", "(I)I"⟩ prog_3_method_12_code 2 (some .int) ∈ BG := List.mem_filter.mpr ⟨in_2 (List.mem_of_getElem? (i := 40) rfl), rfl⟩
theorem k2_38 : Cond.instanceMethod ⟨"ShapeSearch$Hits", "first", "(I)I"⟩ ∈ BG := List.mem_filter.mpr ⟨in_2 (List.mem_of_getElem? (i := 38) rfl), rfl⟩
theorem k2_39 : Cond.selects "ShapeSearch$Hits" ⟨"ShapeSearch$Hits", "first", "(I)I"⟩ ⟨"ShapeSearch$Hits", "first", "(I)I"⟩ ∈ BG := List.mem_filter.mpr ⟨in_2 (List.mem_of_getElem? (i := 39) rfl), rfl⟩
theorem k2_45 : Cond.methodLink "ShapeSearch" 221 ⟨"ShapeSearch", "binding", "(II)I"⟩ ∈ BG := List.mem_filter.mpr ⟨in_2 (List.mem_of_getElem? (i := 45) rfl), rfl⟩
theorem k2_48 : Cond.code ⟨"ShapeSearch", "binding", "(II)I"⟩ prog_1_method_20_code 3 (some .int) ∈ BG := List.mem_filter.mpr ⟨in_2 (List.mem_of_getElem? (i := 48) rfl), rfl⟩
theorem k1_1 : Cond.initialized "ShapeSearch" ∈ BG := List.mem_filter.mpr ⟨in_1 (List.mem_of_getElem? (i := 1) rfl), rfl⟩
theorem k2_47 : Cond.instanceMethod ⟨"ShapeSearch", "binding", "(II)I"⟩ ∈ BG := List.mem_filter.mpr ⟨in_2 (List.mem_of_getElem? (i := 47) rfl), rfl⟩
theorem k1_209 : Cond.fieldLink "ShapeSearch" 60 "ShapeSearch" "search" "LShapeSearch$Search;" ∈ BG := List.mem_filter.mpr ⟨in_1 (List.mem_of_getElem? (i := 209) rfl), rfl⟩
theorem k2_109 : Cond.methodLink "ShapeSearch" 257 ⟨"ShapeSearch$Search", "tries", "()I"⟩ ∈ BG := List.mem_filter.mpr ⟨in_2 (List.mem_of_getElem? (i := 109) rfl), rfl⟩
theorem k2_112 : Cond.code ⟨"ShapeSearch$Search", "tries", "()I"⟩ prog_5_method_2_code 1 (some .int) ∈ BG := List.mem_filter.mpr ⟨in_2 (List.mem_of_getElem? (i := 112) rfl), rfl⟩
theorem k2_110 : Cond.instanceMethod ⟨"ShapeSearch$Search", "tries", "()I"⟩ ∈ BG := List.mem_filter.mpr ⟨in_2 (List.mem_of_getElem? (i := 110) rfl), rfl⟩
theorem k2_111 : Cond.selects "ShapeSearch$Search" ⟨"ShapeSearch$Search", "tries", "()I"⟩ ⟨"ShapeSearch$Search", "tries", "()I"⟩ ∈ BG := List.mem_filter.mpr ⟨in_2 (List.mem_of_getElem? (i := 111) rfl), rfl⟩
theorem k2_113 : Cond.methodLink "ShapeSearch" 254 ⟨"ShapeSearch$Search", "taken", "()I"⟩ ∈ BG := List.mem_filter.mpr ⟨in_2 (List.mem_of_getElem? (i := 113) rfl), rfl⟩
theorem k2_116 : Cond.code ⟨"ShapeSearch$Search", "taken", "()I"⟩ prog_5_method_3_code 1 (some .int) ∈ BG := List.mem_filter.mpr ⟨in_2 (List.mem_of_getElem? (i := 116) rfl), rfl⟩
theorem k2_114 : Cond.instanceMethod ⟨"ShapeSearch$Search", "taken", "()I"⟩ ∈ BG := List.mem_filter.mpr ⟨in_2 (List.mem_of_getElem? (i := 114) rfl), rfl⟩
theorem k2_115 : Cond.selects "ShapeSearch$Search" ⟨"ShapeSearch$Search", "taken", "()I"⟩ ⟨"ShapeSearch$Search", "taken", "()I"⟩ ∈ BG := List.mem_filter.mpr ⟨in_2 (List.mem_of_getElem? (i := 115) rfl), rfl⟩
theorem k2_117 : Cond.methodLink "ShapeSearch" 260 ⟨"ShapeSearch$Search", "first", "()I"⟩ ∈ BG := List.mem_filter.mpr ⟨in_2 (List.mem_of_getElem? (i := 117) rfl), rfl⟩
theorem k2_120 : Cond.code ⟨"ShapeSearch$Search", "first", "()I"⟩ prog_5_method_4_code 1 (some .int) ∈ BG := List.mem_filter.mpr ⟨in_2 (List.mem_of_getElem? (i := 120) rfl), rfl⟩
theorem k2_118 : Cond.instanceMethod ⟨"ShapeSearch$Search", "first", "()I"⟩ ∈ BG := List.mem_filter.mpr ⟨in_2 (List.mem_of_getElem? (i := 118) rfl), rfl⟩
theorem k2_119 : Cond.selects "ShapeSearch$Search" ⟨"ShapeSearch$Search", "first", "()I"⟩ ⟨"ShapeSearch$Search", "first", "()I"⟩ ∈ BG := List.mem_filter.mpr ⟨in_2 (List.mem_of_getElem? (i := 119) rfl), rfl⟩
theorem k2_125 : Cond.methodLink "ShapeSearch" 262 ⟨"ShapeSearch$Terms", "count", "()I"⟩ ∈ BG := List.mem_filter.mpr ⟨in_2 (List.mem_of_getElem? (i := 125) rfl), rfl⟩
theorem k2_128 : Cond.code ⟨"ShapeSearch$Terms", "count", "()I"⟩ prog_7_method_2_code 1 (some .int) ∈ BG := List.mem_filter.mpr ⟨in_2 (List.mem_of_getElem? (i := 128) rfl), rfl⟩
theorem k2_126 : Cond.instanceMethod ⟨"ShapeSearch$Terms", "count", "()I"⟩ ∈ BG := List.mem_filter.mpr ⟨in_2 (List.mem_of_getElem? (i := 126) rfl), rfl⟩
theorem k2_127 : Cond.selects "ShapeSearch$Terms" ⟨"ShapeSearch$Terms", "count", "()I"⟩ ⟨"ShapeSearch$Terms", "count", "()I"⟩ ∈ BG := List.mem_filter.mpr ⟨in_2 (List.mem_of_getElem? (i := 127) rfl), rfl⟩
theorem k2_129 : Cond.methodLink "ShapeSearch" 150 ⟨"ShapeSearch$Statements", "count", "()I"⟩ ∈ BG := List.mem_filter.mpr ⟨in_2 (List.mem_of_getElem? (i := 129) rfl), rfl⟩
theorem k2_132 : Cond.code ⟨"ShapeSearch$Statements", "count", "()I"⟩ prog_6_method_2_code 1 (some .int) ∈ BG := List.mem_filter.mpr ⟨in_2 (List.mem_of_getElem? (i := 132) rfl), rfl⟩
theorem k2_130 : Cond.instanceMethod ⟨"ShapeSearch$Statements", "count", "()I"⟩ ∈ BG := List.mem_filter.mpr ⟨in_2 (List.mem_of_getElem? (i := 130) rfl), rfl⟩
theorem k2_131 : Cond.selects "ShapeSearch$Statements" ⟨"ShapeSearch$Statements", "count", "()I"⟩ ⟨"ShapeSearch$Statements", "count", "()I"⟩ ∈ BG := List.mem_filter.mpr ⟨in_2 (List.mem_of_getElem? (i := 131) rfl), rfl⟩
theorem k1_205 : Cond.fieldLink "ShapeSearch" 26 "ShapeSearch" "namesUsed" "I" ∈ BG := List.mem_filter.mpr ⟨in_1 (List.mem_of_getElem? (i := 205) rfl), rfl⟩
theorem k2_133 : Cond.methodLink "ShapeSearch" 167 ⟨"ShapeSearch$Hits", "count", "()I"⟩ ∈ BG := List.mem_filter.mpr ⟨in_2 (List.mem_of_getElem? (i := 133) rfl), rfl⟩
theorem k2_136 : Cond.code ⟨"ShapeSearch$Hits", "count", "()I"⟩ prog_3_method_9_code 1 (some .int) ∈ BG := List.mem_filter.mpr ⟨in_2 (List.mem_of_getElem? (i := 136) rfl), rfl⟩
theorem k2_134 : Cond.instanceMethod ⟨"ShapeSearch$Hits", "count", "()I"⟩ ∈ BG := List.mem_filter.mpr ⟨in_2 (List.mem_of_getElem? (i := 134) rfl), rfl⟩
theorem k2_135 : Cond.selects "ShapeSearch$Hits" ⟨"ShapeSearch$Hits", "count", "()I"⟩ ⟨"ShapeSearch$Hits", "count", "()I"⟩ ∈ BG := List.mem_filter.mpr ⟨in_2 (List.mem_of_getElem? (i := 135) rfl), rfl⟩
abbrev wv_70 (cI cJ cZ : ClassId) (aX aX_arities aT aT_heads aT_places aT_olders aT_sizes aT_withins aT_newest aS aM aF aE aH : Nat) (X_namesUsed : Int32) (T_count : Int32) : va_W := [(aX, .inr (0, [.ref aT, .ref aX_arities, .int X_namesUsed, .ref aS, .ref aM, .ref aF, .ref aE, .ref aH])), (aT, .inr (1, [.ref aT_heads, .ref aT_places, .ref aT_olders, .ref aT_sizes, .ref aT_withins, .ref aT_newest, .int T_count]))]
abbrev wv_71 (cI cJ cZ : ClassId) (aX aX_arities aT aT_heads aT_places aT_olders aT_sizes aT_withins aT_newest aS aM aF aE aH : Nat) (X_namesUsed : Int32) (T_count : Int32) (nT_withins : Nat) (T_withins : (Nat → Int64)) : va_W := [(aX, .inr (0, [.ref aT, .ref aX_arities, .int X_namesUsed, .ref aS, .ref aM, .ref aF, .ref aE, .ref aH])), (aT, .inr (1, [.ref aT_heads, .ref aT_places, .ref aT_olders, .ref aT_sizes, .ref aT_withins, .ref aT_newest, .int T_count])), (aT_withins, .inl (cJ, nT_withins, .inr (.inl T_withins)))]
abbrev wv_72 (cI cJ cZ : ClassId) (aX aX_arities aT aT_heads aT_places aT_olders aT_sizes aT_withins aT_newest aS aS_premises aS_premiseCounts aS_conclusions aS_order aM aM_images aM_path aF aE aH aH_statementRow aH_firstRow aH_secondRow : Nat) (X_namesUsed : Int32) (T_count : Int32) (nT_heads : Nat) (T_heads : (Nat → Int32)) (nT_places : Nat) (T_places : (Nat → Int32)) (nT_olders : Nat) (T_olders : (Nat → Int32)) (nT_withins : Nat) (T_withins : (Nat → Int64)) (T_newest : (Nat → Int32)) (S_count : Int32) (S_conclusions : (Nat → Int32)) (M_images : (Nat → Int32)) (H_kind : Int32) (H_subject : Int32) (H_count : Int32) (H_statementRow : (Nat → Int32)) (H_secondRow : (Nat → Int32)) : va_W := [(aX, .inr (0, [.ref aT, .ref aX_arities, .int X_namesUsed, .ref aS, .ref aM, .ref aF, .ref aE, .ref aH])), (aT, .inr (1, [.ref aT_heads, .ref aT_places, .ref aT_olders, .ref aT_sizes, .ref aT_withins, .ref aT_newest, .int T_count])), (aT_heads, .inl (cI, nT_heads, .inl T_heads)), (aT_places, .inl (cI, nT_places, .inl T_places)), (aT_olders, .inl (cI, nT_olders, .inl T_olders)), (aT_withins, .inl (cJ, nT_withins, .inr (.inl T_withins))), (aT_newest, .inl (cI, 256, .inl T_newest)), (aS, .inr (2, [.ref aS_premises, .ref aS_premiseCounts, .ref aS_conclusions, .ref aS_order, .int S_count])), (aS_conclusions, .inl (cI, 30, .inl S_conclusions)), (aM, .inr (3, [.ref aT, .ref aM_images, .ref aM_path])), (aM_images, .inl (cI, 100, .inl M_images)), (aH, .inr (6, [.ref aH_statementRow, .ref aH_firstRow, .ref aH_secondRow, .int H_kind, .int H_subject, .int H_count])), (aH_statementRow, .inl (cI, 30, .inl H_statementRow)), (aH_secondRow, .inl (cI, 30, .inl H_secondRow))]
abbrev wv_73 (cI cJ cZ : ClassId) (aX aX_arities aT aT_heads aT_places aT_olders aT_sizes aT_withins aT_newest aS aM aF aE aH : Nat) (X_namesUsed : Int32) (T_count : Int32) (nT_heads : Nat) (T_heads : (Nat → Int32)) (nT_places : Nat) (T_places : (Nat → Int32)) (nT_sizes : Nat) (T_sizes : (Nat → Int32)) : va_W := [(aX, .inr (0, [.ref aT, .ref aX_arities, .int X_namesUsed, .ref aS, .ref aM, .ref aF, .ref aE, .ref aH])), (aT, .inr (1, [.ref aT_heads, .ref aT_places, .ref aT_olders, .ref aT_sizes, .ref aT_withins, .ref aT_newest, .int T_count])), (aT_heads, .inl (cI, nT_heads, .inl T_heads)), (aT_places, .inl (cI, nT_places, .inl T_places)), (aT_sizes, .inl (cI, nT_sizes, .inl T_sizes))]
abbrev wv_74 (cI cJ cZ : ClassId) (aX aX_arities aT aS aS_premises aS_premiseCounts aS_conclusions aS_order aM aF aE aH aH_statementRow aH_firstRow aH_secondRow : Nat) (X_namesUsed : Int32) (S_count : Int32) (H_kind : Int32) (H_subject : Int32) (H_count : Int32) : va_W := [(aX, .inr (0, [.ref aT, .ref aX_arities, .int X_namesUsed, .ref aS, .ref aM, .ref aF, .ref aE, .ref aH])), (aS, .inr (2, [.ref aS_premises, .ref aS_premiseCounts, .ref aS_conclusions, .ref aS_order, .int S_count])), (aH, .inr (6, [.ref aH_statementRow, .ref aH_firstRow, .ref aH_secondRow, .int H_kind, .int H_subject, .int H_count]))]
abbrev wv_75 (cI cJ cZ : ClassId) (aX aX_arities aT aT_heads aT_places aT_olders aT_sizes aT_withins aT_newest aS aS_premises aS_premiseCounts aS_conclusions aS_order aM aM_images aM_path aF aE aH aH_statementRow aH_firstRow aH_secondRow : Nat) (X_namesUsed : Int32) (T_count : Int32) (nT_heads : Nat) (T_heads : (Nat → Int32)) (nT_places : Nat) (T_places : (Nat → Int32)) (nT_olders : Nat) (T_olders : (Nat → Int32)) (nT_withins : Nat) (T_withins : (Nat → Int64)) (T_newest : (Nat → Int32)) (S_count : Int32) (S_conclusions : (Nat → Int32)) (M_images : (Nat → Int32)) (H_kind : Int32) (H_subject : Int32) (H_count : Int32) (H_statementRow : (Nat → Int32)) (H_firstRow : (Nat → Int32)) (H_secondRow : (Nat → Int32)) : va_W := [(aX, .inr (0, [.ref aT, .ref aX_arities, .int X_namesUsed, .ref aS, .ref aM, .ref aF, .ref aE, .ref aH])), (aT, .inr (1, [.ref aT_heads, .ref aT_places, .ref aT_olders, .ref aT_sizes, .ref aT_withins, .ref aT_newest, .int T_count])), (aT_heads, .inl (cI, nT_heads, .inl T_heads)), (aT_places, .inl (cI, nT_places, .inl T_places)), (aT_olders, .inl (cI, nT_olders, .inl T_olders)), (aT_withins, .inl (cJ, nT_withins, .inr (.inl T_withins))), (aT_newest, .inl (cI, 256, .inl T_newest)), (aS, .inr (2, [.ref aS_premises, .ref aS_premiseCounts, .ref aS_conclusions, .ref aS_order, .int S_count])), (aS_conclusions, .inl (cI, 30, .inl S_conclusions)), (aM, .inr (3, [.ref aT, .ref aM_images, .ref aM_path])), (aM_images, .inl (cI, 100, .inl M_images)), (aH, .inr (6, [.ref aH_statementRow, .ref aH_firstRow, .ref aH_secondRow, .int H_kind, .int H_subject, .int H_count])), (aH_statementRow, .inl (cI, 30, .inl H_statementRow)), (aH_firstRow, .inl (cI, 30, .inl H_firstRow)), (aH_secondRow, .inl (cI, 30, .inl H_secondRow))]
abbrev wv_76 (cI cJ cZ : ClassId) (aX aX_arities aT aS aM aF aE aE_goals aE_marks aE_looked aE_underway aE_met aE_takenHere aH : Nat) (X_namesUsed : Int32) (E_level : Int32) (E_steps : Int32) (E_tries : Int32) (E_taken : Int32) (E_first : Int32) : va_W := [(aX, .inr (0, [.ref aT, .ref aX_arities, .int X_namesUsed, .ref aS, .ref aM, .ref aF, .ref aE, .ref aH])), (aE, .inr (5, [.ref aT, .ref aS, .ref aM, .ref aE_goals, .ref aE_marks, .ref aE_looked, .ref aE_underway, .ref aE_met, .ref aE_takenHere, .int E_level, .int E_steps, .int E_tries, .int E_taken, .int E_first]))]
abbrev wv_77 (cI cJ cZ : ClassId) (aX aX_arities aT aT_heads aT_places aT_olders aT_sizes aT_withins aT_newest aS aS_premises aS_premiseCounts aS_conclusions aS_order aM aF aE aH aH_statementRow aH_firstRow aH_secondRow : Nat) (X_namesUsed : Int32) (T_count : Int32) (S_count : Int32) (H_kind : Int32) (H_subject : Int32) (H_count : Int32) : va_W := [(aX, .inr (0, [.ref aT, .ref aX_arities, .int X_namesUsed, .ref aS, .ref aM, .ref aF, .ref aE, .ref aH])), (aT, .inr (1, [.ref aT_heads, .ref aT_places, .ref aT_olders, .ref aT_sizes, .ref aT_withins, .ref aT_newest, .int T_count])), (aS, .inr (2, [.ref aS_premises, .ref aS_premiseCounts, .ref aS_conclusions, .ref aS_order, .int S_count])), (aH, .inr (6, [.ref aH_statementRow, .ref aH_firstRow, .ref aH_secondRow, .int H_kind, .int H_subject, .int H_count]))]
def f_X_leading (p0 : Int32) (p1 : Int32) (p2 : Int32) (p3 : Int32) : Option (Int32) :=
  if p0 = (-1 : Int32) then
    some (0 : Int32)
  else
    if p1 = (-1 : Int32) then
      some (1 : Int32)
    else
      if p2 = (-1 : Int32) then
        some (2 : Int32)
      else
        if p3 = (-1 : Int32) then
          some (3 : Int32)
        else
          some (4 : Int32)
abbrev rm_X_leading : Room := { frames := 0, cells := 0, slots := 0, locals := 0 }
set_option maxHeartbeats 4000000 in
set_option maxRecDepth 100000 in
theorem c_X_leading (l : Launch) (D : va_G) (cI cJ cZ : ClassId) (p0 : Int32) (p1 : Int32) (p2 : Int32) (p3 : Int32) (o : Int32) (hf : f_X_leading p0 p1 p2 p3 = some o) : Met l y_X_leading (ws_X_leading) rm_X_leading (RPc D vwCl cI cJ cZ [.int p0, .int p1, .int p2, .int p3] (wv_5 cI cJ cZ)) (RQ (some (.int o))) 0 0 (fun _ => False) := by
  refine Met.ofW (cc := b_X_leading) (maxL := 4) (ret := (some .int)) (by decide) rfl ?_
  intro p e s m args below meth c s₁ B hml hv
  obtain ⟨rfl, hP, hK⟩ := hv
  have hx := B.exec
  have hb := B.bytes
  have hr := B.returns
  have hts : ∀ w ∈ BG, w.before _ s = true := fun w h => atoms_spec (ws := (ws_X_leading)) B.pre w (List.mem_cons_of_mem _ h)
  have hown : s.vm.findClass RR_X = some m.cls := findClass_of_methodNamed B.named
  have hlocks := B.notSynchronized
  have hl := lv_entry ([.int p0, .int p1, .int p2, .int p3]) (n := 4) (Nat.le_of_ble_eq_true rfl)
  rw [lg_entry_eq]
  generalize (lg_sl ([.int p0, .int p1, .int p2, .int p3]) ++ List.replicate (4 - (lg_sl ([.int p0, .int p1, .int p2, .int p3])).length) Slot.unset).toArray = ls at hl ⊢
  have hl : lv_has ls 4 [(0, .int p0), (1, .int p1), (2, .int p2), (3, .int p3)] := hl
  rw [f_X_leading] at hf
  refine lv_iload_n hx hb d_X_leading_0 rfl (lv_at hl 0 rfl) ?_
  refine lv_iconst (v := -1) hx hb d_X_leading_1 (by decide) ?_
  refine lv_icmp_ne (tgt := 7) hx hb d_X_leading_2 (by decide) (fun c1 => ?_) (fun c1 => ?_)
  · have hf := ite_f c1 hf
    refine lv_iload_n hx hb d_X_leading_7 rfl (lv_at hl 1 rfl) ?_
    refine lv_iconst (v := -1) hx hb d_X_leading_8 (by decide) ?_
    refine lv_icmp_ne (tgt := 14) hx hb d_X_leading_9 (by decide) (fun c2 => ?_) (fun c2 => ?_)
    · have hf := ite_f c2 hf
      refine lv_iload_n hx hb d_X_leading_14 rfl (lv_at hl 2 rfl) ?_
      refine lv_iconst (v := -1) hx hb d_X_leading_15 (by decide) ?_
      refine lv_icmp_ne (tgt := 21) hx hb d_X_leading_16 (by decide) (fun c3 => ?_) (fun c3 => ?_)
      · have hf := ite_f c3 hf
        refine lv_iload_n hx hb d_X_leading_21 rfl (lv_at hl 3 rfl) ?_
        refine lv_iconst (v := -1) hx hb d_X_leading_22 (by decide) ?_
        refine lv_icmp_ne (tgt := 30) hx hb d_X_leading_23 (by decide) (fun c4 => ?_) (fun c4 => ?_)
        · have hf := ite_f c4 hf
          refine lv_iconst (v := 4) hx hb d_X_leading_30 (by decide) ?_
          obtain rfl := Option.some.inj hf
          exact W.iret (v := (4 : Int32)) hx hb hr (fun t ht hW => ⟨rfl, ht⟩) (fun q h => by cases h) d_X_leading_31
        · have hf := ite_t c4 hf
          refine lv_iconst (v := 3) hx hb d_X_leading_26 (by decide) ?_
          refine lv_goto (tgt := 31) hx hb d_X_leading_27 (by decide) ?_
          obtain rfl := Option.some.inj hf
          exact W.iret (v := (3 : Int32)) hx hb hr (fun t ht hW => ⟨rfl, ht⟩) (fun q h => by cases h) d_X_leading_31
      · have hf := ite_t c3 hf
        refine lv_iconst (v := 2) hx hb d_X_leading_19 (by decide) ?_
        obtain rfl := Option.some.inj hf
        exact W.iret (v := (2 : Int32)) hx hb hr (fun t ht hW => ⟨rfl, ht⟩) (fun q h => by cases h) d_X_leading_20
    · have hf := ite_t c2 hf
      refine lv_iconst (v := 1) hx hb d_X_leading_12 (by decide) ?_
      obtain rfl := Option.some.inj hf
      exact W.iret (v := (1 : Int32)) hx hb hr (fun t ht hW => ⟨rfl, ht⟩) (fun q h => by cases h) d_X_leading_13
  · have hf := ite_t c1 hf
    refine lv_iconst (v := 0) hx hb d_X_leading_5 (by decide) ?_
    obtain rfl := Option.some.inj hf
    exact W.iret (v := (0 : Int32)) hx hb hr (fun t ht hW => ⟨rfl, ht⟩) (fun q h => by cases h) d_X_leading_6
def f_X_areTerms_B49 (T_count : Int32) (x1_49 : Int32) (x5_49 : Int32) : Option (Int32) :=
  if x1_49 < (4 : Int32) then
    some (1 : Int32)
  else
    (f_T_has T_count x5_49).bind fun r11 =>
    if r11 = 0 then
      some (0 : Int32)
    else
      some (1 : Int32)
def f_X_areTerms_B32 (T_count : Int32) (x1_32 : Int32) (x4_32 : Int32) (x5_32 : Int32) : Option (Int32) :=
  if x1_32 < (3 : Int32) then
    f_X_areTerms_B49 T_count x1_32 x5_32
  else
    (f_T_has T_count x4_32).bind fun r8 =>
    if r8 = 0 then
      some (0 : Int32)
    else
      f_X_areTerms_B49 T_count x1_32 x5_32
def f_X_areTerms_B16 (T_count : Int32) (x1_16 : Int32) (x3_16 : Int32) (x4_16 : Int32) (x5_16 : Int32) : Option (Int32) :=
  if x1_16 < (2 : Int32) then
    f_X_areTerms_B32 T_count x1_16 x4_16 x5_16
  else
    (f_T_has T_count x3_16).bind fun r5 =>
    if r5 = 0 then
      some (0 : Int32)
    else
      f_X_areTerms_B32 T_count x1_16 x4_16 x5_16
def f_X_areTerms (T_count : Int32) (p0 : Int32) (p1 : Int32) (p2 : Int32) (p3 : Int32) (p4 : Int32) : Option (Int32) :=
  if p0 < (1 : Int32) then
    f_X_areTerms_B16 T_count p0 p2 p3 p4
  else
    (f_T_has T_count p1).bind fun r2 =>
    if r2 = 0 then
      some (0 : Int32)
    else
      f_X_areTerms_B16 T_count p0 p2 p3 p4
abbrev rm_X_areTerms : Room := { frames := 1, cells := 0, slots := 0, locals := 21 }
set_option maxHeartbeats 4000000 in
set_option maxRecDepth 100000 in
theorem c_X_areTerms (l : Launch) (D : va_G) (cI cJ cZ : ClassId) (aX aX_arities aT aT_heads aT_places aT_olders aT_sizes aT_withins aT_newest aS aM aF aE aH : Nat) (X_namesUsed : Int32) (T_count : Int32) (p0 : Int32) (p1 : Int32) (p2 : Int32) (p3 : Int32) (p4 : Int32) (o : Int32) (hf : f_X_areTerms T_count p0 p1 p2 p3 p4 = some o) : Met l y_X_areTerms (ws_X_areTerms) rm_X_areTerms (RPc D vwCl cI cJ cZ [.ref aX, .int p0, .int p1, .int p2, .int p3, .int p4] (wv_70 cI cJ cZ aX aX_arities aT aT_heads aT_places aT_olders aT_sizes aT_withins aT_newest aS aM aF aE aH X_namesUsed T_count)) (RQ (some (.int o))) 0 0 (fun _ => False) := by
  refine Met.ofW (cc := b_X_areTerms) (maxL := 6) (ret := (some .boolean)) (by decide) rfl ?_
  intro p e s m args below meth c s₁ B hml hv
  obtain ⟨rfl, hP, hK⟩ := hv
  have hx := B.exec
  have hb := B.bytes
  have hr := B.returns
  have hts : ∀ w ∈ BG, w.before _ s = true := fun w h => atoms_spec (ws := (ws_X_areTerms)) B.pre w (List.mem_cons_of_mem _ h)
  have hown : s.vm.findClass RR_X = some m.cls := findClass_of_methodNamed B.named
  have hlocks := B.notSynchronized
  have hl := lv_entry ([.ref aX, .int p0, .int p1, .int p2, .int p3, .int p4]) (n := 6) (Nat.le_of_ble_eq_true rfl)
  rw [lg_entry_eq]
  generalize (lg_sl ([.ref aX, .int p0, .int p1, .int p2, .int p3, .int p4]) ++ List.replicate (6 - (lg_sl ([.ref aX, .int p0, .int p1, .int p2, .int p3, .int p4])).length) Slot.unset).toArray = ls at hl ⊢
  have hl : lv_has ls 6 [(0, .ref aX), (1, .int p0), (2, .int p1), (3, .int p2), (4, .int p3), (5, .int p4)] := hl
  have hB49 : ∀ (x1_49 : Int32) (x5_49 : Int32), ∀ (ls : Array Slot), lv_has ls 6 [(0, .ref aX), (1, .int x1_49), (5, .int x5_49)] → f_X_areTerms_B49 T_count x1_49 x5_49 = some o → W p l e (headSpec (ws_X_areTerms) rm_X_areTerms).room s m ([.ref aX, .int p0, .int p1, .int p2, .int p3, .int p4] : List Value).toArray below meth c s.heap [] 0 0 (MQ below (RQ (some (.int o))) ([.ref aX, .int p0, .int p1, .int p2, .int p3, .int p4] : List Value).toArray s 0 0 (fun _ => False)) (F0 m 49 ls []) := by
    intro x1_49 x5_49 ls hl hf
    rw [f_X_areTerms_B49] at hf
    refine lv_iload_n hx hb d_X_areTerms_49 rfl (lv_at hl 1 rfl) ?_
    refine lv_iconst (v := 4) hx hb d_X_areTerms_50 (by decide) ?_
    refine lv_icmp_lt (tgt := 66) hx hb d_X_areTerms_51 (by decide) (fun c10 => ?_) (fun c10 => ?_)
    · have hf := ite_t c10 hf
      refine lv_iconst (v := 1) hx hb d_X_areTerms_66 (by decide) ?_
      refine lv_goto (tgt := 71) hx hb d_X_areTerms_67 (by decide) ?_
      obtain rfl := Option.some.inj hf
      exact W.zret (v := (1 : Int32)) hx hb hr rfl (fun t ht hW => ⟨rfl, ht⟩) (fun q h => by cases h) d_X_areTerms_71
    · have hf := ite_f c10 hf
      refine lv_aload_n hx hb d_X_areTerms_54 rfl (lv_at hl 0 rfl) ?_
      refine va_get (D := D) (ci := 0) (v := .ref aT) (C := RR_X) (T := FF_X) (N := 8) hx hb hts kin_X hown hK.1 hP 0 rfl rfl 0 (by decide) (hts _ k1_203) (fun _ h9 => h9) rfl d_X_areTerms_55 ?_
      refine lv_iload hx hb d_X_areTerms_58 (lv_at hl 2 rfl) ?_
      obtain ⟨r11, hr11, hf⟩ := of_bd hf
      refine rd_call (va_runV (As := [.int x5_49]) (rest := []) ⟨hx, hb, hml, hown, hts⟩ (c_T_has l D cI cJ cZ aT aT_heads aT_places aT_olders aT_sizes aT_withins aT_newest T_count x5_49 r11 hr11) (bigV 1 hts k1_232 k1_233 k1_234 k1_2 k1_235 rfl rfl hd_T_has ⟨Nat.le_of_ble_eq_true rfl, Nat.le_of_ble_eq_true rfl⟩) (rd_preV hK hP [1] rfl 1 rfl rfl rfl) rfl rfl hl.1 rfl (lv_room (Nat.le_of_ble_eq_true rfl)) d_X_areTerms_60 ⟨Nat.le_of_ble_eq_true rfl, Nat.le_of_ble_eq_true rfl⟩) ?_
      refine lv_if_eq (tgt := 70) hx hb d_X_areTerms_63 (by decide) (fun c12 => ?_) (fun c12 => ?_)
      · have hf := ite_t c12 hf
        refine lv_iconst (v := 0) hx hb d_X_areTerms_70 (by decide) ?_
        obtain rfl := Option.some.inj hf
        exact W.zret (v := (0 : Int32)) hx hb hr rfl (fun t ht hW => ⟨rfl, ht⟩) (fun q h => by cases h) d_X_areTerms_71
      · have hf := ite_f c12 hf
        refine lv_iconst (v := 1) hx hb d_X_areTerms_66 (by decide) ?_
        refine lv_goto (tgt := 71) hx hb d_X_areTerms_67 (by decide) ?_
        obtain rfl := Option.some.inj hf
        exact W.zret (v := (1 : Int32)) hx hb hr rfl (fun t ht hW => ⟨rfl, ht⟩) (fun q h => by cases h) d_X_areTerms_71
  have hB32 : ∀ (x1_32 : Int32) (x4_32 : Int32) (x5_32 : Int32), ∀ (ls : Array Slot), lv_has ls 6 [(0, .ref aX), (1, .int x1_32), (4, .int x4_32), (5, .int x5_32)] → f_X_areTerms_B32 T_count x1_32 x4_32 x5_32 = some o → W p l e (headSpec (ws_X_areTerms) rm_X_areTerms).room s m ([.ref aX, .int p0, .int p1, .int p2, .int p3, .int p4] : List Value).toArray below meth c s.heap [] 0 0 (MQ below (RQ (some (.int o))) ([.ref aX, .int p0, .int p1, .int p2, .int p3, .int p4] : List Value).toArray s 0 0 (fun _ => False)) (F0 m 32 ls []) := by
    intro x1_32 x4_32 x5_32 ls hl hf
    rw [f_X_areTerms_B32] at hf
    refine lv_iload_n hx hb d_X_areTerms_32 rfl (lv_at hl 1 rfl) ?_
    refine lv_iconst (v := 3) hx hb d_X_areTerms_33 (by decide) ?_
    refine lv_icmp_lt (tgt := 49) hx hb d_X_areTerms_34 (by decide) (fun c7 => ?_) (fun c7 => ?_)
    · have hf := ite_t c7 hf
      exact hB49 _ _ _ (lv_sub hl [0, 1, 3] rfl) hf
    · have hf := ite_f c7 hf
      refine lv_aload_n hx hb d_X_areTerms_37 rfl (lv_at hl 0 rfl) ?_
      refine va_get (D := D) (ci := 0) (v := .ref aT) (C := RR_X) (T := FF_X) (N := 8) hx hb hts kin_X hown hK.1 hP 0 rfl rfl 0 (by decide) (hts _ k1_203) (fun _ h9 => h9) rfl d_X_areTerms_38 ?_
      refine lv_iload hx hb d_X_areTerms_41 (lv_at hl 2 rfl) ?_
      obtain ⟨r8, hr8, hf⟩ := of_bd hf
      refine rd_call (va_runV (As := [.int x4_32]) (rest := []) ⟨hx, hb, hml, hown, hts⟩ (c_T_has l D cI cJ cZ aT aT_heads aT_places aT_olders aT_sizes aT_withins aT_newest T_count x4_32 r8 hr8) (bigV 1 hts k1_232 k1_233 k1_234 k1_2 k1_235 rfl rfl hd_T_has ⟨Nat.le_of_ble_eq_true rfl, Nat.le_of_ble_eq_true rfl⟩) (rd_preV hK hP [1] rfl 1 rfl rfl rfl) rfl rfl hl.1 rfl (lv_room (Nat.le_of_ble_eq_true rfl)) d_X_areTerms_43 ⟨Nat.le_of_ble_eq_true rfl, Nat.le_of_ble_eq_true rfl⟩) ?_
      refine lv_if_eq (tgt := 70) hx hb d_X_areTerms_46 (by decide) (fun c9 => ?_) (fun c9 => ?_)
      · have hf := ite_t c9 hf
        refine lv_iconst (v := 0) hx hb d_X_areTerms_70 (by decide) ?_
        obtain rfl := Option.some.inj hf
        exact W.zret (v := (0 : Int32)) hx hb hr rfl (fun t ht hW => ⟨rfl, ht⟩) (fun q h => by cases h) d_X_areTerms_71
      · have hf := ite_f c9 hf
        exact hB49 _ _ _ (lv_sub hl [0, 1, 3] rfl) hf
  have hB16 : ∀ (x1_16 : Int32) (x3_16 : Int32) (x4_16 : Int32) (x5_16 : Int32), ∀ (ls : Array Slot), lv_has ls 6 [(0, .ref aX), (1, .int x1_16), (3, .int x3_16), (4, .int x4_16), (5, .int x5_16)] → f_X_areTerms_B16 T_count x1_16 x3_16 x4_16 x5_16 = some o → W p l e (headSpec (ws_X_areTerms) rm_X_areTerms).room s m ([.ref aX, .int p0, .int p1, .int p2, .int p3, .int p4] : List Value).toArray below meth c s.heap [] 0 0 (MQ below (RQ (some (.int o))) ([.ref aX, .int p0, .int p1, .int p2, .int p3, .int p4] : List Value).toArray s 0 0 (fun _ => False)) (F0 m 16 ls []) := by
    intro x1_16 x3_16 x4_16 x5_16 ls hl hf
    rw [f_X_areTerms_B16] at hf
    refine lv_iload_n hx hb d_X_areTerms_16 rfl (lv_at hl 1 rfl) ?_
    refine lv_iconst (v := 2) hx hb d_X_areTerms_17 (by decide) ?_
    refine lv_icmp_lt (tgt := 32) hx hb d_X_areTerms_18 (by decide) (fun c4 => ?_) (fun c4 => ?_)
    · have hf := ite_t c4 hf
      exact hB32 _ _ _ _ (lv_sub hl [0, 1, 3, 4] rfl) hf
    · have hf := ite_f c4 hf
      refine lv_aload_n hx hb d_X_areTerms_21 rfl (lv_at hl 0 rfl) ?_
      refine va_get (D := D) (ci := 0) (v := .ref aT) (C := RR_X) (T := FF_X) (N := 8) hx hb hts kin_X hown hK.1 hP 0 rfl rfl 0 (by decide) (hts _ k1_203) (fun _ h9 => h9) rfl d_X_areTerms_22 ?_
      refine lv_iload_n hx hb d_X_areTerms_25 rfl (lv_at hl 2 rfl) ?_
      obtain ⟨r5, hr5, hf⟩ := of_bd hf
      refine rd_call (va_runV (As := [.int x3_16]) (rest := []) ⟨hx, hb, hml, hown, hts⟩ (c_T_has l D cI cJ cZ aT aT_heads aT_places aT_olders aT_sizes aT_withins aT_newest T_count x3_16 r5 hr5) (bigV 1 hts k1_232 k1_233 k1_234 k1_2 k1_235 rfl rfl hd_T_has ⟨Nat.le_of_ble_eq_true rfl, Nat.le_of_ble_eq_true rfl⟩) (rd_preV hK hP [1] rfl 1 rfl rfl rfl) rfl rfl hl.1 rfl (lv_room (Nat.le_of_ble_eq_true rfl)) d_X_areTerms_26 ⟨Nat.le_of_ble_eq_true rfl, Nat.le_of_ble_eq_true rfl⟩) ?_
      refine lv_if_eq (tgt := 70) hx hb d_X_areTerms_29 (by decide) (fun c6 => ?_) (fun c6 => ?_)
      · have hf := ite_t c6 hf
        refine lv_iconst (v := 0) hx hb d_X_areTerms_70 (by decide) ?_
        obtain rfl := Option.some.inj hf
        exact W.zret (v := (0 : Int32)) hx hb hr rfl (fun t ht hW => ⟨rfl, ht⟩) (fun q h => by cases h) d_X_areTerms_71
      · have hf := ite_f c6 hf
        exact hB32 _ _ _ _ (lv_sub hl [0, 1, 3, 4] rfl) hf
  rw [f_X_areTerms] at hf
  refine lv_iload_n hx hb d_X_areTerms_0 rfl (lv_at hl 1 rfl) ?_
  refine lv_iconst (v := 1) hx hb d_X_areTerms_1 (by decide) ?_
  refine lv_icmp_lt (tgt := 16) hx hb d_X_areTerms_2 (by decide) (fun c1 => ?_) (fun c1 => ?_)
  · have hf := ite_t c1 hf
    exact hB16 _ _ _ _ _ (lv_sub hl [0, 1, 3, 4, 5] rfl) hf
  · have hf := ite_f c1 hf
    refine lv_aload_n hx hb d_X_areTerms_5 rfl (lv_at hl 0 rfl) ?_
    refine va_get (D := D) (ci := 0) (v := .ref aT) (C := RR_X) (T := FF_X) (N := 8) hx hb hts kin_X hown hK.1 hP 0 rfl rfl 0 (by decide) (hts _ k1_203) (fun _ h9 => h9) rfl d_X_areTerms_6 ?_
    refine lv_iload_n hx hb d_X_areTerms_9 rfl (lv_at hl 2 rfl) ?_
    obtain ⟨r2, hr2, hf⟩ := of_bd hf
    refine rd_call (va_runV (As := [.int p1]) (rest := []) ⟨hx, hb, hml, hown, hts⟩ (c_T_has l D cI cJ cZ aT aT_heads aT_places aT_olders aT_sizes aT_withins aT_newest T_count p1 r2 hr2) (bigV 1 hts k1_232 k1_233 k1_234 k1_2 k1_235 rfl rfl hd_T_has ⟨Nat.le_of_ble_eq_true rfl, Nat.le_of_ble_eq_true rfl⟩) (rd_preV hK hP [1] rfl 1 rfl rfl rfl) rfl rfl hl.1 rfl (lv_room (Nat.le_of_ble_eq_true rfl)) d_X_areTerms_10 ⟨Nat.le_of_ble_eq_true rfl, Nat.le_of_ble_eq_true rfl⟩) ?_
    refine lv_if_eq (tgt := 70) hx hb d_X_areTerms_13 (by decide) (fun c3 => ?_) (fun c3 => ?_)
    · have hf := ite_t c3 hf
      refine lv_iconst (v := 0) hx hb d_X_areTerms_70 (by decide) ?_
      obtain rfl := Option.some.inj hf
      exact W.zret (v := (0 : Int32)) hx hb hr rfl (fun t ht hW => ⟨rfl, ht⟩) (fun q h => by cases h) d_X_areTerms_71
    · have hf := ite_f c3 hf
      exact hB16 _ _ _ _ _ (lv_sub hl [0, 1, 3, 4, 5] rfl) hf
def f_X_holeStandsIn_B57 (T_count : Int32) (nT_withins : Nat) (T_withins : (Nat → Int64)) (x1_57 : Int32) (x5_57 : Int32) : Option (Int32) :=
  if x1_57 ≤ (3 : Int32) then
    some (0 : Int32)
  else
    (f_T_holds T_count nT_withins T_withins x5_57 (4123168604160 : Int64)).bind fun r11 =>
    if r11 = 0 then
      some (0 : Int32)
    else
      some (1 : Int32)
def f_X_holeStandsIn_B37 (T_count : Int32) (nT_withins : Nat) (T_withins : (Nat → Int64)) (x1_37 : Int32) (x4_37 : Int32) (x5_37 : Int32) : Option (Int32) :=
  if x1_37 ≤ (2 : Int32) then
    f_X_holeStandsIn_B57 T_count nT_withins T_withins x1_37 x5_37
  else
    (f_T_holds T_count nT_withins T_withins x4_37 (4123168604160 : Int64)).bind fun r8 =>
    if r8 = 0 then
      f_X_holeStandsIn_B57 T_count nT_withins T_withins x1_37 x5_37
    else
      some (1 : Int32)
def f_X_holeStandsIn_B18 (T_count : Int32) (nT_withins : Nat) (T_withins : (Nat → Int64)) (x1_18 : Int32) (x3_18 : Int32) (x4_18 : Int32) (x5_18 : Int32) : Option (Int32) :=
  if x1_18 ≤ (1 : Int32) then
    f_X_holeStandsIn_B37 T_count nT_withins T_withins x1_18 x4_18 x5_18
  else
    (f_T_holds T_count nT_withins T_withins x3_18 (4123168604160 : Int64)).bind fun r5 =>
    if r5 = 0 then
      f_X_holeStandsIn_B37 T_count nT_withins T_withins x1_18 x4_18 x5_18
    else
      some (1 : Int32)
def f_X_holeStandsIn (T_count : Int32) (nT_withins : Nat) (T_withins : (Nat → Int64)) (p0 : Int32) (p1 : Int32) (p2 : Int32) (p3 : Int32) (p4 : Int32) : Option (Int32) :=
  if p0 ≤ 0 then
    f_X_holeStandsIn_B18 T_count nT_withins T_withins p0 p2 p3 p4
  else
    (f_T_holds T_count nT_withins T_withins p1 (4123168604160 : Int64)).bind fun r2 =>
    if r2 = 0 then
      f_X_holeStandsIn_B18 T_count nT_withins T_withins p0 p2 p3 p4
    else
      some (1 : Int32)
abbrev rm_X_holeStandsIn : Room := { frames := 1, cells := 0, slots := 0, locals := 23 }
set_option maxHeartbeats 4000000 in
set_option maxRecDepth 100000 in
theorem c_X_holeStandsIn (l : Launch) (D : va_G) (cI cJ cZ : ClassId) (aX aX_arities aT aT_heads aT_places aT_olders aT_sizes aT_withins aT_newest aS aM aF aE aH : Nat) (X_namesUsed : Int32) (T_count : Int32) (nT_withins : Nat) (T_withins : (Nat → Int64)) (p0 : Int32) (p1 : Int32) (p2 : Int32) (p3 : Int32) (p4 : Int32) (o : Int32) (hf : f_X_holeStandsIn T_count nT_withins T_withins p0 p1 p2 p3 p4 = some o) : Met l y_X_holeStandsIn (ws_X_holeStandsIn) rm_X_holeStandsIn (RPc D vwCl cI cJ cZ [.ref aX, .int p0, .int p1, .int p2, .int p3, .int p4] (wv_71 cI cJ cZ aX aX_arities aT aT_heads aT_places aT_olders aT_sizes aT_withins aT_newest aS aM aF aE aH X_namesUsed T_count nT_withins T_withins)) (RQ (some (.int o))) 0 0 (fun _ => False) := by
  refine Met.ofW (cc := b_X_holeStandsIn) (maxL := 6) (ret := (some .boolean)) (by decide) rfl ?_
  intro p e s m args below meth c s₁ B hml hv
  obtain ⟨rfl, hP, hK⟩ := hv
  have hx := B.exec
  have hb := B.bytes
  have hr := B.returns
  have hts : ∀ w ∈ BG, w.before _ s = true := fun w h => atoms_spec (ws := (ws_X_holeStandsIn)) B.pre w (List.mem_cons_of_mem _ h)
  have hown : s.vm.findClass RR_X = some m.cls := findClass_of_methodNamed B.named
  have hlocks := B.notSynchronized
  have hl := lv_entry ([.ref aX, .int p0, .int p1, .int p2, .int p3, .int p4]) (n := 6) (Nat.le_of_ble_eq_true rfl)
  rw [lg_entry_eq]
  generalize (lg_sl ([.ref aX, .int p0, .int p1, .int p2, .int p3, .int p4]) ++ List.replicate (6 - (lg_sl ([.ref aX, .int p0, .int p1, .int p2, .int p3, .int p4])).length) Slot.unset).toArray = ls at hl ⊢
  have hl : lv_has ls 6 [(0, .ref aX), (1, .int p0), (2, .int p1), (3, .int p2), (4, .int p3), (5, .int p4)] := hl
  have hB57 : ∀ (x1_57 : Int32) (x5_57 : Int32), ∀ (ls : Array Slot), lv_has ls 6 [(0, .ref aX), (1, .int x1_57), (5, .int x5_57)] → f_X_holeStandsIn_B57 T_count nT_withins T_withins x1_57 x5_57 = some o → W p l e (headSpec (ws_X_holeStandsIn) rm_X_holeStandsIn).room s m ([.ref aX, .int p0, .int p1, .int p2, .int p3, .int p4] : List Value).toArray below meth c s.heap [] 0 0 (MQ below (RQ (some (.int o))) ([.ref aX, .int p0, .int p1, .int p2, .int p3, .int p4] : List Value).toArray s 0 0 (fun _ => False)) (F0 m 57 ls []) := by
    intro x1_57 x5_57 ls hl hf
    rw [f_X_holeStandsIn_B57] at hf
    refine lv_iload_n hx hb d_X_holeStandsIn_57 rfl (lv_at hl 1 rfl) ?_
    refine lv_iconst (v := 3) hx hb d_X_holeStandsIn_58 (by decide) ?_
    refine lv_icmp_le (tgt := 81) hx hb d_X_holeStandsIn_59 (by decide) (fun c10 => ?_) (fun c10 => ?_)
    · have hf := ite_t c10 hf
      refine lv_iconst (v := 0) hx hb d_X_holeStandsIn_81 (by decide) ?_
      obtain rfl := Option.some.inj hf
      exact W.zret (v := (0 : Int32)) hx hb hr rfl (fun t ht hW => ⟨rfl, ht⟩) (fun q h => by cases h) d_X_holeStandsIn_82
    · have hf := ite_f c10 hf
      refine lv_aload_n hx hb d_X_holeStandsIn_62 rfl (lv_at hl 0 rfl) ?_
      refine va_get (D := D) (ci := 0) (v := .ref aT) (C := RR_X) (T := FF_X) (N := 8) hx hb hts kin_X hown hK.1 hP 0 rfl rfl 0 (by decide) (hts _ k1_203) (fun _ h9 => h9) rfl d_X_holeStandsIn_63 ?_
      refine lv_iload hx hb d_X_holeStandsIn_66 (lv_at hl 2 rfl) ?_
      refine lv_ldc2 (v := 4123168604160) hx hb hown (hts _ k2_57) d_X_holeStandsIn_68 ?_
      obtain ⟨r11, hr11, hf⟩ := of_bd hf
      refine rd_call (va_runV (As := [.int x5_57, .long (4123168604160 : Int64)]) (rest := []) ⟨hx, hb, hml, hown, hts⟩ (c_T_holds l D cI cJ cZ aT aT_heads aT_places aT_olders aT_sizes aT_withins aT_newest T_count nT_withins T_withins x5_57 (4123168604160 : Int64) r11 hr11) (bigV 2 hts k3_48 k2_77 k2_78 k1_2 k2_79 rfl rfl hd_T_holds ⟨Nat.le_of_ble_eq_true rfl, Nat.le_of_ble_eq_true rfl⟩) (rd_preV hK hP [1, 2] rfl 1 rfl rfl rfl) rfl rfl hl.1 rfl (lv_room (Nat.le_of_ble_eq_true rfl)) d_X_holeStandsIn_71 ⟨Nat.le_of_ble_eq_true rfl, Nat.le_of_ble_eq_true rfl⟩) ?_
      refine lv_if_eq (tgt := 81) hx hb d_X_holeStandsIn_74 (by decide) (fun c12 => ?_) (fun c12 => ?_)
      · have hf := ite_t c12 hf
        refine lv_iconst (v := 0) hx hb d_X_holeStandsIn_81 (by decide) ?_
        obtain rfl := Option.some.inj hf
        exact W.zret (v := (0 : Int32)) hx hb hr rfl (fun t ht hW => ⟨rfl, ht⟩) (fun q h => by cases h) d_X_holeStandsIn_82
      · have hf := ite_f c12 hf
        refine lv_iconst (v := 1) hx hb d_X_holeStandsIn_77 (by decide) ?_
        refine lv_goto (tgt := 82) hx hb d_X_holeStandsIn_78 (by decide) ?_
        obtain rfl := Option.some.inj hf
        exact W.zret (v := (1 : Int32)) hx hb hr rfl (fun t ht hW => ⟨rfl, ht⟩) (fun q h => by cases h) d_X_holeStandsIn_82
  have hB37 : ∀ (x1_37 : Int32) (x4_37 : Int32) (x5_37 : Int32), ∀ (ls : Array Slot), lv_has ls 6 [(0, .ref aX), (1, .int x1_37), (4, .int x4_37), (5, .int x5_37)] → f_X_holeStandsIn_B37 T_count nT_withins T_withins x1_37 x4_37 x5_37 = some o → W p l e (headSpec (ws_X_holeStandsIn) rm_X_holeStandsIn).room s m ([.ref aX, .int p0, .int p1, .int p2, .int p3, .int p4] : List Value).toArray below meth c s.heap [] 0 0 (MQ below (RQ (some (.int o))) ([.ref aX, .int p0, .int p1, .int p2, .int p3, .int p4] : List Value).toArray s 0 0 (fun _ => False)) (F0 m 37 ls []) := by
    intro x1_37 x4_37 x5_37 ls hl hf
    rw [f_X_holeStandsIn_B37] at hf
    refine lv_iload_n hx hb d_X_holeStandsIn_37 rfl (lv_at hl 1 rfl) ?_
    refine lv_iconst (v := 2) hx hb d_X_holeStandsIn_38 (by decide) ?_
    refine lv_icmp_le (tgt := 57) hx hb d_X_holeStandsIn_39 (by decide) (fun c7 => ?_) (fun c7 => ?_)
    · have hf := ite_t c7 hf
      exact hB57 _ _ _ (lv_sub hl [0, 1, 3] rfl) hf
    · have hf := ite_f c7 hf
      refine lv_aload_n hx hb d_X_holeStandsIn_42 rfl (lv_at hl 0 rfl) ?_
      refine va_get (D := D) (ci := 0) (v := .ref aT) (C := RR_X) (T := FF_X) (N := 8) hx hb hts kin_X hown hK.1 hP 0 rfl rfl 0 (by decide) (hts _ k1_203) (fun _ h9 => h9) rfl d_X_holeStandsIn_43 ?_
      refine lv_iload hx hb d_X_holeStandsIn_46 (lv_at hl 2 rfl) ?_
      refine lv_ldc2 (v := 4123168604160) hx hb hown (hts _ k2_57) d_X_holeStandsIn_48 ?_
      obtain ⟨r8, hr8, hf⟩ := of_bd hf
      refine rd_call (va_runV (As := [.int x4_37, .long (4123168604160 : Int64)]) (rest := []) ⟨hx, hb, hml, hown, hts⟩ (c_T_holds l D cI cJ cZ aT aT_heads aT_places aT_olders aT_sizes aT_withins aT_newest T_count nT_withins T_withins x4_37 (4123168604160 : Int64) r8 hr8) (bigV 2 hts k3_48 k2_77 k2_78 k1_2 k2_79 rfl rfl hd_T_holds ⟨Nat.le_of_ble_eq_true rfl, Nat.le_of_ble_eq_true rfl⟩) (rd_preV hK hP [1, 2] rfl 1 rfl rfl rfl) rfl rfl hl.1 rfl (lv_room (Nat.le_of_ble_eq_true rfl)) d_X_holeStandsIn_51 ⟨Nat.le_of_ble_eq_true rfl, Nat.le_of_ble_eq_true rfl⟩) ?_
      refine lv_if_ne (tgt := 77) hx hb d_X_holeStandsIn_54 (by decide) (fun c9 => ?_) (fun c9 => ?_)
      · have hf := ite_f c9 hf
        refine lv_iconst (v := 1) hx hb d_X_holeStandsIn_77 (by decide) ?_
        refine lv_goto (tgt := 82) hx hb d_X_holeStandsIn_78 (by decide) ?_
        obtain rfl := Option.some.inj hf
        exact W.zret (v := (1 : Int32)) hx hb hr rfl (fun t ht hW => ⟨rfl, ht⟩) (fun q h => by cases h) d_X_holeStandsIn_82
      · have hf := ite_t c9 hf
        exact hB57 _ _ _ (lv_sub hl [0, 1, 3] rfl) hf
  have hB18 : ∀ (x1_18 : Int32) (x3_18 : Int32) (x4_18 : Int32) (x5_18 : Int32), ∀ (ls : Array Slot), lv_has ls 6 [(0, .ref aX), (1, .int x1_18), (3, .int x3_18), (4, .int x4_18), (5, .int x5_18)] → f_X_holeStandsIn_B18 T_count nT_withins T_withins x1_18 x3_18 x4_18 x5_18 = some o → W p l e (headSpec (ws_X_holeStandsIn) rm_X_holeStandsIn).room s m ([.ref aX, .int p0, .int p1, .int p2, .int p3, .int p4] : List Value).toArray below meth c s.heap [] 0 0 (MQ below (RQ (some (.int o))) ([.ref aX, .int p0, .int p1, .int p2, .int p3, .int p4] : List Value).toArray s 0 0 (fun _ => False)) (F0 m 18 ls []) := by
    intro x1_18 x3_18 x4_18 x5_18 ls hl hf
    rw [f_X_holeStandsIn_B18] at hf
    refine lv_iload_n hx hb d_X_holeStandsIn_18 rfl (lv_at hl 1 rfl) ?_
    refine lv_iconst (v := 1) hx hb d_X_holeStandsIn_19 (by decide) ?_
    refine lv_icmp_le (tgt := 37) hx hb d_X_holeStandsIn_20 (by decide) (fun c4 => ?_) (fun c4 => ?_)
    · have hf := ite_t c4 hf
      exact hB37 _ _ _ _ (lv_sub hl [0, 1, 3, 4] rfl) hf
    · have hf := ite_f c4 hf
      refine lv_aload_n hx hb d_X_holeStandsIn_23 rfl (lv_at hl 0 rfl) ?_
      refine va_get (D := D) (ci := 0) (v := .ref aT) (C := RR_X) (T := FF_X) (N := 8) hx hb hts kin_X hown hK.1 hP 0 rfl rfl 0 (by decide) (hts _ k1_203) (fun _ h9 => h9) rfl d_X_holeStandsIn_24 ?_
      refine lv_iload_n hx hb d_X_holeStandsIn_27 rfl (lv_at hl 2 rfl) ?_
      refine lv_ldc2 (v := 4123168604160) hx hb hown (hts _ k2_57) d_X_holeStandsIn_28 ?_
      obtain ⟨r5, hr5, hf⟩ := of_bd hf
      refine rd_call (va_runV (As := [.int x3_18, .long (4123168604160 : Int64)]) (rest := []) ⟨hx, hb, hml, hown, hts⟩ (c_T_holds l D cI cJ cZ aT aT_heads aT_places aT_olders aT_sizes aT_withins aT_newest T_count nT_withins T_withins x3_18 (4123168604160 : Int64) r5 hr5) (bigV 2 hts k3_48 k2_77 k2_78 k1_2 k2_79 rfl rfl hd_T_holds ⟨Nat.le_of_ble_eq_true rfl, Nat.le_of_ble_eq_true rfl⟩) (rd_preV hK hP [1, 2] rfl 1 rfl rfl rfl) rfl rfl hl.1 rfl (lv_room (Nat.le_of_ble_eq_true rfl)) d_X_holeStandsIn_31 ⟨Nat.le_of_ble_eq_true rfl, Nat.le_of_ble_eq_true rfl⟩) ?_
      refine lv_if_ne (tgt := 77) hx hb d_X_holeStandsIn_34 (by decide) (fun c6 => ?_) (fun c6 => ?_)
      · have hf := ite_f c6 hf
        refine lv_iconst (v := 1) hx hb d_X_holeStandsIn_77 (by decide) ?_
        refine lv_goto (tgt := 82) hx hb d_X_holeStandsIn_78 (by decide) ?_
        obtain rfl := Option.some.inj hf
        exact W.zret (v := (1 : Int32)) hx hb hr rfl (fun t ht hW => ⟨rfl, ht⟩) (fun q h => by cases h) d_X_holeStandsIn_82
      · have hf := ite_t c6 hf
        exact hB37 _ _ _ _ (lv_sub hl [0, 1, 3, 4] rfl) hf
  rw [f_X_holeStandsIn] at hf
  refine lv_iload_n hx hb d_X_holeStandsIn_0 rfl (lv_at hl 1 rfl) ?_
  refine lv_if_le (tgt := 18) hx hb d_X_holeStandsIn_1 (by decide) (fun c1 => ?_) (fun c1 => ?_)
  · have hf := ite_t c1 hf
    exact hB18 _ _ _ _ _ (lv_sub hl [0, 1, 3, 4, 5] rfl) hf
  · have hf := ite_f c1 hf
    refine lv_aload_n hx hb d_X_holeStandsIn_4 rfl (lv_at hl 0 rfl) ?_
    refine va_get (D := D) (ci := 0) (v := .ref aT) (C := RR_X) (T := FF_X) (N := 8) hx hb hts kin_X hown hK.1 hP 0 rfl rfl 0 (by decide) (hts _ k1_203) (fun _ h9 => h9) rfl d_X_holeStandsIn_5 ?_
    refine lv_iload_n hx hb d_X_holeStandsIn_8 rfl (lv_at hl 2 rfl) ?_
    refine lv_ldc2 (v := 4123168604160) hx hb hown (hts _ k2_57) d_X_holeStandsIn_9 ?_
    obtain ⟨r2, hr2, hf⟩ := of_bd hf
    refine rd_call (va_runV (As := [.int p1, .long (4123168604160 : Int64)]) (rest := []) ⟨hx, hb, hml, hown, hts⟩ (c_T_holds l D cI cJ cZ aT aT_heads aT_places aT_olders aT_sizes aT_withins aT_newest T_count nT_withins T_withins p1 (4123168604160 : Int64) r2 hr2) (bigV 2 hts k3_48 k2_77 k2_78 k1_2 k2_79 rfl rfl hd_T_holds ⟨Nat.le_of_ble_eq_true rfl, Nat.le_of_ble_eq_true rfl⟩) (rd_preV hK hP [1, 2] rfl 1 rfl rfl rfl) rfl rfl hl.1 rfl (lv_room (Nat.le_of_ble_eq_true rfl)) d_X_holeStandsIn_12 ⟨Nat.le_of_ble_eq_true rfl, Nat.le_of_ble_eq_true rfl⟩) ?_
    refine lv_if_ne (tgt := 77) hx hb d_X_holeStandsIn_15 (by decide) (fun c3 => ?_) (fun c3 => ?_)
    · have hf := ite_f c3 hf
      refine lv_iconst (v := 1) hx hb d_X_holeStandsIn_77 (by decide) ?_
      refine lv_goto (tgt := 82) hx hb d_X_holeStandsIn_78 (by decide) ?_
      obtain rfl := Option.some.inj hf
      exact W.zret (v := (1 : Int32)) hx hb hr rfl (fun t ht hW => ⟨rfl, ht⟩) (fun q h => by cases h) d_X_holeStandsIn_82
    · have hf := ite_t c3 hf
      exact hB18 _ _ _ _ _ (lv_sub hl [0, 1, 3, 4, 5] rfl) hf
def f_X_binding_B62 (T_count : Int32) (nT_heads : Nat) (T_heads : (Nat → Int32)) (nT_places : Nat) (T_places : (Nat → Int32)) (nT_olders : Nat) (T_olders : (Nat → Int32)) (nT_withins : Nat) (T_withins : (Nat → Int64)) (T_newest : (Nat → Int32)) (S_count : Int32) (S_conclusions : (Nat → Int32)) (H_kind : Int32) (H_subject : Int32) (H_count : Int32) (H_statementRow : (Nat → Int32)) (H_secondRow : (Nat → Int32)) (M_images_62 : (Nat → Int32)) (x1_62 : Int32) (x2_62 : Int32) : Option (Int32 × (Nat → Int32)) :=
  (f_H_kind H_kind).bind fun r9 =>
  if r9 = (2 : Int32) then
    if x2_62 < (4 : Int32) then
      some ((-1 : Int32), M_images_62)
    else
      if (12 : Int32) ≤ x2_62 then
        some ((-1 : Int32), M_images_62)
      else
        (f_H_statement H_count H_statementRow x1_62).bind fun r13 =>
        (f_S_conclusion S_count S_conclusions r13).bind fun r14 =>
        (f_H_subject H_subject).bind fun r15 =>
        (f_M_matches T_count nT_heads T_heads nT_places T_places nT_withins T_withins M_images_62 r14 r15 (273804165120 : Int64)).bind fun r16 =>
        (f_M_imageOfLeaf T_count nT_heads T_heads nT_places T_places nT_olders T_olders T_newest r16.2 (((30 : Int32) + x2_62) - (4 : Int32))).bind fun r17 =>
        some (r17, r16.2)
  else
    some ((-1 : Int32), M_images_62)
def f_X_binding (T_count : Int32) (nT_heads : Nat) (T_heads : (Nat → Int32)) (nT_places : Nat) (T_places : (Nat → Int32)) (nT_olders : Nat) (T_olders : (Nat → Int32)) (nT_withins : Nat) (T_withins : (Nat → Int64)) (T_newest : (Nat → Int32)) (S_count : Int32) (S_conclusions : (Nat → Int32)) (M_images : (Nat → Int32)) (H_kind : Int32) (H_subject : Int32) (H_count : Int32) (H_statementRow : (Nat → Int32)) (H_secondRow : (Nat → Int32)) (p0 : Int32) (p1 : Int32) : Option (Int32 × (Nat → Int32)) :=
  (f_H_kind H_kind).bind fun r1 =>
  if r1 = (1 : Int32) then
    if p1 < (4 : Int32) then
      f_X_binding_B62 T_count nT_heads T_heads nT_places T_places nT_olders T_olders nT_withins T_withins T_newest S_count S_conclusions H_kind H_subject H_count H_statementRow H_secondRow M_images p0 p1
    else
      if (8 : Int32) ≤ p1 then
        f_X_binding_B62 T_count nT_heads T_heads nT_places T_places nT_olders T_olders nT_withins T_withins T_newest S_count S_conclusions H_kind H_subject H_count H_statementRow H_secondRow M_images p0 p1
      else
        (f_H_subject H_subject).bind fun r5 =>
        (f_H_second H_count H_secondRow p0).bind fun r6 =>
        (f_M_matches T_count nT_heads T_heads nT_places T_places nT_withins T_withins M_images r5 r6 (4123168604160 : Int64)).bind fun r7 =>
        (f_M_imageOfLeaf T_count nT_heads T_heads nT_places T_places nT_olders T_olders T_newest r7.2 (((38 : Int32) + p1) - (4 : Int32))).bind fun r8 =>
        some (r8, r7.2)
  else
    f_X_binding_B62 T_count nT_heads T_heads nT_places T_places nT_olders T_olders nT_withins T_withins T_newest S_count S_conclusions H_kind H_subject H_count H_statementRow H_secondRow M_images p0 p1
abbrev rm_X_binding : Room := { frames := 4, cells := 0, slots := 0, locals := 98 }
set_option maxHeartbeats 4000000 in
set_option maxRecDepth 100000 in
theorem c_X_binding (l : Launch) (D : va_G) (cI cJ cZ : ClassId) (aX aX_arities aT aT_heads aT_places aT_olders aT_sizes aT_withins aT_newest aS aS_premises aS_premiseCounts aS_conclusions aS_order aM aM_images aM_path aF aE aH aH_statementRow aH_firstRow aH_secondRow : Nat) (sz : Nat) (X_namesUsed : Int32) (T_count : Int32) (nT_heads : Nat) (T_heads : (Nat → Int32)) (nT_places : Nat) (T_places : (Nat → Int32)) (nT_olders : Nat) (T_olders : (Nat → Int32)) (nT_withins : Nat) (T_withins : (Nat → Int64)) (T_newest : (Nat → Int32)) (S_count : Int32) (S_conclusions : (Nat → Int32)) (M_images : (Nat → Int32)) (H_kind : Int32) (H_subject : Int32) (H_count : Int32) (H_statementRow : (Nat → Int32)) (H_secondRow : (Nat → Int32)) (p0 : Int32) (p1 : Int32) (o : Int32 × (Nat → Int32)) (hf : f_X_binding T_count nT_heads T_heads nT_places T_places nT_olders T_olders nT_withins T_withins T_newest S_count S_conclusions M_images H_kind H_subject H_count H_statementRow H_secondRow p0 p1 = some o) : Met l y_X_binding (ws_X_binding) rm_X_binding (WPc D vwCl cI cJ cZ [.ref aX, .int p0, .int p1] (wv_72 cI cJ cZ aX aX_arities aT aT_heads aT_places aT_olders aT_sizes aT_withins aT_newest aS aS_premises aS_premiseCounts aS_conclusions aS_order aM aM_images aM_path aF aE aH aH_statementRow aH_firstRow aH_secondRow X_namesUsed T_count nT_heads T_heads nT_places T_places nT_olders T_olders nT_withins T_withins T_newest S_count S_conclusions M_images H_kind H_subject H_count H_statementRow H_secondRow) sz) (WQ D vwCl (some (.int o.1)) (wv_72 cI cJ cZ aX aX_arities aT aT_heads aT_places aT_olders aT_sizes aT_withins aT_newest aS aS_premises aS_premiseCounts aS_conclusions aS_order aM aM_images aM_path aF aE aH aH_statementRow aH_firstRow aH_secondRow X_namesUsed T_count nT_heads T_heads nT_places T_places nT_olders T_olders nT_withins T_withins T_newest S_count S_conclusions o.2 H_kind H_subject H_count H_statementRow H_secondRow) (va_A (wv_72 cI cJ cZ aX aX_arities aT aT_heads aT_places aT_olders aT_sizes aT_withins aT_newest aS aS_premises aS_premiseCounts aS_conclusions aS_order aM aM_images aM_path aF aE aH aH_statementRow aH_firstRow aH_secondRow X_namesUsed T_count nT_heads T_heads nT_places T_places nT_olders T_olders nT_withins T_withins T_newest S_count S_conclusions M_images H_kind H_subject H_count H_statementRow H_secondRow) sz)) 0 0 (va_A (wv_72 cI cJ cZ aX aX_arities aT aT_heads aT_places aT_olders aT_sizes aT_withins aT_newest aS aS_premises aS_premiseCounts aS_conclusions aS_order aM aM_images aM_path aF aE aH aH_statementRow aH_firstRow aH_secondRow X_namesUsed T_count nT_heads T_heads nT_places T_places nT_olders T_olders nT_withins T_withins T_newest S_count S_conclusions M_images H_kind H_subject H_count H_statementRow H_secondRow) sz) := by
  refine Met.ofW (cc := b_X_binding) (maxL := 3) (ret := (some .int)) (by decide) rfl ?_
  intro p e s m args below meth c s₁ B hml hv
  obtain ⟨rfl, rfl, hP, hK, hD0⟩ := hv
  have hx := B.exec
  have hb := B.bytes
  have hr := B.returns
  have hts : ∀ w ∈ BG, w.before _ s = true := fun w h => atoms_spec (ws := (ws_X_binding)) B.pre w (List.mem_cons_of_mem _ h)
  have hown : s.vm.findClass RR_X = some m.cls := findClass_of_methodNamed B.named
  have hlocks := B.notSynchronized
  have hD := hD0.self (sz := s.heap.size)
  have hA : ∀ q : Nat, s.heap.size ≤ q → va_A (wv_72 cI cJ cZ aX aX_arities aT aT_heads aT_places aT_olders aT_sizes aT_withins aT_newest aS aS_premises aS_premiseCounts aS_conclusions aS_order aM aM_images aM_path aF aE aH aH_statementRow aH_firstRow aH_secondRow X_namesUsed T_count nT_heads T_heads nT_places T_places nT_olders T_olders nT_withins T_withins T_newest S_count S_conclusions M_images H_kind H_subject H_count H_statementRow H_secondRow) s.heap.size q := fun q h => Or.inr h
  have hS : va_S (va_A (wv_72 cI cJ cZ aX aX_arities aT aT_heads aT_places aT_olders aT_sizes aT_withins aT_newest aS aS_premises aS_premiseCounts aS_conclusions aS_order aM aM_images aM_path aF aE aH aH_statementRow aH_firstRow aH_secondRow X_namesUsed T_count nT_heads T_heads nT_places T_places nT_olders T_olders nT_withins T_withins T_newest S_count S_conclusions M_images H_kind H_subject H_count H_statementRow H_secondRow) s.heap.size) s.heap s.heap [] := va_S.rf
  generalize va_A (wv_72 cI cJ cZ aX aX_arities aT aT_heads aT_places aT_olders aT_sizes aT_withins aT_newest aS aS_premises aS_premiseCounts aS_conclusions aS_order aM aM_images aM_path aF aE aH aH_statementRow aH_firstRow aH_secondRow X_namesUsed T_count nT_heads T_heads nT_places T_places nT_olders T_olders nT_withins T_withins T_newest S_count S_conclusions M_images H_kind H_subject H_count H_statementRow H_secondRow) s.heap.size = A at hD hA hS ⊢
  have hl := lv_entry ([.ref aX, .int p0, .int p1]) (n := 3) (Nat.le_of_ble_eq_true rfl)
  rw [lg_entry_eq]
  generalize (lg_sl ([.ref aX, .int p0, .int p1]) ++ List.replicate (3 - (lg_sl ([.ref aX, .int p0, .int p1])).length) Slot.unset).toArray = ls at hl ⊢
  have hl : lv_has ls 3 [(0, .ref aX), (1, .int p0), (2, .int p1)] := hl
  have hB62 : ∀ (M_images_62 : (Nat → Int32)) (x1_62 : Int32) (x2_62 : Int32), ∀ (H : Heap) (locs : List Loc), va_P D vwCl (wv_72 cI cJ cZ aX aX_arities aT aT_heads aT_places aT_olders aT_sizes aT_withins aT_newest aS aS_premises aS_premiseCounts aS_conclusions aS_order aM aM_images aM_path aF aE aH aH_statementRow aH_firstRow aH_secondRow X_namesUsed T_count nT_heads T_heads nT_places T_places nT_olders T_olders nT_withins T_withins T_newest S_count S_conclusions M_images_62 H_kind H_subject H_count H_statementRow H_secondRow) H → va_D A (wv_72 cI cJ cZ aX aX_arities aT aT_heads aT_places aT_olders aT_sizes aT_withins aT_newest aS aS_premises aS_premiseCounts aS_conclusions aS_order aM aM_images aM_path aF aE aH aH_statementRow aH_firstRow aH_secondRow X_namesUsed T_count nT_heads T_heads nT_places T_places nT_olders T_olders nT_withins T_withins T_newest S_count S_conclusions M_images_62 H_kind H_subject H_count H_statementRow H_secondRow) → va_S A s.heap H locs → ∀ (ls : Array Slot), lv_has ls 3 [(0, .ref aX), (1, .int x1_62), (2, .int x2_62)] → f_X_binding_B62 T_count nT_heads T_heads nT_places T_places nT_olders T_olders nT_withins T_withins T_newest S_count S_conclusions H_kind H_subject H_count H_statementRow H_secondRow M_images_62 x1_62 x2_62 = some o → W p l e (headSpec (ws_X_binding) rm_X_binding).room s m ([.ref aX, .int p0, .int p1] : List Value).toArray below meth c H locs 0 0 (MQ below (WQ D vwCl (some (.int o.1)) (wv_72 cI cJ cZ aX aX_arities aT aT_heads aT_places aT_olders aT_sizes aT_withins aT_newest aS aS_premises aS_premiseCounts aS_conclusions aS_order aM aM_images aM_path aF aE aH aH_statementRow aH_firstRow aH_secondRow X_namesUsed T_count nT_heads T_heads nT_places T_places nT_olders T_olders nT_withins T_withins T_newest S_count S_conclusions o.2 H_kind H_subject H_count H_statementRow H_secondRow) A) ([.ref aX, .int p0, .int p1] : List Value).toArray s 0 0 A) (F0 m 62 ls []) := by
    intro M_images_62 x1_62 x2_62 H locs hP hD hS ls hl hf
    rw [f_X_binding_B62] at hf
    refine lv_aload_n hx hb d_X_binding_62 rfl (lv_at hl 0 rfl) ?_
    refine va_get (D := D) (ci := 0) (v := .ref aH) (C := RR_X) (T := FF_X) (N := 8) hx hb hts kin_X hown hK.1 hP 0 rfl rfl 7 (by decide) (hts _ k1_210) (fun _ h9 => h9) rfl d_X_binding_63 ?_
    obtain ⟨r9, hr9, hf⟩ := of_bd hf
    refine rd_call (va_runV (As := []) (rest := []) ⟨hx, hb, hml, hown, hts⟩ (c_H_kind l D cI cJ cZ aH aH_statementRow aH_firstRow aH_secondRow H_kind H_subject H_count r9 hr9) (bigV 0 hts k2_49 k2_50 k2_51 k1_8 k2_52 rfl rfl hd_H_kind ⟨Nat.le_of_ble_eq_true rfl, Nat.le_of_ble_eq_true rfl⟩) (rd_preV hK hP [11] rfl 11 rfl rfl rfl) rfl rfl hl.1 rfl (lv_room (Nat.le_of_ble_eq_true rfl)) d_X_binding_66 ⟨Nat.le_of_ble_eq_true rfl, Nat.le_of_ble_eq_true rfl⟩) ?_
    refine lv_iconst (v := 2) hx hb d_X_binding_69 (by decide) ?_
    refine lv_icmp_ne (tgt := 131) hx hb d_X_binding_70 (by decide) (fun c10 => ?_) (fun c10 => ?_)
    · have hf := ite_f c10 hf
      refine lv_iconst (v := -1) hx hb d_X_binding_131 (by decide) ?_
      obtain rfl := Option.some.inj hf
      exact W.iret (v := (-1 : Int32)) hx hb hr (fun t ht hW => ⟨rfl, by rw [ht]; exact hP, hD, hS.F ht⟩) hS.2.2 d_X_binding_132
    · have hf := ite_t c10 hf
      refine lv_iload_n hx hb d_X_binding_73 rfl (lv_at hl 2 rfl) ?_
      refine lv_iconst (v := 4) hx hb d_X_binding_74 (by decide) ?_
      refine lv_icmp_lt (tgt := 131) hx hb d_X_binding_75 (by decide) (fun c11 => ?_) (fun c11 => ?_)
      · have hf := ite_t c11 hf
        refine lv_iconst (v := -1) hx hb d_X_binding_131 (by decide) ?_
        obtain rfl := Option.some.inj hf
        exact W.iret (v := (-1 : Int32)) hx hb hr (fun t ht hW => ⟨rfl, by rw [ht]; exact hP, hD, hS.F ht⟩) hS.2.2 d_X_binding_132
      · have hf := ite_f c11 hf
        refine lv_iload_n hx hb d_X_binding_78 rfl (lv_at hl 2 rfl) ?_
        refine lv_bipush (v := 12) hx hb d_X_binding_79 (by decide) ?_
        refine lv_icmp_ge (tgt := 131) hx hb d_X_binding_81 (by decide) (fun c12 => ?_) (fun c12 => ?_)
        · have hf := ite_t c12 hf
          refine lv_iconst (v := -1) hx hb d_X_binding_131 (by decide) ?_
          obtain rfl := Option.some.inj hf
          exact W.iret (v := (-1 : Int32)) hx hb hr (fun t ht hW => ⟨rfl, by rw [ht]; exact hP, hD, hS.F ht⟩) hS.2.2 d_X_binding_132
        · have hf := ite_f c12 hf
          refine lv_aload_n hx hb d_X_binding_84 rfl (lv_at hl 0 rfl) ?_
          refine va_get (D := D) (ci := 0) (v := .ref aM) (C := RR_X) (T := FF_X) (N := 8) hx hb hts kin_X hown hK.1 hP 0 rfl rfl 4 (by decide) (hts _ k1_207) (fun _ h9 => h9) rfl d_X_binding_85 ?_
          refine lv_aload_n hx hb d_X_binding_88 rfl (lv_at hl 0 rfl) ?_
          refine va_get (D := D) (ci := 0) (v := .ref aS) (C := RR_X) (T := FF_X) (N := 8) hx hb hts kin_X hown hK.1 hP 0 rfl rfl 3 (by decide) (hts _ k1_206) (fun _ h9 => h9) rfl d_X_binding_89 ?_
          refine lv_aload_n hx hb d_X_binding_92 rfl (lv_at hl 0 rfl) ?_
          refine va_get (D := D) (ci := 0) (v := .ref aH) (C := RR_X) (T := FF_X) (N := 8) hx hb hts kin_X hown hK.1 hP 0 rfl rfl 7 (by decide) (hts _ k1_210) (fun _ h9 => h9) rfl d_X_binding_93 ?_
          refine lv_iload_n hx hb d_X_binding_96 rfl (lv_at hl 1 rfl) ?_
          obtain ⟨r13, hr13, hf⟩ := of_bd hf
          refine rd_call (va_runV (As := [.int x1_62]) (rest := [.ref aS, .ref aM]) ⟨hx, hb, hml, hown, hts⟩ (c_H_statement l D cI cJ cZ aH aH_statementRow aH_firstRow aH_secondRow H_kind H_subject H_count H_statementRow x1_62 r13 hr13) (bigV 1 hts k2_32 k2_33 k2_34 k1_8 k2_35 rfl rfl hd_H_statement ⟨Nat.le_of_ble_eq_true rfl, Nat.le_of_ble_eq_true rfl⟩) (rd_preV hK hP [11, 12] rfl 11 rfl rfl rfl) rfl rfl hl.1 rfl (lv_room (Nat.le_of_ble_eq_true rfl)) d_X_binding_97 ⟨Nat.le_of_ble_eq_true rfl, Nat.le_of_ble_eq_true rfl⟩) ?_
          obtain ⟨r14, hr14, hf⟩ := of_bd hf
          refine rd_call (va_runV (As := [.int r13]) (rest := [.ref aM]) ⟨hx, hb, hml, hown, hts⟩ (c_S_conclusion l D cI cJ cZ aS aS_premises aS_premiseCounts aS_conclusions aS_order S_count S_conclusions r13 r14 hr14) (bigV 1 hts k2_100 k2_101 k2_102 k1_4 k2_103 rfl rfl hd_S_conclusion ⟨Nat.le_of_ble_eq_true rfl, Nat.le_of_ble_eq_true rfl⟩) (rd_preV hK hP [7, 8] rfl 7 rfl rfl rfl) rfl rfl hl.1 rfl (lv_room (Nat.le_of_ble_eq_true rfl)) d_X_binding_100 ⟨Nat.le_of_ble_eq_true rfl, Nat.le_of_ble_eq_true rfl⟩) ?_
          refine lv_aload_n hx hb d_X_binding_103 rfl (lv_at hl 0 rfl) ?_
          refine va_get (D := D) (ci := 0) (v := .ref aH) (C := RR_X) (T := FF_X) (N := 8) hx hb hts kin_X hown hK.1 hP 0 rfl rfl 7 (by decide) (hts _ k1_210) (fun _ h9 => h9) rfl d_X_binding_104 ?_
          obtain ⟨r15, hr15, hf⟩ := of_bd hf
          refine rd_call (va_runV (As := []) (rest := [.int r14, .ref aM]) ⟨hx, hb, hml, hown, hts⟩ (c_H_subject l D cI cJ cZ aH aH_statementRow aH_firstRow aH_secondRow H_kind H_subject H_count r15 hr15) (bigV 0 hts k2_53 k2_54 k2_55 k1_8 k2_56 rfl rfl hd_H_subject ⟨Nat.le_of_ble_eq_true rfl, Nat.le_of_ble_eq_true rfl⟩) (rd_preV hK hP [11] rfl 11 rfl rfl rfl) rfl rfl hl.1 rfl (lv_room (Nat.le_of_ble_eq_true rfl)) d_X_binding_107 ⟨Nat.le_of_ble_eq_true rfl, Nat.le_of_ble_eq_true rfl⟩) ?_
          refine lv_ldc2 (v := 273804165120) hx hb hown (hts _ k2_104) d_X_binding_110 ?_
          obtain ⟨r16, hr16, hf⟩ := of_bd hf
          refine wr_call (ws' := (wv_72 cI cJ cZ aX aX_arities aT aT_heads aT_places aT_olders aT_sizes aT_withins aT_newest aS aS_premises aS_premiseCounts aS_conclusions aS_order aM aM_images aM_path aF aE aH aH_statementRow aH_firstRow aH_secondRow X_namesUsed T_count nT_heads T_heads nT_places T_places nT_olders T_olders nT_withins T_withins T_newest S_count S_conclusions r16.2 H_kind H_subject H_count H_statementRow H_secondRow)) (va_runV (As := [.int r14, .int r15, .long (273804165120 : Int64)]) (rest := []) ⟨hx, hb, hml, hown, hts⟩ (c_M_matches l D cI cJ cZ aT aT_heads aT_places aT_olders aT_sizes aT_withins aT_newest aM aM_images aM_path _ T_count nT_heads T_heads nT_places T_places nT_withins T_withins M_images_62 r14 r15 (273804165120 : Int64) r16 hr16) (bigV 3 hts k2_58 k2_59 k2_60 k1_5 k2_61 rfl rfl hd_M_matches ⟨Nat.le_of_ble_eq_true rfl, Nat.le_of_ble_eq_true rfl⟩) (wr_preV hK hP hD [1, 2, 3, 5, 9, 10] rfl (by decide) rfl 9 rfl rfl rfl) rfl rfl hl.1 rfl (lv_room (Nat.le_of_ble_eq_true rfl)) d_X_binding_113 ⟨Nat.le_of_ble_eq_true rfl, Nat.le_of_ble_eq_true rfl⟩) hP hD hS hA [1, 2, 3, 5, 9, 10] [0, 4, 6, 7, 8, 11, 12, 13] rfl rfl (by decide) (by decide) [0, 8, 9, 10, 1, 11, 2, 3, 4, 12, 13, 5, 6, 7] (by decide) rfl (fun H locs hP hD hS => ?_)
          refine lv_pop hx hb d_X_binding_116 rfl ?_
          refine lv_aload_n hx hb d_X_binding_117 rfl (lv_at hl 0 rfl) ?_
          refine va_get (D := D) (ci := 0) (v := .ref aM) (C := RR_X) (T := FF_X) (N := 8) hx hb hts kin_X hown hK.1 hP 0 rfl rfl 4 (by decide) (hts _ k1_207) (fun _ h9 => h9) rfl d_X_binding_118 ?_
          refine lv_bipush (v := 30) hx hb d_X_binding_121 (by decide) ?_
          refine lv_iload_n hx hb d_X_binding_123 rfl (lv_at hl 2 rfl) ?_
          refine lv_iadd hx hb d_X_binding_124 ?_
          refine lv_iconst (v := 4) hx hb d_X_binding_125 (by decide) ?_
          refine lv_isub hx hb d_X_binding_126 ?_
          obtain ⟨r17, hr17, hf⟩ := of_bd hf
          refine rd_call (va_runV (As := [.int (((30 : Int32) + x2_62) - (4 : Int32))]) (rest := []) ⟨hx, hb, hml, hown, hts⟩ (c_M_imageOfLeaf l D cI cJ cZ aT aT_heads aT_places aT_olders aT_sizes aT_withins aT_newest aM aM_images aM_path T_count nT_heads T_heads nT_places T_places nT_olders T_olders T_newest r16.2 (((30 : Int32) + x2_62) - (4 : Int32)) r17 hr17) (bigV 1 hts k2_81 k2_82 k2_83 k1_5 k2_84 rfl rfl hd_M_imageOfLeaf ⟨Nat.le_of_ble_eq_true rfl, Nat.le_of_ble_eq_true rfl⟩) (rd_preV hK hP [1, 2, 3, 4, 6, 9, 10] rfl 9 rfl rfl rfl) rfl rfl hl.1 rfl (lv_room (Nat.le_of_ble_eq_true rfl)) d_X_binding_127 ⟨Nat.le_of_ble_eq_true rfl, Nat.le_of_ble_eq_true rfl⟩) ?_
          obtain rfl := Option.some.inj hf
          exact W.iret (v := r17) hx hb hr (fun t ht hW => ⟨rfl, by rw [ht]; exact hP, hD, hS.F ht⟩) hS.2.2 d_X_binding_130
  rw [f_X_binding] at hf
  refine lv_aload_n hx hb d_X_binding_0 rfl (lv_at hl 0 rfl) ?_
  refine va_get (D := D) (ci := 0) (v := .ref aH) (C := RR_X) (T := FF_X) (N := 8) hx hb hts kin_X hown hK.1 hP 0 rfl rfl 7 (by decide) (hts _ k1_210) (fun _ h9 => h9) rfl d_X_binding_1 ?_
  obtain ⟨r1, hr1, hf⟩ := of_bd hf
  refine rd_call (va_runV (As := []) (rest := []) ⟨hx, hb, hml, hown, hts⟩ (c_H_kind l D cI cJ cZ aH aH_statementRow aH_firstRow aH_secondRow H_kind H_subject H_count r1 hr1) (bigV 0 hts k2_49 k2_50 k2_51 k1_8 k2_52 rfl rfl hd_H_kind ⟨Nat.le_of_ble_eq_true rfl, Nat.le_of_ble_eq_true rfl⟩) (rd_preV hK hP [11] rfl 11 rfl rfl rfl) rfl rfl hl.1 rfl (lv_room (Nat.le_of_ble_eq_true rfl)) d_X_binding_4 ⟨Nat.le_of_ble_eq_true rfl, Nat.le_of_ble_eq_true rfl⟩) ?_
  refine lv_iconst (v := 1) hx hb d_X_binding_7 (by decide) ?_
  refine lv_icmp_ne (tgt := 62) hx hb d_X_binding_8 (by decide) (fun c2 => ?_) (fun c2 => ?_)
  · have hf := ite_f c2 hf
    exact hB62 _ _ _ _ _ hP hD hS _ (lv_sub hl [0, 1, 2] rfl) hf
  · have hf := ite_t c2 hf
    refine lv_iload_n hx hb d_X_binding_11 rfl (lv_at hl 2 rfl) ?_
    refine lv_iconst (v := 4) hx hb d_X_binding_12 (by decide) ?_
    refine lv_icmp_lt (tgt := 62) hx hb d_X_binding_13 (by decide) (fun c3 => ?_) (fun c3 => ?_)
    · have hf := ite_t c3 hf
      exact hB62 _ _ _ _ _ hP hD hS _ (lv_sub hl [0, 1, 2] rfl) hf
    · have hf := ite_f c3 hf
      refine lv_iload_n hx hb d_X_binding_16 rfl (lv_at hl 2 rfl) ?_
      refine lv_bipush (v := 8) hx hb d_X_binding_17 (by decide) ?_
      refine lv_icmp_ge (tgt := 62) hx hb d_X_binding_19 (by decide) (fun c4 => ?_) (fun c4 => ?_)
      · have hf := ite_t c4 hf
        exact hB62 _ _ _ _ _ hP hD hS _ (lv_sub hl [0, 1, 2] rfl) hf
      · have hf := ite_f c4 hf
        refine lv_aload_n hx hb d_X_binding_22 rfl (lv_at hl 0 rfl) ?_
        refine va_get (D := D) (ci := 0) (v := .ref aM) (C := RR_X) (T := FF_X) (N := 8) hx hb hts kin_X hown hK.1 hP 0 rfl rfl 4 (by decide) (hts _ k1_207) (fun _ h9 => h9) rfl d_X_binding_23 ?_
        refine lv_aload_n hx hb d_X_binding_26 rfl (lv_at hl 0 rfl) ?_
        refine va_get (D := D) (ci := 0) (v := .ref aH) (C := RR_X) (T := FF_X) (N := 8) hx hb hts kin_X hown hK.1 hP 0 rfl rfl 7 (by decide) (hts _ k1_210) (fun _ h9 => h9) rfl d_X_binding_27 ?_
        obtain ⟨r5, hr5, hf⟩ := of_bd hf
        refine rd_call (va_runV (As := []) (rest := [.ref aM]) ⟨hx, hb, hml, hown, hts⟩ (c_H_subject l D cI cJ cZ aH aH_statementRow aH_firstRow aH_secondRow H_kind H_subject H_count r5 hr5) (bigV 0 hts k2_53 k2_54 k2_55 k1_8 k2_56 rfl rfl hd_H_subject ⟨Nat.le_of_ble_eq_true rfl, Nat.le_of_ble_eq_true rfl⟩) (rd_preV hK hP [11] rfl 11 rfl rfl rfl) rfl rfl hl.1 rfl (lv_room (Nat.le_of_ble_eq_true rfl)) d_X_binding_30 ⟨Nat.le_of_ble_eq_true rfl, Nat.le_of_ble_eq_true rfl⟩) ?_
        refine lv_aload_n hx hb d_X_binding_33 rfl (lv_at hl 0 rfl) ?_
        refine va_get (D := D) (ci := 0) (v := .ref aH) (C := RR_X) (T := FF_X) (N := 8) hx hb hts kin_X hown hK.1 hP 0 rfl rfl 7 (by decide) (hts _ k1_210) (fun _ h9 => h9) rfl d_X_binding_34 ?_
        refine lv_iload_n hx hb d_X_binding_37 rfl (lv_at hl 1 rfl) ?_
        obtain ⟨r6, hr6, hf⟩ := of_bd hf
        refine rd_call (va_runV (As := [.int p0]) (rest := [.int r5, .ref aM]) ⟨hx, hb, hml, hown, hts⟩ (c_H_second l D cI cJ cZ aH aH_statementRow aH_firstRow aH_secondRow H_kind H_subject H_count H_secondRow p0 r6 hr6) (bigV 1 hts k2_41 k2_42 k2_43 k1_8 k2_44 rfl rfl hd_H_second ⟨Nat.le_of_ble_eq_true rfl, Nat.le_of_ble_eq_true rfl⟩) (rd_preV hK hP [11, 13] rfl 11 rfl rfl rfl) rfl rfl hl.1 rfl (lv_room (Nat.le_of_ble_eq_true rfl)) d_X_binding_38 ⟨Nat.le_of_ble_eq_true rfl, Nat.le_of_ble_eq_true rfl⟩) ?_
        refine lv_ldc2 (v := 4123168604160) hx hb hown (hts _ k2_57) d_X_binding_41 ?_
        obtain ⟨r7, hr7, hf⟩ := of_bd hf
        refine wr_call (ws' := (wv_72 cI cJ cZ aX aX_arities aT aT_heads aT_places aT_olders aT_sizes aT_withins aT_newest aS aS_premises aS_premiseCounts aS_conclusions aS_order aM aM_images aM_path aF aE aH aH_statementRow aH_firstRow aH_secondRow X_namesUsed T_count nT_heads T_heads nT_places T_places nT_olders T_olders nT_withins T_withins T_newest S_count S_conclusions r7.2 H_kind H_subject H_count H_statementRow H_secondRow)) (va_runV (As := [.int r5, .int r6, .long (4123168604160 : Int64)]) (rest := []) ⟨hx, hb, hml, hown, hts⟩ (c_M_matches l D cI cJ cZ aT aT_heads aT_places aT_olders aT_sizes aT_withins aT_newest aM aM_images aM_path _ T_count nT_heads T_heads nT_places T_places nT_withins T_withins M_images r5 r6 (4123168604160 : Int64) r7 hr7) (bigV 3 hts k2_58 k2_59 k2_60 k1_5 k2_61 rfl rfl hd_M_matches ⟨Nat.le_of_ble_eq_true rfl, Nat.le_of_ble_eq_true rfl⟩) (wr_preV hK hP hD [1, 2, 3, 5, 9, 10] rfl (by decide) rfl 9 rfl rfl rfl) rfl rfl hl.1 rfl (lv_room (Nat.le_of_ble_eq_true rfl)) d_X_binding_44 ⟨Nat.le_of_ble_eq_true rfl, Nat.le_of_ble_eq_true rfl⟩) hP hD hS hA [1, 2, 3, 5, 9, 10] [0, 4, 6, 7, 8, 11, 12, 13] rfl rfl (by decide) (by decide) [0, 8, 9, 10, 1, 11, 2, 3, 4, 12, 13, 5, 6, 7] (by decide) rfl (fun H locs hP hD hS => ?_)
        refine lv_pop hx hb d_X_binding_47 rfl ?_
        refine lv_aload_n hx hb d_X_binding_48 rfl (lv_at hl 0 rfl) ?_
        refine va_get (D := D) (ci := 0) (v := .ref aM) (C := RR_X) (T := FF_X) (N := 8) hx hb hts kin_X hown hK.1 hP 0 rfl rfl 4 (by decide) (hts _ k1_207) (fun _ h9 => h9) rfl d_X_binding_49 ?_
        refine lv_bipush (v := 38) hx hb d_X_binding_52 (by decide) ?_
        refine lv_iload_n hx hb d_X_binding_54 rfl (lv_at hl 2 rfl) ?_
        refine lv_iadd hx hb d_X_binding_55 ?_
        refine lv_iconst (v := 4) hx hb d_X_binding_56 (by decide) ?_
        refine lv_isub hx hb d_X_binding_57 ?_
        obtain ⟨r8, hr8, hf⟩ := of_bd hf
        refine rd_call (va_runV (As := [.int (((38 : Int32) + p1) - (4 : Int32))]) (rest := []) ⟨hx, hb, hml, hown, hts⟩ (c_M_imageOfLeaf l D cI cJ cZ aT aT_heads aT_places aT_olders aT_sizes aT_withins aT_newest aM aM_images aM_path T_count nT_heads T_heads nT_places T_places nT_olders T_olders T_newest r7.2 (((38 : Int32) + p1) - (4 : Int32)) r8 hr8) (bigV 1 hts k2_81 k2_82 k2_83 k1_5 k2_84 rfl rfl hd_M_imageOfLeaf ⟨Nat.le_of_ble_eq_true rfl, Nat.le_of_ble_eq_true rfl⟩) (rd_preV hK hP [1, 2, 3, 4, 6, 9, 10] rfl 9 rfl rfl rfl) rfl rfl hl.1 rfl (lv_room (Nat.le_of_ble_eq_true rfl)) d_X_binding_58 ⟨Nat.le_of_ble_eq_true rfl, Nat.le_of_ble_eq_true rfl⟩) ?_
        obtain rfl := Option.some.inj hf
        exact W.iret (v := r8) hx hb hr (fun t ht hW => ⟨rfl, by rw [ht]; exact hP, hD, hS.F ht⟩) hS.2.2 d_X_binding_61
def f_X_term (T_count : Int32) (nT_heads : Nat) (T_heads : (Nat → Int32)) (nT_places : Nat) (T_places : (Nat → Int32)) (nT_sizes : Nat) (T_sizes : (Nat → Int32)) (p0 : Int32) (p1 : Int32) : Option (Int32) :=
  (f_T_has T_count p0).bind fun r1 =>
  if r1 = 0 then
    some (-1 : Int32)
  else
    (f_T_head T_count nT_heads T_heads p0).bind fun r3 =>
    if p1 = 0 then
      if (30 : Int32) ≤ r3 then
        if (38 : Int32) ≤ r3 then
          some (2 : Int32)
        else
          some (1 : Int32)
      else
        some (0 : Int32)
    else
    if p1 = 1 then
      if (30 : Int32) ≤ r3 then
        if (38 : Int32) ≤ r3 then
          some (r3 - (38 : Int32))
        else
          some (r3 - (30 : Int32))
      else
        some r3
    else
    if p1 = 2 then
      (f_T_place T_count nT_places T_places p0 (p1 - (2 : Int32))).bind fun r11 =>
      some r11
    else
    if p1 = 3 then
      (f_T_place T_count nT_places T_places p0 (p1 - (2 : Int32))).bind fun r13 =>
      some r13
    else
    if p1 = 4 then
      (f_T_place T_count nT_places T_places p0 (p1 - (2 : Int32))).bind fun r15 =>
      some r15
    else
    if p1 = 5 then
      (f_T_size T_count nT_sizes T_sizes p0).bind fun r17 =>
      some r17
    else
    some (-1 : Int32)
abbrev rm_X_term : Room := { frames := 1, cells := 0, slots := 0, locals := 22 }
set_option maxHeartbeats 4000000 in
set_option maxRecDepth 100000 in
theorem c_X_term (l : Launch) (D : va_G) (cI cJ cZ : ClassId) (aX aX_arities aT aT_heads aT_places aT_olders aT_sizes aT_withins aT_newest aS aM aF aE aH : Nat) (X_namesUsed : Int32) (T_count : Int32) (nT_heads : Nat) (T_heads : (Nat → Int32)) (nT_places : Nat) (T_places : (Nat → Int32)) (nT_sizes : Nat) (T_sizes : (Nat → Int32)) (p0 : Int32) (p1 : Int32) (o : Int32) (hf : f_X_term T_count nT_heads T_heads nT_places T_places nT_sizes T_sizes p0 p1 = some o) : Met l y_X_term (ws_X_term) rm_X_term (RPc D vwCl cI cJ cZ [.ref aX, .int p0, .int p1] (wv_73 cI cJ cZ aX aX_arities aT aT_heads aT_places aT_olders aT_sizes aT_withins aT_newest aS aM aF aE aH X_namesUsed T_count nT_heads T_heads nT_places T_places nT_sizes T_sizes)) (RQ (some (.int o))) 0 0 (fun _ => False) := by
  refine Met.ofW (cc := b_X_term) (maxL := 4) (ret := (some .int)) (by decide) rfl ?_
  intro p e s m args below meth c s₁ B hml hv
  obtain ⟨rfl, hP, hK⟩ := hv
  have hx := B.exec
  have hb := B.bytes
  have hr := B.returns
  have hts : ∀ w ∈ BG, w.before _ s = true := fun w h => atoms_spec (ws := (ws_X_term)) B.pre w (List.mem_cons_of_mem _ h)
  have hown : s.vm.findClass RR_X = some m.cls := findClass_of_methodNamed B.named
  have hlocks := B.notSynchronized
  have hl := lv_entry ([.ref aX, .int p0, .int p1]) (n := 4) (Nat.le_of_ble_eq_true rfl)
  rw [lg_entry_eq]
  generalize (lg_sl ([.ref aX, .int p0, .int p1]) ++ List.replicate (4 - (lg_sl ([.ref aX, .int p0, .int p1])).length) Slot.unset).toArray = ls at hl ⊢
  have hl : lv_has ls 4 [(0, .ref aX), (1, .int p0), (2, .int p1)] := hl
  rw [f_X_term] at hf
  refine lv_aload_n hx hb d_X_term_0 rfl (lv_at hl 0 rfl) ?_
  refine va_get (D := D) (ci := 0) (v := .ref aT) (C := RR_X) (T := FF_X) (N := 8) hx hb hts kin_X hown hK.1 hP 0 rfl rfl 0 (by decide) (hts _ k1_203) (fun _ h9 => h9) rfl d_X_term_1 ?_
  refine lv_iload_n hx hb d_X_term_4 rfl (lv_at hl 1 rfl) ?_
  obtain ⟨r1, hr1, hf⟩ := of_bd hf
  refine rd_call (va_runV (As := [.int p0]) (rest := []) ⟨hx, hb, hml, hown, hts⟩ (c_T_has l D cI cJ cZ aT aT_heads aT_places aT_olders aT_sizes aT_withins aT_newest T_count p0 r1 hr1) (bigV 1 hts k1_232 k1_233 k1_234 k1_2 k1_235 rfl rfl hd_T_has ⟨Nat.le_of_ble_eq_true rfl, Nat.le_of_ble_eq_true rfl⟩) (rd_preV hK hP [1] rfl 1 rfl rfl rfl) rfl rfl hl.1 rfl (lv_room (Nat.le_of_ble_eq_true rfl)) d_X_term_5 ⟨Nat.le_of_ble_eq_true rfl, Nat.le_of_ble_eq_true rfl⟩) ?_
  refine lv_if_ne (tgt := 13) hx hb d_X_term_8 (by decide) (fun c2 => ?_) (fun c2 => ?_)
  · have hf := ite_f c2 hf
    refine lv_aload_n hx hb d_X_term_13 rfl (lv_at hl 0 rfl) ?_
    refine va_get (D := D) (ci := 0) (v := .ref aT) (C := RR_X) (T := FF_X) (N := 8) hx hb hts kin_X hown hK.1 hP 0 rfl rfl 0 (by decide) (hts _ k1_203) (fun _ h9 => h9) rfl d_X_term_14 ?_
    refine lv_iload_n hx hb d_X_term_17 rfl (lv_at hl 1 rfl) ?_
    obtain ⟨r3, hr3, hf⟩ := of_bd hf
    refine rd_call (va_runV (As := [.int p0]) (rest := []) ⟨hx, hb, hml, hown, hts⟩ (c_T_head l D cI cJ cZ aT aT_heads aT_places aT_olders aT_sizes aT_withins aT_newest T_count nT_heads T_heads p0 r3 hr3) (bigV 1 hts k1_236 k1_237 k1_238 k1_2 k1_239 rfl rfl hd_T_head ⟨Nat.le_of_ble_eq_true rfl, Nat.le_of_ble_eq_true rfl⟩) (rd_preV hK hP [1, 2] rfl 1 rfl rfl rfl) rfl rfl hl.1 rfl (lv_room (Nat.le_of_ble_eq_true rfl)) d_X_term_18 ⟨Nat.le_of_ble_eq_true rfl, Nat.le_of_ble_eq_true rfl⟩) ?_
    refine lv_istore_n (lv' := [(3, .int r3), (0, .ref aX), (1, .int p0), (2, .int p1)]) hx hb d_X_term_21 rfl hl (by decide) rfl (fun ls hl => ?_)
    refine lv_iload_n hx hb d_X_term_22 rfl (lv_at hl 3 rfl) ?_
    by_cases c4 : p1 = 0
    · have hf := ite_t c4 hf
      refine lv_tableIn (tgt := 60) hx hb d_X_term_23 (by rw [c4]; decide) (by rw [c4]; decide) (by rw [c4]; rfl) (by decide) ?_
      refine lv_iload_n hx hb d_X_term_60 rfl (lv_at hl 0 rfl) ?_
      refine lv_bipush (v := 30) hx hb d_X_term_61 (by decide) ?_
      refine lv_icmp_ge (tgt := 70) hx hb d_X_term_63 (by decide) (fun c5 => ?_) (fun c5 => ?_)
      · have hf := ite_t c5 hf
        refine lv_iload_n hx hb d_X_term_70 rfl (lv_at hl 0 rfl) ?_
        refine lv_bipush (v := 38) hx hb d_X_term_71 (by decide) ?_
        refine lv_icmp_ge (tgt := 80) hx hb d_X_term_73 (by decide) (fun c6 => ?_) (fun c6 => ?_)
        · have hf := ite_t c6 hf
          refine lv_iconst (v := 2) hx hb d_X_term_80 (by decide) ?_
          obtain rfl := Option.some.inj hf
          exact W.iret (v := (2 : Int32)) hx hb hr (fun t ht hW => ⟨rfl, ht⟩) (fun q h => by cases h) d_X_term_81
        · have hf := ite_f c6 hf
          refine lv_iconst (v := 1) hx hb d_X_term_76 (by decide) ?_
          refine lv_goto (tgt := 81) hx hb d_X_term_77 (by decide) ?_
          obtain rfl := Option.some.inj hf
          exact W.iret (v := (1 : Int32)) hx hb hr (fun t ht hW => ⟨rfl, ht⟩) (fun q h => by cases h) d_X_term_81
      · have hf := ite_f c5 hf
        refine lv_iconst (v := 0) hx hb d_X_term_66 (by decide) ?_
        refine lv_goto (tgt := 81) hx hb d_X_term_67 (by decide) ?_
        obtain rfl := Option.some.inj hf
        exact W.iret (v := (0 : Int32)) hx hb hr (fun t ht hW => ⟨rfl, ht⟩) (fun q h => by cases h) d_X_term_81
    have hf := ite_f c4 hf
    by_cases c7 : p1 = 1
    · have hf := ite_t c7 hf
      refine lv_tableIn (tgt := 82) hx hb d_X_term_23 (by rw [c7]; decide) (by rw [c7]; decide) (by rw [c7]; rfl) (by decide) ?_
      refine lv_iload_n hx hb d_X_term_82 rfl (lv_at hl 0 rfl) ?_
      refine lv_bipush (v := 30) hx hb d_X_term_83 (by decide) ?_
      refine lv_icmp_ge (tgt := 92) hx hb d_X_term_85 (by decide) (fun c8 => ?_) (fun c8 => ?_)
      · have hf := ite_t c8 hf
        refine lv_iload_n hx hb d_X_term_92 rfl (lv_at hl 0 rfl) ?_
        refine lv_bipush (v := 38) hx hb d_X_term_93 (by decide) ?_
        refine lv_icmp_ge (tgt := 105) hx hb d_X_term_95 (by decide) (fun c9 => ?_) (fun c9 => ?_)
        · have hf := ite_t c9 hf
          refine lv_iload_n hx hb d_X_term_105 rfl (lv_at hl 0 rfl) ?_
          refine lv_bipush (v := 38) hx hb d_X_term_106 (by decide) ?_
          refine lv_isub hx hb d_X_term_108 ?_
          obtain rfl := Option.some.inj hf
          exact W.iret (v := r3 - (38 : Int32)) hx hb hr (fun t ht hW => ⟨rfl, ht⟩) (fun q h => by cases h) d_X_term_109
        · have hf := ite_f c9 hf
          refine lv_iload_n hx hb d_X_term_98 rfl (lv_at hl 0 rfl) ?_
          refine lv_bipush (v := 30) hx hb d_X_term_99 (by decide) ?_
          refine lv_isub hx hb d_X_term_101 ?_
          refine lv_goto (tgt := 109) hx hb d_X_term_102 (by decide) ?_
          obtain rfl := Option.some.inj hf
          exact W.iret (v := r3 - (30 : Int32)) hx hb hr (fun t ht hW => ⟨rfl, ht⟩) (fun q h => by cases h) d_X_term_109
      · have hf := ite_f c8 hf
        refine lv_iload_n hx hb d_X_term_88 rfl (lv_at hl 0 rfl) ?_
        refine lv_goto (tgt := 109) hx hb d_X_term_89 (by decide) ?_
        obtain rfl := Option.some.inj hf
        exact W.iret (v := r3) hx hb hr (fun t ht hW => ⟨rfl, ht⟩) (fun q h => by cases h) d_X_term_109
    have hf := ite_f c7 hf
    by_cases c10 : p1 = 2
    · have hf := ite_t c10 hf
      refine lv_tableIn (tgt := 110) hx hb d_X_term_23 (by rw [c10]; decide) (by rw [c10]; decide) (by rw [c10]; rfl) (by decide) ?_
      refine lv_aload_n hx hb d_X_term_110 rfl (lv_at hl 1 rfl) ?_
      refine va_get (D := D) (ci := 0) (v := .ref aT) (C := RR_X) (T := FF_X) (N := 8) hx hb hts kin_X hown hK.1 hP 0 rfl rfl 0 (by decide) (hts _ k1_203) (fun _ h9 => h9) rfl d_X_term_111 ?_
      refine lv_iload_n hx hb d_X_term_114 rfl (lv_at hl 2 rfl) ?_
      refine lv_iload_n hx hb d_X_term_115 rfl (lv_at hl 3 rfl) ?_
      refine lv_iconst (v := 2) hx hb d_X_term_116 (by decide) ?_
      refine lv_isub hx hb d_X_term_117 ?_
      obtain ⟨r11, hr11, hf⟩ := of_bd hf
      refine rd_call (va_runV (As := [.int p0, .int (p1 - (2 : Int32))]) (rest := []) ⟨hx, hb, hml, hown, hts⟩ (c_T_place l D cI cJ cZ aT aT_heads aT_places aT_olders aT_sizes aT_withins aT_newest T_count nT_places T_places p0 (p1 - (2 : Int32)) r11 hr11) (bigV 2 hts k2_0 k2_1 k2_2 k1_2 k2_3 rfl rfl hd_T_place ⟨Nat.le_of_ble_eq_true rfl, Nat.le_of_ble_eq_true rfl⟩) (rd_preV hK hP [1, 3] rfl 1 rfl rfl rfl) rfl rfl hl.1 rfl (lv_room (Nat.le_of_ble_eq_true rfl)) d_X_term_118 ⟨Nat.le_of_ble_eq_true rfl, Nat.le_of_ble_eq_true rfl⟩) ?_
      obtain rfl := Option.some.inj hf
      exact W.iret (v := r11) hx hb hr (fun t ht hW => ⟨rfl, ht⟩) (fun q h => by cases h) d_X_term_121
    have hf := ite_f c10 hf
    by_cases c12 : p1 = 3
    · have hf := ite_t c12 hf
      refine lv_tableIn (tgt := 110) hx hb d_X_term_23 (by rw [c12]; decide) (by rw [c12]; decide) (by rw [c12]; rfl) (by decide) ?_
      refine lv_aload_n hx hb d_X_term_110 rfl (lv_at hl 1 rfl) ?_
      refine va_get (D := D) (ci := 0) (v := .ref aT) (C := RR_X) (T := FF_X) (N := 8) hx hb hts kin_X hown hK.1 hP 0 rfl rfl 0 (by decide) (hts _ k1_203) (fun _ h9 => h9) rfl d_X_term_111 ?_
      refine lv_iload_n hx hb d_X_term_114 rfl (lv_at hl 2 rfl) ?_
      refine lv_iload_n hx hb d_X_term_115 rfl (lv_at hl 3 rfl) ?_
      refine lv_iconst (v := 2) hx hb d_X_term_116 (by decide) ?_
      refine lv_isub hx hb d_X_term_117 ?_
      obtain ⟨r13, hr13, hf⟩ := of_bd hf
      refine rd_call (va_runV (As := [.int p0, .int (p1 - (2 : Int32))]) (rest := []) ⟨hx, hb, hml, hown, hts⟩ (c_T_place l D cI cJ cZ aT aT_heads aT_places aT_olders aT_sizes aT_withins aT_newest T_count nT_places T_places p0 (p1 - (2 : Int32)) r13 hr13) (bigV 2 hts k2_0 k2_1 k2_2 k1_2 k2_3 rfl rfl hd_T_place ⟨Nat.le_of_ble_eq_true rfl, Nat.le_of_ble_eq_true rfl⟩) (rd_preV hK hP [1, 3] rfl 1 rfl rfl rfl) rfl rfl hl.1 rfl (lv_room (Nat.le_of_ble_eq_true rfl)) d_X_term_118 ⟨Nat.le_of_ble_eq_true rfl, Nat.le_of_ble_eq_true rfl⟩) ?_
      obtain rfl := Option.some.inj hf
      exact W.iret (v := r13) hx hb hr (fun t ht hW => ⟨rfl, ht⟩) (fun q h => by cases h) d_X_term_121
    have hf := ite_f c12 hf
    by_cases c14 : p1 = 4
    · have hf := ite_t c14 hf
      refine lv_tableIn (tgt := 110) hx hb d_X_term_23 (by rw [c14]; decide) (by rw [c14]; decide) (by rw [c14]; rfl) (by decide) ?_
      refine lv_aload_n hx hb d_X_term_110 rfl (lv_at hl 1 rfl) ?_
      refine va_get (D := D) (ci := 0) (v := .ref aT) (C := RR_X) (T := FF_X) (N := 8) hx hb hts kin_X hown hK.1 hP 0 rfl rfl 0 (by decide) (hts _ k1_203) (fun _ h9 => h9) rfl d_X_term_111 ?_
      refine lv_iload_n hx hb d_X_term_114 rfl (lv_at hl 2 rfl) ?_
      refine lv_iload_n hx hb d_X_term_115 rfl (lv_at hl 3 rfl) ?_
      refine lv_iconst (v := 2) hx hb d_X_term_116 (by decide) ?_
      refine lv_isub hx hb d_X_term_117 ?_
      obtain ⟨r15, hr15, hf⟩ := of_bd hf
      refine rd_call (va_runV (As := [.int p0, .int (p1 - (2 : Int32))]) (rest := []) ⟨hx, hb, hml, hown, hts⟩ (c_T_place l D cI cJ cZ aT aT_heads aT_places aT_olders aT_sizes aT_withins aT_newest T_count nT_places T_places p0 (p1 - (2 : Int32)) r15 hr15) (bigV 2 hts k2_0 k2_1 k2_2 k1_2 k2_3 rfl rfl hd_T_place ⟨Nat.le_of_ble_eq_true rfl, Nat.le_of_ble_eq_true rfl⟩) (rd_preV hK hP [1, 3] rfl 1 rfl rfl rfl) rfl rfl hl.1 rfl (lv_room (Nat.le_of_ble_eq_true rfl)) d_X_term_118 ⟨Nat.le_of_ble_eq_true rfl, Nat.le_of_ble_eq_true rfl⟩) ?_
      obtain rfl := Option.some.inj hf
      exact W.iret (v := r15) hx hb hr (fun t ht hW => ⟨rfl, ht⟩) (fun q h => by cases h) d_X_term_121
    have hf := ite_f c14 hf
    by_cases c16 : p1 = 5
    · have hf := ite_t c16 hf
      refine lv_tableIn (tgt := 122) hx hb d_X_term_23 (by rw [c16]; decide) (by rw [c16]; decide) (by rw [c16]; rfl) (by decide) ?_
      refine lv_aload_n hx hb d_X_term_122 rfl (lv_at hl 1 rfl) ?_
      refine va_get (D := D) (ci := 0) (v := .ref aT) (C := RR_X) (T := FF_X) (N := 8) hx hb hts kin_X hown hK.1 hP 0 rfl rfl 0 (by decide) (hts _ k1_203) (fun _ h9 => h9) rfl d_X_term_123 ?_
      refine lv_iload_n hx hb d_X_term_126 rfl (lv_at hl 2 rfl) ?_
      obtain ⟨r17, hr17, hf⟩ := of_bd hf
      refine rd_call (va_runV (As := [.int p0]) (rest := []) ⟨hx, hb, hml, hown, hts⟩ (c_T_size l D cI cJ cZ aT aT_heads aT_places aT_olders aT_sizes aT_withins aT_newest T_count nT_sizes T_sizes p0 r17 hr17) (bigV 1 hts k2_4 k2_5 k2_6 k1_2 k2_7 rfl rfl hd_T_size ⟨Nat.le_of_ble_eq_true rfl, Nat.le_of_ble_eq_true rfl⟩) (rd_preV hK hP [1, 4] rfl 1 rfl rfl rfl) rfl rfl hl.1 rfl (lv_room (Nat.le_of_ble_eq_true rfl)) d_X_term_127 ⟨Nat.le_of_ble_eq_true rfl, Nat.le_of_ble_eq_true rfl⟩) ?_
      obtain rfl := Option.some.inj hf
      exact W.iret (v := r17) hx hb hr (fun t ht hW => ⟨rfl, ht⟩) (fun q h => by cases h) d_X_term_130
    have hf := ite_f c16 hf
    have n23_0 := lv_neT c4 (a := 0) (by decide)
    have n23_1 := lv_neT c7 (a := 1) (by decide)
    have n23_2 := lv_neT c10 (a := 2) (by decide)
    have n23_3 := lv_neT c12 (a := 3) (by decide)
    have n23_4 := lv_neT c14 (a := 4) (by decide)
    have n23_5 := lv_neT c16 (a := 5) (by decide)
    refine lv_tableOut (tgt := 131) hx hb d_X_term_23 (by omega) (by decide) ?_
    refine lv_iconst (v := -1) hx hb d_X_term_131 (by decide) ?_
    obtain rfl := Option.some.inj hf
    exact W.iret (v := (-1 : Int32)) hx hb hr (fun t ht hW => ⟨rfl, ht⟩) (fun q h => by cases h) d_X_term_132
  · have hf := ite_t c2 hf
    refine lv_iconst (v := -1) hx hb d_X_term_11 (by decide) ?_
    obtain rfl := Option.some.inj hf
    exact W.iret (v := (-1 : Int32)) hx hb hr (fun t ht hW => ⟨rfl, ht⟩) (fun q h => by cases h) d_X_term_12
def f_X_forget (S_count : Int32) (H_kind : Int32) (H_subject : Int32) (H_count : Int32) : Option (Int32 × Int32 × Int32 × Int32 × Int32) :=
  (f_H_clear H_kind H_subject H_count).bind fun r1 =>
  (f_S_dropLatest S_count).bind fun r2 =>
  gd (zb r2.1) <|
  some (r2.1, r2.2, r1.1, r1.2.1, r1.2.2)
abbrev rm_X_forget : Room := { frames := 2, cells := 0, slots := 0, locals := 42 }
set_option maxHeartbeats 4000000 in
set_option maxRecDepth 100000 in
theorem c_X_forget (l : Launch) (D : va_G) (cI cJ cZ : ClassId) (aX aX_arities aT aS aS_premises aS_premiseCounts aS_conclusions aS_order aM aF aE aH aH_statementRow aH_firstRow aH_secondRow : Nat) (sz : Nat) (X_namesUsed : Int32) (S_count : Int32) (H_kind : Int32) (H_subject : Int32) (H_count : Int32) (o : Int32 × Int32 × Int32 × Int32 × Int32) (hf : f_X_forget S_count H_kind H_subject H_count = some o) : Met l y_X_forget (ws_X_forget) rm_X_forget (WPc D vwCl cI cJ cZ [.ref aX] (wv_74 cI cJ cZ aX aX_arities aT aS aS_premises aS_premiseCounts aS_conclusions aS_order aM aF aE aH aH_statementRow aH_firstRow aH_secondRow X_namesUsed S_count H_kind H_subject H_count) sz) (WQ D vwCl (some (.int o.1)) (wv_74 cI cJ cZ aX aX_arities aT aS aS_premises aS_premiseCounts aS_conclusions aS_order aM aF aE aH aH_statementRow aH_firstRow aH_secondRow X_namesUsed o.2.1 o.2.2.1 o.2.2.2.1 o.2.2.2.2) (va_A (wv_74 cI cJ cZ aX aX_arities aT aS aS_premises aS_premiseCounts aS_conclusions aS_order aM aF aE aH aH_statementRow aH_firstRow aH_secondRow X_namesUsed S_count H_kind H_subject H_count) sz)) 0 0 (va_A (wv_74 cI cJ cZ aX aX_arities aT aS aS_premises aS_premiseCounts aS_conclusions aS_order aM aF aE aH aH_statementRow aH_firstRow aH_secondRow X_namesUsed S_count H_kind H_subject H_count) sz) := by
  refine Met.ofW (cc := b_X_forget) (maxL := 1) (ret := (some .boolean)) (by decide) rfl ?_
  intro p e s m args below meth c s₁ B hml hv
  obtain ⟨rfl, rfl, hP, hK, hD0⟩ := hv
  have hx := B.exec
  have hb := B.bytes
  have hr := B.returns
  have hts : ∀ w ∈ BG, w.before _ s = true := fun w h => atoms_spec (ws := (ws_X_forget)) B.pre w (List.mem_cons_of_mem _ h)
  have hown : s.vm.findClass RR_X = some m.cls := findClass_of_methodNamed B.named
  have hlocks := B.notSynchronized
  have hD := hD0.self (sz := s.heap.size)
  have hA : ∀ q : Nat, s.heap.size ≤ q → va_A (wv_74 cI cJ cZ aX aX_arities aT aS aS_premises aS_premiseCounts aS_conclusions aS_order aM aF aE aH aH_statementRow aH_firstRow aH_secondRow X_namesUsed S_count H_kind H_subject H_count) s.heap.size q := fun q h => Or.inr h
  have hS : va_S (va_A (wv_74 cI cJ cZ aX aX_arities aT aS aS_premises aS_premiseCounts aS_conclusions aS_order aM aF aE aH aH_statementRow aH_firstRow aH_secondRow X_namesUsed S_count H_kind H_subject H_count) s.heap.size) s.heap s.heap [] := va_S.rf
  generalize va_A (wv_74 cI cJ cZ aX aX_arities aT aS aS_premises aS_premiseCounts aS_conclusions aS_order aM aF aE aH aH_statementRow aH_firstRow aH_secondRow X_namesUsed S_count H_kind H_subject H_count) s.heap.size = A at hD hA hS ⊢
  have hl := lv_entry ([.ref aX]) (n := 1) (Nat.le_of_ble_eq_true rfl)
  rw [lg_entry_eq]
  generalize (lg_sl ([.ref aX]) ++ List.replicate (1 - (lg_sl ([.ref aX])).length) Slot.unset).toArray = ls at hl ⊢
  have hl : lv_has ls 1 [(0, .ref aX)] := hl
  rw [f_X_forget] at hf
  refine lv_aload_n hx hb d_X_forget_0 rfl (lv_at hl 0 rfl) ?_
  refine va_get (D := D) (ci := 0) (v := .ref aH) (C := RR_X) (T := FF_X) (N := 8) hx hb hts kin_X hown hK.1 hP 0 rfl rfl 7 (by decide) (hts _ k1_210) (fun _ h9 => h9) rfl d_X_forget_1 ?_
  obtain ⟨r1, hr1, hf⟩ := of_bd hf
  refine wr_call (ws' := (wv_74 cI cJ cZ aX aX_arities aT aS aS_premises aS_premiseCounts aS_conclusions aS_order aM aF aE aH aH_statementRow aH_firstRow aH_secondRow X_namesUsed S_count r1.1 r1.2.1 r1.2.2)) (va_runV (As := []) (rest := []) ⟨hx, hb, hml, hown, hts⟩ (c_H_clear l D cI cJ cZ aH aH_statementRow aH_firstRow aH_secondRow _ H_kind H_subject H_count r1 hr1) (bigV 0 hts k2_12 k2_13 k2_14 k1_8 k2_15 rfl rfl hd_H_clear ⟨Nat.le_of_ble_eq_true rfl, Nat.le_of_ble_eq_true rfl⟩) (wr_preV hK hP hD [2] rfl (by decide) rfl 2 rfl rfl rfl) rfl rfl hl.1 rfl (lv_room (Nat.le_of_ble_eq_true rfl)) d_X_forget_4 ⟨Nat.le_of_ble_eq_true rfl, Nat.le_of_ble_eq_true rfl⟩) hP hD hS hA [2] [0, 1] rfl rfl (by decide) (by decide) [0, 1, 2] (by decide) rfl (fun H locs hP hD hS => ?_)
  refine lv_aload_n hx hb d_X_forget_7 rfl (lv_at hl 0 rfl) ?_
  refine va_get (D := D) (ci := 0) (v := .ref aS) (C := RR_X) (T := FF_X) (N := 8) hx hb hts kin_X hown hK.1 hP 0 rfl rfl 3 (by decide) (hts _ k1_206) (fun _ h9 => h9) rfl d_X_forget_8 ?_
  obtain ⟨r2, hr2, hf⟩ := of_bd hf
  refine wr_call (ws' := (wv_74 cI cJ cZ aX aX_arities aT aS aS_premises aS_premiseCounts aS_conclusions aS_order aM aF aE aH aH_statementRow aH_firstRow aH_secondRow X_namesUsed r2.2 r1.1 r1.2.1 r1.2.2)) (va_runV (As := []) (rest := []) ⟨hx, hb, hml, hown, hts⟩ (c_S_dropLatest l D cI cJ cZ aS aS_premises aS_premiseCounts aS_conclusions aS_order _ S_count r2 hr2) (bigV 0 hts k2_20 k2_21 k2_22 k1_4 k2_23 rfl rfl hd_S_dropLatest ⟨Nat.le_of_ble_eq_true rfl, Nat.le_of_ble_eq_true rfl⟩) (wr_preV hK hP hD [1] rfl (by decide) rfl 1 rfl rfl rfl) rfl rfl hl.1 rfl (lv_room (Nat.le_of_ble_eq_true rfl)) d_X_forget_11 ⟨Nat.le_of_ble_eq_true rfl, Nat.le_of_ble_eq_true rfl⟩) hP hD hS hA [1] [0, 2] rfl rfl (by decide) (by decide) [0, 2, 1] (by decide) rfl (fun H locs hP hD hS => ?_)
  obtain ⟨h3, hf⟩ := of_gd hf
  obtain rfl := Option.some.inj hf
  exact W.zret (v := r2.1) hx hb hr (zb_nar h3) (fun t ht hW => ⟨rfl, by rw [ht]; exact hP, hD, hS.F ht⟩) hS.2.2 d_X_forget_14
def f_X_hit (T_count : Int32) (nT_heads : Nat) (T_heads : (Nat → Int32)) (nT_places : Nat) (T_places : (Nat → Int32)) (nT_olders : Nat) (T_olders : (Nat → Int32)) (nT_withins : Nat) (T_withins : (Nat → Int64)) (T_newest : (Nat → Int32)) (S_count : Int32) (S_conclusions : (Nat → Int32)) (M_images : (Nat → Int32)) (H_kind : Int32) (H_subject : Int32) (H_count : Int32) (H_statementRow : (Nat → Int32)) (H_firstRow : (Nat → Int32)) (H_secondRow : (Nat → Int32)) (p0 : Int32) (p1 : Int32) : Option (Int32 × (Nat → Int32)) :=
  (f_H_has H_count p0).bind fun r1 =>
  if r1 = 0 then
    some ((-1 : Int32), M_images)
  else
    if p1 = 0 then
      (f_H_statement H_count H_statementRow p0).bind fun r4 =>
      some (r4, M_images)
    else
    if p1 = 1 then
      (f_H_first H_count H_firstRow p0).bind fun r6 =>
      some (r6, M_images)
    else
    if p1 = 2 then
      (f_H_second H_count H_secondRow p0).bind fun r8 =>
      some (r8, M_images)
    else
    (f_X_binding T_count nT_heads T_heads nT_places T_places nT_olders T_olders nT_withins T_withins T_newest S_count S_conclusions M_images H_kind H_subject H_count H_statementRow H_secondRow p0 p1).bind fun r9 =>
    some (r9.1, r9.2)
abbrev rm_X_hit : Room := { frames := 5, cells := 0, slots := 0, locals := 120 }
set_option maxHeartbeats 4000000 in
set_option maxRecDepth 100000 in
theorem c_X_hit (l : Launch) (D : va_G) (cI cJ cZ : ClassId) (aX aX_arities aT aT_heads aT_places aT_olders aT_sizes aT_withins aT_newest aS aS_premises aS_premiseCounts aS_conclusions aS_order aM aM_images aM_path aF aE aH aH_statementRow aH_firstRow aH_secondRow : Nat) (sz : Nat) (X_namesUsed : Int32) (T_count : Int32) (nT_heads : Nat) (T_heads : (Nat → Int32)) (nT_places : Nat) (T_places : (Nat → Int32)) (nT_olders : Nat) (T_olders : (Nat → Int32)) (nT_withins : Nat) (T_withins : (Nat → Int64)) (T_newest : (Nat → Int32)) (S_count : Int32) (S_conclusions : (Nat → Int32)) (M_images : (Nat → Int32)) (H_kind : Int32) (H_subject : Int32) (H_count : Int32) (H_statementRow : (Nat → Int32)) (H_firstRow : (Nat → Int32)) (H_secondRow : (Nat → Int32)) (p0 : Int32) (p1 : Int32) (o : Int32 × (Nat → Int32)) (hf : f_X_hit T_count nT_heads T_heads nT_places T_places nT_olders T_olders nT_withins T_withins T_newest S_count S_conclusions M_images H_kind H_subject H_count H_statementRow H_firstRow H_secondRow p0 p1 = some o) : Met l y_X_hit (ws_X_hit) rm_X_hit (WPc D vwCl cI cJ cZ [.ref aX, .int p0, .int p1] (wv_75 cI cJ cZ aX aX_arities aT aT_heads aT_places aT_olders aT_sizes aT_withins aT_newest aS aS_premises aS_premiseCounts aS_conclusions aS_order aM aM_images aM_path aF aE aH aH_statementRow aH_firstRow aH_secondRow X_namesUsed T_count nT_heads T_heads nT_places T_places nT_olders T_olders nT_withins T_withins T_newest S_count S_conclusions M_images H_kind H_subject H_count H_statementRow H_firstRow H_secondRow) sz) (WQ D vwCl (some (.int o.1)) (wv_75 cI cJ cZ aX aX_arities aT aT_heads aT_places aT_olders aT_sizes aT_withins aT_newest aS aS_premises aS_premiseCounts aS_conclusions aS_order aM aM_images aM_path aF aE aH aH_statementRow aH_firstRow aH_secondRow X_namesUsed T_count nT_heads T_heads nT_places T_places nT_olders T_olders nT_withins T_withins T_newest S_count S_conclusions o.2 H_kind H_subject H_count H_statementRow H_firstRow H_secondRow) (va_A (wv_75 cI cJ cZ aX aX_arities aT aT_heads aT_places aT_olders aT_sizes aT_withins aT_newest aS aS_premises aS_premiseCounts aS_conclusions aS_order aM aM_images aM_path aF aE aH aH_statementRow aH_firstRow aH_secondRow X_namesUsed T_count nT_heads T_heads nT_places T_places nT_olders T_olders nT_withins T_withins T_newest S_count S_conclusions M_images H_kind H_subject H_count H_statementRow H_firstRow H_secondRow) sz)) 0 0 (va_A (wv_75 cI cJ cZ aX aX_arities aT aT_heads aT_places aT_olders aT_sizes aT_withins aT_newest aS aS_premises aS_premiseCounts aS_conclusions aS_order aM aM_images aM_path aF aE aH aH_statementRow aH_firstRow aH_secondRow X_namesUsed T_count nT_heads T_heads nT_places T_places nT_olders T_olders nT_withins T_withins T_newest S_count S_conclusions M_images H_kind H_subject H_count H_statementRow H_firstRow H_secondRow) sz) := by
  refine Met.ofW (cc := b_X_hit) (maxL := 3) (ret := (some .int)) (by decide) rfl ?_
  intro p e s m args below meth c s₁ B hml hv
  obtain ⟨rfl, rfl, hP, hK, hD0⟩ := hv
  have hx := B.exec
  have hb := B.bytes
  have hr := B.returns
  have hts : ∀ w ∈ BG, w.before _ s = true := fun w h => atoms_spec (ws := (ws_X_hit)) B.pre w (List.mem_cons_of_mem _ h)
  have hown : s.vm.findClass RR_X = some m.cls := findClass_of_methodNamed B.named
  have hlocks := B.notSynchronized
  have hD := hD0.self (sz := s.heap.size)
  have hA : ∀ q : Nat, s.heap.size ≤ q → va_A (wv_75 cI cJ cZ aX aX_arities aT aT_heads aT_places aT_olders aT_sizes aT_withins aT_newest aS aS_premises aS_premiseCounts aS_conclusions aS_order aM aM_images aM_path aF aE aH aH_statementRow aH_firstRow aH_secondRow X_namesUsed T_count nT_heads T_heads nT_places T_places nT_olders T_olders nT_withins T_withins T_newest S_count S_conclusions M_images H_kind H_subject H_count H_statementRow H_firstRow H_secondRow) s.heap.size q := fun q h => Or.inr h
  have hS : va_S (va_A (wv_75 cI cJ cZ aX aX_arities aT aT_heads aT_places aT_olders aT_sizes aT_withins aT_newest aS aS_premises aS_premiseCounts aS_conclusions aS_order aM aM_images aM_path aF aE aH aH_statementRow aH_firstRow aH_secondRow X_namesUsed T_count nT_heads T_heads nT_places T_places nT_olders T_olders nT_withins T_withins T_newest S_count S_conclusions M_images H_kind H_subject H_count H_statementRow H_firstRow H_secondRow) s.heap.size) s.heap s.heap [] := va_S.rf
  generalize va_A (wv_75 cI cJ cZ aX aX_arities aT aT_heads aT_places aT_olders aT_sizes aT_withins aT_newest aS aS_premises aS_premiseCounts aS_conclusions aS_order aM aM_images aM_path aF aE aH aH_statementRow aH_firstRow aH_secondRow X_namesUsed T_count nT_heads T_heads nT_places T_places nT_olders T_olders nT_withins T_withins T_newest S_count S_conclusions M_images H_kind H_subject H_count H_statementRow H_firstRow H_secondRow) s.heap.size = A at hD hA hS ⊢
  have hl := lv_entry ([.ref aX, .int p0, .int p1]) (n := 3) (Nat.le_of_ble_eq_true rfl)
  rw [lg_entry_eq]
  generalize (lg_sl ([.ref aX, .int p0, .int p1]) ++ List.replicate (3 - (lg_sl ([.ref aX, .int p0, .int p1])).length) Slot.unset).toArray = ls at hl ⊢
  have hl : lv_has ls 3 [(0, .ref aX), (1, .int p0), (2, .int p1)] := hl
  rw [f_X_hit] at hf
  refine lv_aload_n hx hb d_X_hit_0 rfl (lv_at hl 0 rfl) ?_
  refine va_get (D := D) (ci := 0) (v := .ref aH) (C := RR_X) (T := FF_X) (N := 8) hx hb hts kin_X hown hK.1 hP 0 rfl rfl 7 (by decide) (hts _ k1_210) (fun _ h9 => h9) rfl d_X_hit_1 ?_
  refine lv_iload_n hx hb d_X_hit_4 rfl (lv_at hl 1 rfl) ?_
  obtain ⟨r1, hr1, hf⟩ := of_bd hf
  refine rd_call (va_runV (As := [.int p0]) (rest := []) ⟨hx, hb, hml, hown, hts⟩ (c_H_has l D cI cJ cZ aH aH_statementRow aH_firstRow aH_secondRow H_kind H_subject H_count p0 r1 hr1) (bigV 1 hts k2_28 k2_29 k2_30 k1_8 k2_31 rfl rfl hd_H_has ⟨Nat.le_of_ble_eq_true rfl, Nat.le_of_ble_eq_true rfl⟩) (rd_preV hK hP [11] rfl 11 rfl rfl rfl) rfl rfl hl.1 rfl (lv_room (Nat.le_of_ble_eq_true rfl)) d_X_hit_5 ⟨Nat.le_of_ble_eq_true rfl, Nat.le_of_ble_eq_true rfl⟩) ?_
  refine lv_if_ne (tgt := 13) hx hb d_X_hit_8 (by decide) (fun c2 => ?_) (fun c2 => ?_)
  · have hf := ite_f c2 hf
    refine lv_iload_n hx hb d_X_hit_13 rfl (lv_at hl 2 rfl) ?_
    by_cases c3 : p1 = 0
    · have hf := ite_t c3 hf
      refine lv_tableIn (tgt := 40) hx hb d_X_hit_14 (by rw [c3]; decide) (by rw [c3]; decide) (by rw [c3]; rfl) (by decide) ?_
      refine lv_aload_n hx hb d_X_hit_40 rfl (lv_at hl 0 rfl) ?_
      refine va_get (D := D) (ci := 0) (v := .ref aH) (C := RR_X) (T := FF_X) (N := 8) hx hb hts kin_X hown hK.1 hP 0 rfl rfl 7 (by decide) (hts _ k1_210) (fun _ h9 => h9) rfl d_X_hit_41 ?_
      refine lv_iload_n hx hb d_X_hit_44 rfl (lv_at hl 1 rfl) ?_
      obtain ⟨r4, hr4, hf⟩ := of_bd hf
      refine rd_call (va_runV (As := [.int p0]) (rest := []) ⟨hx, hb, hml, hown, hts⟩ (c_H_statement l D cI cJ cZ aH aH_statementRow aH_firstRow aH_secondRow H_kind H_subject H_count H_statementRow p0 r4 hr4) (bigV 1 hts k2_32 k2_33 k2_34 k1_8 k2_35 rfl rfl hd_H_statement ⟨Nat.le_of_ble_eq_true rfl, Nat.le_of_ble_eq_true rfl⟩) (rd_preV hK hP [11, 12] rfl 11 rfl rfl rfl) rfl rfl hl.1 rfl (lv_room (Nat.le_of_ble_eq_true rfl)) d_X_hit_45 ⟨Nat.le_of_ble_eq_true rfl, Nat.le_of_ble_eq_true rfl⟩) ?_
      obtain rfl := Option.some.inj hf
      exact W.iret (v := r4) hx hb hr (fun t ht hW => ⟨rfl, by rw [ht]; exact hP, hD, hS.F ht⟩) hS.2.2 d_X_hit_48
    have hf := ite_f c3 hf
    by_cases c5 : p1 = 1
    · have hf := ite_t c5 hf
      refine lv_tableIn (tgt := 49) hx hb d_X_hit_14 (by rw [c5]; decide) (by rw [c5]; decide) (by rw [c5]; rfl) (by decide) ?_
      refine lv_aload_n hx hb d_X_hit_49 rfl (lv_at hl 0 rfl) ?_
      refine va_get (D := D) (ci := 0) (v := .ref aH) (C := RR_X) (T := FF_X) (N := 8) hx hb hts kin_X hown hK.1 hP 0 rfl rfl 7 (by decide) (hts _ k1_210) (fun _ h9 => h9) rfl d_X_hit_50 ?_
      refine lv_iload_n hx hb d_X_hit_53 rfl (lv_at hl 1 rfl) ?_
      obtain ⟨r6, hr6, hf⟩ := of_bd hf
      refine rd_call (va_runV (As := [.int p0]) (rest := []) ⟨hx, hb, hml, hown, hts⟩ (c_H_first l D cI cJ cZ aH aH_statementRow aH_firstRow aH_secondRow H_kind H_subject H_count H_firstRow p0 r6 hr6) (bigV 1 hts k2_37 k2_38 k2_39 k1_8 k2_40 rfl rfl hd_H_first ⟨Nat.le_of_ble_eq_true rfl, Nat.le_of_ble_eq_true rfl⟩) (rd_preV hK hP [11, 13] rfl 11 rfl rfl rfl) rfl rfl hl.1 rfl (lv_room (Nat.le_of_ble_eq_true rfl)) d_X_hit_54 ⟨Nat.le_of_ble_eq_true rfl, Nat.le_of_ble_eq_true rfl⟩) ?_
      obtain rfl := Option.some.inj hf
      exact W.iret (v := r6) hx hb hr (fun t ht hW => ⟨rfl, by rw [ht]; exact hP, hD, hS.F ht⟩) hS.2.2 d_X_hit_57
    have hf := ite_f c5 hf
    by_cases c7 : p1 = 2
    · have hf := ite_t c7 hf
      refine lv_tableIn (tgt := 58) hx hb d_X_hit_14 (by rw [c7]; decide) (by rw [c7]; decide) (by rw [c7]; rfl) (by decide) ?_
      refine lv_aload_n hx hb d_X_hit_58 rfl (lv_at hl 0 rfl) ?_
      refine va_get (D := D) (ci := 0) (v := .ref aH) (C := RR_X) (T := FF_X) (N := 8) hx hb hts kin_X hown hK.1 hP 0 rfl rfl 7 (by decide) (hts _ k1_210) (fun _ h9 => h9) rfl d_X_hit_59 ?_
      refine lv_iload_n hx hb d_X_hit_62 rfl (lv_at hl 1 rfl) ?_
      obtain ⟨r8, hr8, hf⟩ := of_bd hf
      refine rd_call (va_runV (As := [.int p0]) (rest := []) ⟨hx, hb, hml, hown, hts⟩ (c_H_second l D cI cJ cZ aH aH_statementRow aH_firstRow aH_secondRow H_kind H_subject H_count H_secondRow p0 r8 hr8) (bigV 1 hts k2_41 k2_42 k2_43 k1_8 k2_44 rfl rfl hd_H_second ⟨Nat.le_of_ble_eq_true rfl, Nat.le_of_ble_eq_true rfl⟩) (rd_preV hK hP [11, 14] rfl 11 rfl rfl rfl) rfl rfl hl.1 rfl (lv_room (Nat.le_of_ble_eq_true rfl)) d_X_hit_63 ⟨Nat.le_of_ble_eq_true rfl, Nat.le_of_ble_eq_true rfl⟩) ?_
      obtain rfl := Option.some.inj hf
      exact W.iret (v := r8) hx hb hr (fun t ht hW => ⟨rfl, by rw [ht]; exact hP, hD, hS.F ht⟩) hS.2.2 d_X_hit_66
    have hf := ite_f c7 hf
    have n14_0 := lv_neT c3 (a := 0) (by decide)
    have n14_1 := lv_neT c5 (a := 1) (by decide)
    have n14_2 := lv_neT c7 (a := 2) (by decide)
    refine lv_tableOut (tgt := 67) hx hb d_X_hit_14 (by omega) (by decide) ?_
    refine lv_aload_n hx hb d_X_hit_67 rfl (lv_at hl 0 rfl) ?_
    refine lv_iload_n hx hb d_X_hit_68 rfl (lv_at hl 1 rfl) ?_
    refine lv_iload_n hx hb d_X_hit_69 rfl (lv_at hl 2 rfl) ?_
    obtain ⟨r9, hr9, hf⟩ := of_bd hf
    refine wr_call (ws' := (wv_75 cI cJ cZ aX aX_arities aT aT_heads aT_places aT_olders aT_sizes aT_withins aT_newest aS aS_premises aS_premiseCounts aS_conclusions aS_order aM aM_images aM_path aF aE aH aH_statementRow aH_firstRow aH_secondRow X_namesUsed T_count nT_heads T_heads nT_places T_places nT_olders T_olders nT_withins T_withins T_newest S_count S_conclusions r9.2 H_kind H_subject H_count H_statementRow H_firstRow H_secondRow)) (va_runV (As := [.int p0, .int p1]) (rest := []) ⟨hx, hb, hml, hown, hts⟩ (c_X_binding l D cI cJ cZ aX aX_arities aT aT_heads aT_places aT_olders aT_sizes aT_withins aT_newest aS aS_premises aS_premiseCounts aS_conclusions aS_order aM aM_images aM_path aF aE aH aH_statementRow aH_firstRow aH_secondRow _ X_namesUsed T_count nT_heads T_heads nT_places T_places nT_olders T_olders nT_withins T_withins T_newest S_count S_conclusions M_images H_kind H_subject H_count H_statementRow H_secondRow p0 p1 r9 hr9) (bigV 2 hts k2_45 k2_47 ks_X_binding k1_1 k2_48 rfl rfl hd_X_binding ⟨Nat.le_of_ble_eq_true rfl, Nat.le_of_ble_eq_true rfl⟩) (wr_preV hK hP hD [0, 1, 2, 3, 4, 5, 6, 7, 8, 9, 10, 11, 12, 14] rfl (by decide) rfl 0 rfl rfl rfl) rfl rfl hl.1 rfl (lv_room (Nat.le_of_ble_eq_true rfl)) d_X_hit_70 ⟨Nat.le_of_ble_eq_true rfl, Nat.le_of_ble_eq_true rfl⟩) hP hD hS hA [0, 1, 2, 3, 4, 5, 6, 7, 8, 9, 10, 11, 12, 14] [13] rfl rfl (by decide) (by decide) [1, 2, 3, 4, 5, 6, 7, 8, 9, 10, 11, 12, 13, 0, 14] (by decide) rfl (fun H locs hP hD hS => ?_)
    obtain rfl := Option.some.inj hf
    exact W.iret (v := r9.1) hx hb hr (fun t ht hW => ⟨rfl, by rw [ht]; exact hP, hD, hS.F ht⟩) hS.2.2 d_X_hit_73
  · have hf := ite_t c2 hf
    refine lv_iconst (v := -1) hx hb d_X_hit_11 (by decide) ?_
    obtain rfl := Option.some.inj hf
    exact W.iret (v := (-1 : Int32)) hx hb hr (fun t ht hW => ⟨rfl, by rw [ht]; exact hP, hD, hS.F ht⟩) hS.2.2 d_X_hit_12
def f_X_tried (E_tries : Int32) (E_taken : Int32) (E_first : Int32) (p0 : Int32) : Option (Int32) :=
  if p0 = 0 then
    (f_E_tries E_tries).bind fun r2 =>
    some r2
  else
  if p0 = 1 then
    (f_E_taken E_taken).bind fun r4 =>
    some r4
  else
  if p0 = 2 then
    (f_E_first E_first).bind fun r6 =>
    some r6
  else
  some (-1 : Int32)
abbrev rm_X_tried : Room := { frames := 1, cells := 0, slots := 0, locals := 20 }
set_option maxHeartbeats 4000000 in
set_option maxRecDepth 100000 in
theorem c_X_tried (l : Launch) (D : va_G) (cI cJ cZ : ClassId) (aX aX_arities aT aS aM aF aE aE_goals aE_marks aE_looked aE_underway aE_met aE_takenHere aH : Nat) (X_namesUsed : Int32) (E_level : Int32) (E_steps : Int32) (E_tries : Int32) (E_taken : Int32) (E_first : Int32) (p0 : Int32) (o : Int32) (hf : f_X_tried E_tries E_taken E_first p0 = some o) : Met l y_X_tried (ws_X_tried) rm_X_tried (RPc D vwCl cI cJ cZ [.ref aX, .int p0] (wv_76 cI cJ cZ aX aX_arities aT aS aM aF aE aE_goals aE_marks aE_looked aE_underway aE_met aE_takenHere aH X_namesUsed E_level E_steps E_tries E_taken E_first)) (RQ (some (.int o))) 0 0 (fun _ => False) := by
  refine Met.ofW (cc := b_X_tried) (maxL := 2) (ret := (some .int)) (by decide) rfl ?_
  intro p e s m args below meth c s₁ B hml hv
  obtain ⟨rfl, hP, hK⟩ := hv
  have hx := B.exec
  have hb := B.bytes
  have hr := B.returns
  have hts : ∀ w ∈ BG, w.before _ s = true := fun w h => atoms_spec (ws := (ws_X_tried)) B.pre w (List.mem_cons_of_mem _ h)
  have hown : s.vm.findClass RR_X = some m.cls := findClass_of_methodNamed B.named
  have hlocks := B.notSynchronized
  have hl := lv_entry ([.ref aX, .int p0]) (n := 2) (Nat.le_of_ble_eq_true rfl)
  rw [lg_entry_eq]
  generalize (lg_sl ([.ref aX, .int p0]) ++ List.replicate (2 - (lg_sl ([.ref aX, .int p0])).length) Slot.unset).toArray = ls at hl ⊢
  have hl : lv_has ls 2 [(0, .ref aX), (1, .int p0)] := hl
  rw [f_X_tried] at hf
  refine lv_iload_n hx hb d_X_tried_0 rfl (lv_at hl 1 rfl) ?_
  by_cases c1 : p0 = 0
  · have hf := ite_t c1 hf
    refine lv_tableIn (tgt := 28) hx hb d_X_tried_1 (by rw [c1]; decide) (by rw [c1]; decide) (by rw [c1]; rfl) (by decide) ?_
    refine lv_aload_n hx hb d_X_tried_28 rfl (lv_at hl 0 rfl) ?_
    refine va_get (D := D) (ci := 0) (v := .ref aE) (C := RR_X) (T := FF_X) (N := 8) hx hb hts kin_X hown hK.1 hP 0 rfl rfl 6 (by decide) (hts _ k1_209) (fun _ h9 => h9) rfl d_X_tried_29 ?_
    obtain ⟨r2, hr2, hf⟩ := of_bd hf
    refine rd_call (va_runV (As := []) (rest := []) ⟨hx, hb, hml, hown, hts⟩ (c_E_tries l D cI cJ cZ aT aS aM aE aE_goals aE_marks aE_looked aE_underway aE_met aE_takenHere E_level E_steps E_tries E_taken E_first r2 hr2) (bigV 0 hts k2_109 k2_110 k2_111 k1_7 k2_112 rfl rfl hd_E_tries ⟨Nat.le_of_ble_eq_true rfl, Nat.le_of_ble_eq_true rfl⟩) (rd_preV hK hP [1] rfl 1 rfl rfl rfl) rfl rfl hl.1 rfl (lv_room (Nat.le_of_ble_eq_true rfl)) d_X_tried_32 ⟨Nat.le_of_ble_eq_true rfl, Nat.le_of_ble_eq_true rfl⟩) ?_
    obtain rfl := Option.some.inj hf
    exact W.iret (v := r2) hx hb hr (fun t ht hW => ⟨rfl, ht⟩) (fun q h => by cases h) d_X_tried_35
  have hf := ite_f c1 hf
  by_cases c3 : p0 = 1
  · have hf := ite_t c3 hf
    refine lv_tableIn (tgt := 36) hx hb d_X_tried_1 (by rw [c3]; decide) (by rw [c3]; decide) (by rw [c3]; rfl) (by decide) ?_
    refine lv_aload_n hx hb d_X_tried_36 rfl (lv_at hl 0 rfl) ?_
    refine va_get (D := D) (ci := 0) (v := .ref aE) (C := RR_X) (T := FF_X) (N := 8) hx hb hts kin_X hown hK.1 hP 0 rfl rfl 6 (by decide) (hts _ k1_209) (fun _ h9 => h9) rfl d_X_tried_37 ?_
    obtain ⟨r4, hr4, hf⟩ := of_bd hf
    refine rd_call (va_runV (As := []) (rest := []) ⟨hx, hb, hml, hown, hts⟩ (c_E_taken l D cI cJ cZ aT aS aM aE aE_goals aE_marks aE_looked aE_underway aE_met aE_takenHere E_level E_steps E_tries E_taken E_first r4 hr4) (bigV 0 hts k2_113 k2_114 k2_115 k1_7 k2_116 rfl rfl hd_E_taken ⟨Nat.le_of_ble_eq_true rfl, Nat.le_of_ble_eq_true rfl⟩) (rd_preV hK hP [1] rfl 1 rfl rfl rfl) rfl rfl hl.1 rfl (lv_room (Nat.le_of_ble_eq_true rfl)) d_X_tried_40 ⟨Nat.le_of_ble_eq_true rfl, Nat.le_of_ble_eq_true rfl⟩) ?_
    obtain rfl := Option.some.inj hf
    exact W.iret (v := r4) hx hb hr (fun t ht hW => ⟨rfl, ht⟩) (fun q h => by cases h) d_X_tried_43
  have hf := ite_f c3 hf
  by_cases c5 : p0 = 2
  · have hf := ite_t c5 hf
    refine lv_tableIn (tgt := 44) hx hb d_X_tried_1 (by rw [c5]; decide) (by rw [c5]; decide) (by rw [c5]; rfl) (by decide) ?_
    refine lv_aload_n hx hb d_X_tried_44 rfl (lv_at hl 0 rfl) ?_
    refine va_get (D := D) (ci := 0) (v := .ref aE) (C := RR_X) (T := FF_X) (N := 8) hx hb hts kin_X hown hK.1 hP 0 rfl rfl 6 (by decide) (hts _ k1_209) (fun _ h9 => h9) rfl d_X_tried_45 ?_
    obtain ⟨r6, hr6, hf⟩ := of_bd hf
    refine rd_call (va_runV (As := []) (rest := []) ⟨hx, hb, hml, hown, hts⟩ (c_E_first l D cI cJ cZ aT aS aM aE aE_goals aE_marks aE_looked aE_underway aE_met aE_takenHere E_level E_steps E_tries E_taken E_first r6 hr6) (bigV 0 hts k2_117 k2_118 k2_119 k1_7 k2_120 rfl rfl hd_E_first ⟨Nat.le_of_ble_eq_true rfl, Nat.le_of_ble_eq_true rfl⟩) (rd_preV hK hP [1] rfl 1 rfl rfl rfl) rfl rfl hl.1 rfl (lv_room (Nat.le_of_ble_eq_true rfl)) d_X_tried_48 ⟨Nat.le_of_ble_eq_true rfl, Nat.le_of_ble_eq_true rfl⟩) ?_
    obtain rfl := Option.some.inj hf
    exact W.iret (v := r6) hx hb hr (fun t ht hW => ⟨rfl, ht⟩) (fun q h => by cases h) d_X_tried_51
  have hf := ite_f c5 hf
  have n1_0 := lv_neT c1 (a := 0) (by decide)
  have n1_1 := lv_neT c3 (a := 1) (by decide)
  have n1_2 := lv_neT c5 (a := 2) (by decide)
  refine lv_tableOut (tgt := 52) hx hb d_X_tried_1 (by omega) (by decide) ?_
  refine lv_iconst (v := -1) hx hb d_X_tried_52 (by decide) ?_
  obtain rfl := Option.some.inj hf
  exact W.iret (v := (-1 : Int32)) hx hb hr (fun t ht hW => ⟨rfl, ht⟩) (fun q h => by cases h) d_X_tried_53
def f_X_about (X_namesUsed : Int32) (T_count : Int32) (S_count : Int32) (H_count : Int32) (p0 : Int32) : Option (Int32) :=
  if p0 = 0 then
    (f_T_count T_count).bind fun r2 =>
    some r2
  else
  if p0 = 1 then
    (f_S_count S_count).bind fun r4 =>
    some r4
  else
  if p0 = 2 then
    some X_namesUsed
  else
  if p0 = 3 then
    (f_H_count H_count).bind fun r7 =>
    some r7
  else
  some (-1 : Int32)
abbrev rm_X_about : Room := { frames := 1, cells := 0, slots := 0, locals := 20 }
set_option maxHeartbeats 4000000 in
set_option maxRecDepth 100000 in
theorem c_X_about (l : Launch) (D : va_G) (cI cJ cZ : ClassId) (aX aX_arities aT aT_heads aT_places aT_olders aT_sizes aT_withins aT_newest aS aS_premises aS_premiseCounts aS_conclusions aS_order aM aF aE aH aH_statementRow aH_firstRow aH_secondRow : Nat) (X_namesUsed : Int32) (T_count : Int32) (S_count : Int32) (H_kind : Int32) (H_subject : Int32) (H_count : Int32) (p0 : Int32) (o : Int32) (hf : f_X_about X_namesUsed T_count S_count H_count p0 = some o) : Met l y_X_about (ws_X_about) rm_X_about (RPc D vwCl cI cJ cZ [.ref aX, .int p0] (wv_77 cI cJ cZ aX aX_arities aT aT_heads aT_places aT_olders aT_sizes aT_withins aT_newest aS aS_premises aS_premiseCounts aS_conclusions aS_order aM aF aE aH aH_statementRow aH_firstRow aH_secondRow X_namesUsed T_count S_count H_kind H_subject H_count)) (RQ (some (.int o))) 0 0 (fun _ => False) := by
  refine Met.ofW (cc := b_X_about) (maxL := 2) (ret := (some .int)) (by decide) rfl ?_
  intro p e s m args below meth c s₁ B hml hv
  obtain ⟨rfl, hP, hK⟩ := hv
  have hx := B.exec
  have hb := B.bytes
  have hr := B.returns
  have hts : ∀ w ∈ BG, w.before _ s = true := fun w h => atoms_spec (ws := (ws_X_about)) B.pre w (List.mem_cons_of_mem _ h)
  have hown : s.vm.findClass RR_X = some m.cls := findClass_of_methodNamed B.named
  have hlocks := B.notSynchronized
  have hl := lv_entry ([.ref aX, .int p0]) (n := 2) (Nat.le_of_ble_eq_true rfl)
  rw [lg_entry_eq]
  generalize (lg_sl ([.ref aX, .int p0]) ++ List.replicate (2 - (lg_sl ([.ref aX, .int p0])).length) Slot.unset).toArray = ls at hl ⊢
  have hl : lv_has ls 2 [(0, .ref aX), (1, .int p0)] := hl
  rw [f_X_about] at hf
  refine lv_iload_n hx hb d_X_about_0 rfl (lv_at hl 1 rfl) ?_
  by_cases c1 : p0 = 0
  · have hf := ite_t c1 hf
    refine lv_tableIn (tgt := 32) hx hb d_X_about_1 (by rw [c1]; decide) (by rw [c1]; decide) (by rw [c1]; rfl) (by decide) ?_
    refine lv_aload_n hx hb d_X_about_32 rfl (lv_at hl 0 rfl) ?_
    refine va_get (D := D) (ci := 0) (v := .ref aT) (C := RR_X) (T := FF_X) (N := 8) hx hb hts kin_X hown hK.1 hP 0 rfl rfl 0 (by decide) (hts _ k1_203) (fun _ h9 => h9) rfl d_X_about_33 ?_
    obtain ⟨r2, hr2, hf⟩ := of_bd hf
    refine rd_call (va_runV (As := []) (rest := []) ⟨hx, hb, hml, hown, hts⟩ (c_T_count l D cI cJ cZ aT aT_heads aT_places aT_olders aT_sizes aT_withins aT_newest T_count r2 hr2) (bigV 0 hts k2_125 k2_126 k2_127 k1_2 k2_128 rfl rfl hd_T_count ⟨Nat.le_of_ble_eq_true rfl, Nat.le_of_ble_eq_true rfl⟩) (rd_preV hK hP [1] rfl 1 rfl rfl rfl) rfl rfl hl.1 rfl (lv_room (Nat.le_of_ble_eq_true rfl)) d_X_about_36 ⟨Nat.le_of_ble_eq_true rfl, Nat.le_of_ble_eq_true rfl⟩) ?_
    obtain rfl := Option.some.inj hf
    exact W.iret (v := r2) hx hb hr (fun t ht hW => ⟨rfl, ht⟩) (fun q h => by cases h) d_X_about_39
  have hf := ite_f c1 hf
  by_cases c3 : p0 = 1
  · have hf := ite_t c3 hf
    refine lv_tableIn (tgt := 40) hx hb d_X_about_1 (by rw [c3]; decide) (by rw [c3]; decide) (by rw [c3]; rfl) (by decide) ?_
    refine lv_aload_n hx hb d_X_about_40 rfl (lv_at hl 0 rfl) ?_
    refine va_get (D := D) (ci := 0) (v := .ref aS) (C := RR_X) (T := FF_X) (N := 8) hx hb hts kin_X hown hK.1 hP 0 rfl rfl 3 (by decide) (hts _ k1_206) (fun _ h9 => h9) rfl d_X_about_41 ?_
    obtain ⟨r4, hr4, hf⟩ := of_bd hf
    refine rd_call (va_runV (As := []) (rest := []) ⟨hx, hb, hml, hown, hts⟩ (c_S_count l D cI cJ cZ aS aS_premises aS_premiseCounts aS_conclusions aS_order S_count r4 hr4) (bigV 0 hts k2_129 k2_130 k2_131 k1_4 k2_132 rfl rfl hd_S_count ⟨Nat.le_of_ble_eq_true rfl, Nat.le_of_ble_eq_true rfl⟩) (rd_preV hK hP [2] rfl 2 rfl rfl rfl) rfl rfl hl.1 rfl (lv_room (Nat.le_of_ble_eq_true rfl)) d_X_about_44 ⟨Nat.le_of_ble_eq_true rfl, Nat.le_of_ble_eq_true rfl⟩) ?_
    obtain rfl := Option.some.inj hf
    exact W.iret (v := r4) hx hb hr (fun t ht hW => ⟨rfl, ht⟩) (fun q h => by cases h) d_X_about_47
  have hf := ite_f c3 hf
  by_cases c5 : p0 = 2
  · have hf := ite_t c5 hf
    refine lv_tableIn (tgt := 48) hx hb d_X_about_1 (by rw [c5]; decide) (by rw [c5]; decide) (by rw [c5]; rfl) (by decide) ?_
    refine lv_aload_n hx hb d_X_about_48 rfl (lv_at hl 0 rfl) ?_
    refine va_get (D := D) (ci := 0) (v := .int X_namesUsed) (C := RR_X) (T := FF_X) (N := 8) hx hb hts kin_X hown hK.1 hP 0 rfl rfl 2 (by decide) (hts _ k1_205) (fun _ h9 => h9) rfl d_X_about_49 ?_
    obtain rfl := Option.some.inj hf
    exact W.iret (v := X_namesUsed) hx hb hr (fun t ht hW => ⟨rfl, ht⟩) (fun q h => by cases h) d_X_about_52
  have hf := ite_f c5 hf
  by_cases c6 : p0 = 3
  · have hf := ite_t c6 hf
    refine lv_tableIn (tgt := 53) hx hb d_X_about_1 (by rw [c6]; decide) (by rw [c6]; decide) (by rw [c6]; rfl) (by decide) ?_
    refine lv_aload_n hx hb d_X_about_53 rfl (lv_at hl 0 rfl) ?_
    refine va_get (D := D) (ci := 0) (v := .ref aH) (C := RR_X) (T := FF_X) (N := 8) hx hb hts kin_X hown hK.1 hP 0 rfl rfl 7 (by decide) (hts _ k1_210) (fun _ h9 => h9) rfl d_X_about_54 ?_
    obtain ⟨r7, hr7, hf⟩ := of_bd hf
    refine rd_call (va_runV (As := []) (rest := []) ⟨hx, hb, hml, hown, hts⟩ (c_H_count l D cI cJ cZ aH aH_statementRow aH_firstRow aH_secondRow H_kind H_subject H_count r7 hr7) (bigV 0 hts k2_133 k2_134 k2_135 k1_8 k2_136 rfl rfl hd_H_count ⟨Nat.le_of_ble_eq_true rfl, Nat.le_of_ble_eq_true rfl⟩) (rd_preV hK hP [3] rfl 3 rfl rfl rfl) rfl rfl hl.1 rfl (lv_room (Nat.le_of_ble_eq_true rfl)) d_X_about_57 ⟨Nat.le_of_ble_eq_true rfl, Nat.le_of_ble_eq_true rfl⟩) ?_
    obtain rfl := Option.some.inj hf
    exact W.iret (v := r7) hx hb hr (fun t ht hW => ⟨rfl, ht⟩) (fun q h => by cases h) d_X_about_60
  have hf := ite_f c6 hf
  have n1_0 := lv_neT c1 (a := 0) (by decide)
  have n1_1 := lv_neT c3 (a := 1) (by decide)
  have n1_2 := lv_neT c5 (a := 2) (by decide)
  have n1_3 := lv_neT c6 (a := 3) (by decide)
  refine lv_tableOut (tgt := 61) hx hb d_X_about_1 (by omega) (by decide) ?_
  refine lv_iconst (v := -1) hx hb d_X_about_61 (by decide) ?_
  obtain rfl := Option.some.inj hf
  exact W.iret (v := (-1 : Int32)) hx hb hr (fun t ht hW => ⟨rfl, ht⟩) (fun q h => by cases h) d_X_about_62
