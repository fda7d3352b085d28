abbrev b_X_name : ByteArray := prog_1_method_2_code
abbrev y_X_name : MethodName := ⟨"ShapeSearch", "name", "(IIII)I"⟩
abbrev ws_X_name : List Cond := .code y_X_name b_X_name 9 (some .int) :: BG
theorem hd_X_name : y_X_name.cls ≠ "java/lang/invoke/MethodHandle" ∧ y_X_name.cls ≠ "java/lang/invoke/VarHandle" ∧ (parseMethodDescriptor y_X_name.desc).map (fun d => d.parameters.length) = some 4 := by decide +kernel
theorem d_X_name_0 : decode b_X_name 0 = .ok (.iload_n 2, 1) := by decide +kernel
theorem d_X_name_1 : decode b_X_name 1 = .ok (.iload_n 3, 1) := by decide +kernel
theorem d_X_name_2 : decode b_X_name 2 = .ok (.iload 4, 2) := by decide +kernel
theorem d_X_name_4 : decode b_X_name 4 = .ok (.iconst (-1), 1) := by decide +kernel
theorem d_X_name_5 : decode b_X_name 5 = .ok (.invokestatic 71, 3) := by decide +kernel
theorem d_X_name_8 : decode b_X_name 8 = .ok (.istore 5, 2) := by decide +kernel
theorem d_X_name_10 : decode b_X_name 10 = .ok (.iload_n 1, 1) := by decide +kernel
theorem d_X_name_11 : decode b_X_name 11 = .ok (.ifCond .lt 23, 3) := by decide +kernel
theorem d_X_name_14 : decode b_X_name 14 = .ok (.iload_n 1, 1) := by decide +kernel
theorem d_X_name_15 : decode b_X_name 15 = .ok (.bipush 30, 2) := by decide +kernel
theorem d_X_name_17 : decode b_X_name 17 = .ok (.if_icmp .ge 17, 3) := by decide +kernel
theorem d_X_name_20 : decode b_X_name 20 = .ok (.aload_n 0, 1) := by decide +kernel
theorem d_X_name_21 : decode b_X_name 21 = .ok (.iload 5, 2) := by decide +kernel
theorem d_X_name_23 : decode b_X_name 23 = .ok (.iload_n 2, 1) := by decide +kernel
theorem d_X_name_24 : decode b_X_name 24 = .ok (.iload_n 3, 1) := by decide +kernel
theorem d_X_name_25 : decode b_X_name 25 = .ok (.iload 4, 2) := by decide +kernel
theorem d_X_name_27 : decode b_X_name 27 = .ok (.iconst (-1), 1) := by decide +kernel
theorem d_X_name_28 : decode b_X_name 28 = .ok (.invokevirtual 75, 3) := by decide +kernel
theorem d_X_name_31 : decode b_X_name 31 = .ok (.ifCond .ne 13, 3) := by decide +kernel
theorem d_X_name_34 : decode b_X_name 34 = .ok (.new 79, 3) := by decide +kernel
theorem d_X_name_37 : decode b_X_name 37 = .ok (.dup, 1) := by decide +kernel
theorem d_X_name_38 : decode b_X_name 38 = .ok (.ldc 81, 2) := by decide +kernel
theorem d_X_name_40 : decode b_X_name 40 = .ok (.invokespecial 83, 3) := by decide +kernel
theorem d_X_name_43 : decode b_X_name 43 = .ok (.athrow, 1) := by decide +kernel
theorem d_X_name_44 : decode b_X_name 44 = .ok (.aload_n 0, 1) := by decide +kernel
theorem d_X_name_45 : decode b_X_name 45 = .ok (.getfield 16, 3) := by decide +kernel
theorem d_X_name_48 : decode b_X_name 48 = .ok (.iload_n 1, 1) := by decide +kernel
theorem d_X_name_49 : decode b_X_name 49 = .ok (.iaload, 1) := by decide +kernel
theorem d_X_name_50 : decode b_X_name 50 = .ok (.iconst (-1), 1) := by decide +kernel
theorem d_X_name_51 : decode b_X_name 51 = .ok (.if_icmp .eq 24, 3) := by decide +kernel
theorem d_X_name_54 : decode b_X_name 54 = .ok (.aload_n 0, 1) := by decide +kernel
theorem d_X_name_55 : decode b_X_name 55 = .ok (.getfield 16, 3) := by decide +kernel
theorem d_X_name_58 : decode b_X_name 58 = .ok (.iload_n 1, 1) := by decide +kernel
theorem d_X_name_59 : decode b_X_name 59 = .ok (.iaload, 1) := by decide +kernel
theorem d_X_name_60 : decode b_X_name 60 = .ok (.iload 5, 2) := by decide +kernel
theorem d_X_name_62 : decode b_X_name 62 = .ok (.if_icmp .eq 13, 3) := by decide +kernel
theorem d_X_name_65 : decode b_X_name 65 = .ok (.new 86, 3) := by decide +kernel
theorem d_X_name_68 : decode b_X_name 68 = .ok (.dup, 1) := by decide +kernel
theorem d_X_name_69 : decode b_X_name 69 = .ok (.ldc 88, 2) := by decide +kernel
theorem d_X_name_71 : decode b_X_name 71 = .ok (.invokespecial 90, 3) := by decide +kernel
theorem d_X_name_74 : decode b_X_name 74 = .ok (.athrow, 1) := by decide +kernel
theorem d_X_name_75 : decode b_X_name 75 = .ok (.iload 5, 2) := by decide +kernel
theorem d_X_name_77 : decode b_X_name 77 = .ok (.iconst 1, 1) := by decide +kernel
theorem d_X_name_78 : decode b_X_name 78 = .ok (.if_icmp .le 7, 3) := by decide +kernel
theorem d_X_name_81 : decode b_X_name 81 = .ok (.iload_n 3, 1) := by decide +kernel
theorem d_X_name_82 : decode b_X_name 82 = .ok (.goto 4, 3) := by decide +kernel
theorem d_X_name_85 : decode b_X_name 85 = .ok (.iconst (-1), 1) := by decide +kernel
theorem d_X_name_86 : decode b_X_name 86 = .ok (.istore 6, 2) := by decide +kernel
theorem d_X_name_88 : decode b_X_name 88 = .ok (.iload 5, 2) := by decide +kernel
theorem d_X_name_90 : decode b_X_name 90 = .ok (.iconst 2, 1) := by decide +kernel
theorem d_X_name_91 : decode b_X_name 91 = .ok (.if_icmp .le 8, 3) := by decide +kernel
theorem d_X_name_94 : decode b_X_name 94 = .ok (.iload 4, 2) := by decide +kernel
theorem d_X_name_96 : decode b_X_name 96 = .ok (.goto 4, 3) := by decide +kernel
theorem d_X_name_99 : decode b_X_name 99 = .ok (.iconst (-1), 1) := by decide +kernel
theorem d_X_name_100 : decode b_X_name 100 = .ok (.istore 7, 2) := by decide +kernel
theorem d_X_name_102 : decode b_X_name 102 = .ok (.aload_n 0, 1) := by decide +kernel
theorem d_X_name_103 : decode b_X_name 103 = .ok (.getfield 12, 3) := by decide +kernel
theorem d_X_name_106 : decode b_X_name 106 = .ok (.iload_n 1, 1) := by decide +kernel
theorem d_X_name_107 : decode b_X_name 107 = .ok (.iload_n 2, 1) := by decide +kernel
theorem d_X_name_108 : decode b_X_name 108 = .ok (.iload 6, 2) := by decide +kernel
theorem d_X_name_110 : decode b_X_name 110 = .ok (.iload 7, 2) := by decide +kernel
theorem d_X_name_112 : decode b_X_name 112 = .ok (.bipush 100, 2) := by decide +kernel
theorem d_X_name_114 : decode b_X_name 114 = .ok (.invokevirtual 91, 3) := by decide +kernel
theorem d_X_name_117 : decode b_X_name 117 = .ok (.istore 8, 2) := by decide +kernel
theorem d_X_name_119 : decode b_X_name 119 = .ok (.iload 8, 2) := by decide +kernel
theorem d_X_name_121 : decode b_X_name 121 = .ok (.iconst (-1), 1) := by decide +kernel
theorem d_X_name_122 : decode b_X_name 122 = .ok (.if_icmp .ne 13, 3) := by decide +kernel
theorem d_X_name_125 : decode b_X_name 125 = .ok (.new 95, 3) := by decide +kernel
theorem d_X_name_128 : decode b_X_name 128 = .ok (.dup, 1) := by decide +kernel
theorem d_X_name_129 : decode b_X_name 129 = .ok (.ldc 97, 2) := by decide +kernel
theorem d_X_name_131 : decode b_X_name 131 = .ok (.invokespecial 99, 3) := by decide +kernel
theorem d_X_name_134 : decode b_X_name 134 = .ok (.athrow, 1) := by decide +kernel
theorem d_X_name_135 : decode b_X_name 135 = .ok (.aload_n 0, 1) := by decide +kernel
theorem d_X_name_136 : decode b_X_name 136 = .ok (.getfield 16, 3) := by decide +kernel
theorem d_X_name_139 : decode b_X_name 139 = .ok (.iload_n 1, 1) := by decide +kernel
theorem d_X_name_140 : decode b_X_name 140 = .ok (.iaload, 1) := by decide +kernel
theorem d_X_name_141 : decode b_X_name 141 = .ok (.iconst (-1), 1) := by decide +kernel
theorem d_X_name_142 : decode b_X_name 142 = .ok (.if_icmp .ne 21, 3) := by decide +kernel
theorem d_X_name_145 : decode b_X_name 145 = .ok (.aload_n 0, 1) := by decide +kernel
theorem d_X_name_146 : decode b_X_name 146 = .ok (.getfield 16, 3) := by decide +kernel
theorem d_X_name_149 : decode b_X_name 149 = .ok (.iload_n 1, 1) := by decide +kernel
theorem d_X_name_150 : decode b_X_name 150 = .ok (.iload 5, 2) := by decide +kernel
theorem d_X_name_152 : decode b_X_name 152 = .ok (.iastore, 1) := by decide +kernel
theorem d_X_name_153 : decode b_X_name 153 = .ok (.aload_n 0, 1) := by decide +kernel
theorem d_X_name_154 : decode b_X_name 154 = .ok (.dup, 1) := by decide +kernel
theorem d_X_name_155 : decode b_X_name 155 = .ok (.getfield 26, 3) := by decide +kernel
theorem d_X_name_158 : decode b_X_name 158 = .ok (.iconst 1, 1) := by decide +kernel
theorem d_X_name_159 : decode b_X_name 159 = .ok (.iadd, 1) := by decide +kernel
theorem d_X_name_160 : decode b_X_name 160 = .ok (.putfield 26, 3) := by decide +kernel
theorem d_X_name_163 : decode b_X_name 163 = .ok (.iload 8, 2) := by decide +kernel
theorem d_X_name_165 : decode b_X_name 165 = .ok (.ireturn, 1) := by decide +kernel
abbrev b_X_state : ByteArray := prog_1_method_5_code
abbrev y_X_state : MethodName := ⟨"ShapeSearch", "state", "(IIIII)I"⟩
abbrev ws_X_state : List Cond := .code y_X_state b_X_state 8 (some .int) :: BG
theorem hd_X_state : y_X_state.cls ≠ "java/lang/invoke/MethodHandle" ∧ y_X_state.cls ≠ "java/lang/invoke/VarHandle" ∧ (parseMethodDescriptor y_X_state.desc).map (fun d => d.parameters.length) = some 5 := by decide +kernel
theorem d_X_state_0 : decode b_X_state 0 = .ok (.iload_n 1, 1) := by decide +kernel
theorem d_X_state_1 : decode b_X_state 1 = .ok (.iload_n 2, 1) := by decide +kernel
theorem d_X_state_2 : decode b_X_state 2 = .ok (.iload_n 3, 1) := by decide +kernel
theorem d_X_state_3 : decode b_X_state 3 = .ok (.iload 4, 2) := by decide +kernel
theorem d_X_state_5 : decode b_X_state 5 = .ok (.invokestatic 71, 3) := by decide +kernel
theorem d_X_state_8 : decode b_X_state 8 = .ok (.istore 6, 2) := by decide +kernel
theorem d_X_state_10 : decode b_X_state 10 = .ok (.aload_n 0, 1) := by decide +kernel
theorem d_X_state_11 : decode b_X_state 11 = .ok (.iload 6, 2) := by decide +kernel
theorem d_X_state_13 : decode b_X_state 13 = .ok (.iload_n 1, 1) := by decide +kernel
theorem d_X_state_14 : decode b_X_state 14 = .ok (.iload_n 2, 1) := by decide +kernel
theorem d_X_state_15 : decode b_X_state 15 = .ok (.iload_n 3, 1) := by decide +kernel
theorem d_X_state_16 : decode b_X_state 16 = .ok (.iload 4, 2) := by decide +kernel
theorem d_X_state_18 : decode b_X_state 18 = .ok (.invokevirtual 75, 3) := by decide +kernel
theorem d_X_state_21 : decode b_X_state 21 = .ok (.ifCond .eq 15, 3) := by decide +kernel
theorem d_X_state_24 : decode b_X_state 24 = .ok (.aload_n 0, 1) := by decide +kernel
theorem d_X_state_25 : decode b_X_state 25 = .ok (.getfield 12, 3) := by decide +kernel
theorem d_X_state_28 : decode b_X_state 28 = .ok (.iload 5, 2) := by decide +kernel
theorem d_X_state_30 : decode b_X_state 30 = .ok (.invokevirtual 102, 3) := by decide +kernel
theorem d_X_state_33 : decode b_X_state 33 = .ok (.ifCond .ne 13, 3) := by decide +kernel
theorem d_X_state_36 : decode b_X_state 36 = .ok (.new 79, 3) := by decide +kernel
theorem d_X_state_39 : decode b_X_state 39 = .ok (.dup, 1) := by decide +kernel
theorem d_X_state_40 : decode b_X_state 40 = .ok (.ldc 117, 2) := by decide +kernel
theorem d_X_state_42 : decode b_X_state 42 = .ok (.invokespecial 83, 3) := by decide +kernel
theorem d_X_state_45 : decode b_X_state 45 = .ok (.athrow, 1) := by decide +kernel
theorem d_X_state_46 : decode b_X_state 46 = .ok (.aload_n 0, 1) := by decide +kernel
theorem d_X_state_47 : decode b_X_state 47 = .ok (.iload 6, 2) := by decide +kernel
theorem d_X_state_49 : decode b_X_state 49 = .ok (.iload_n 1, 1) := by decide +kernel
theorem d_X_state_50 : decode b_X_state 50 = .ok (.iload_n 2, 1) := by decide +kernel
theorem d_X_state_51 : decode b_X_state 51 = .ok (.iload_n 3, 1) := by decide +kernel
theorem d_X_state_52 : decode b_X_state 52 = .ok (.iload 4, 2) := by decide +kernel
theorem d_X_state_54 : decode b_X_state 54 = .ok (.invokevirtual 119, 3) := by decide +kernel
theorem d_X_state_57 : decode b_X_state 57 = .ok (.ifCond .ne 18, 3) := by decide +kernel
theorem d_X_state_60 : decode b_X_state 60 = .ok (.aload_n 0, 1) := by decide +kernel
theorem d_X_state_61 : decode b_X_state 61 = .ok (.getfield 12, 3) := by decide +kernel
theorem d_X_state_64 : decode b_X_state 64 = .ok (.iload 5, 2) := by decide +kernel
theorem d_X_state_66 : decode b_X_state 66 = .ok (.ldc2_w 122, 3) := by decide +kernel
theorem d_X_state_69 : decode b_X_state 69 = .ok (.invokevirtual 124, 3) := by decide +kernel
theorem d_X_state_72 : decode b_X_state 72 = .ok (.ifCond .eq 13, 3) := by decide +kernel
theorem d_X_state_75 : decode b_X_state 75 = .ok (.new 86, 3) := by decide +kernel
theorem d_X_state_78 : decode b_X_state 78 = .ok (.dup, 1) := by decide +kernel
theorem d_X_state_79 : decode b_X_state 79 = .ok (.ldc 128, 2) := by decide +kernel
theorem d_X_state_81 : decode b_X_state 81 = .ok (.invokespecial 90, 3) := by decide +kernel
theorem d_X_state_84 : decode b_X_state 84 = .ok (.athrow, 1) := by decide +kernel
theorem d_X_state_85 : decode b_X_state 85 = .ok (.aload_n 0, 1) := by decide +kernel
theorem d_X_state_86 : decode b_X_state 86 = .ok (.getfield 33, 3) := by decide +kernel
theorem d_X_state_89 : decode b_X_state 89 = .ok (.iload 6, 2) := by decide +kernel
theorem d_X_state_91 : decode b_X_state 91 = .ok (.iload_n 1, 1) := by decide +kernel
theorem d_X_state_92 : decode b_X_state 92 = .ok (.iload_n 2, 1) := by decide +kernel
theorem d_X_state_93 : decode b_X_state 93 = .ok (.iload_n 3, 1) := by decide +kernel
theorem d_X_state_94 : decode b_X_state 94 = .ok (.iload 4, 2) := by decide +kernel
theorem d_X_state_96 : decode b_X_state 96 = .ok (.iload 5, 2) := by decide +kernel
theorem d_X_state_98 : decode b_X_state 98 = .ok (.invokevirtual 130, 3) := by decide +kernel
theorem d_X_state_101 : decode b_X_state 101 = .ok (.istore 7, 2) := by decide +kernel
theorem d_X_state_103 : decode b_X_state 103 = .ok (.iload 7, 2) := by decide +kernel
theorem d_X_state_105 : decode b_X_state 105 = .ok (.iconst (-1), 1) := by decide +kernel
theorem d_X_state_106 : decode b_X_state 106 = .ok (.if_icmp .ne 13, 3) := by decide +kernel
theorem d_X_state_109 : decode b_X_state 109 = .ok (.new 95, 3) := by decide +kernel
theorem d_X_state_112 : decode b_X_state 112 = .ok (.dup, 1) := by decide +kernel
theorem d_X_state_113 : decode b_X_state 113 = .ok (.ldc 134, 2) := by decide +kernel
theorem d_X_state_115 : decode b_X_state 115 = .ok (.invokespecial 99, 3) := by decide +kernel
theorem d_X_state_118 : decode b_X_state 118 = .ok (.athrow, 1) := by decide +kernel
theorem d_X_state_119 : decode b_X_state 119 = .ok (.aload_n 0, 1) := by decide +kernel
theorem d_X_state_120 : decode b_X_state 120 = .ok (.getfield 67, 3) := by decide +kernel
theorem d_X_state_123 : decode b_X_state 123 = .ok (.invokevirtual 136, 3) := by decide +kernel
theorem d_X_state_126 : decode b_X_state 126 = .ok (.iload 7, 2) := by decide +kernel
theorem d_X_state_128 : decode b_X_state 128 = .ok (.ireturn, 1) := by decide +kernel
abbrev b_X_find : ByteArray := prog_1_method_7_code
abbrev y_X_find : MethodName := ⟨"ShapeSearch", "find", "(I)I"⟩
abbrev ws_X_find : List Cond := .code y_X_find b_X_find 3 (some .int) :: BG
theorem hd_X_find : y_X_find.cls ≠ "java/lang/invoke/MethodHandle" ∧ y_X_find.cls ≠ "java/lang/invoke/VarHandle" ∧ (parseMethodDescriptor y_X_find.desc).map (fun d => d.parameters.length) = some 1 := by decide +kernel
theorem d_X_find_0 : decode b_X_find 0 = .ok (.aload_n 0, 1) := by decide +kernel
theorem d_X_find_1 : decode b_X_find 1 = .ok (.getfield 12, 3) := by decide +kernel
theorem d_X_find_4 : decode b_X_find 4 = .ok (.iload_n 1, 1) := by decide +kernel
theorem d_X_find_5 : decode b_X_find 5 = .ok (.invokevirtual 102, 3) := by decide +kernel
theorem d_X_find_8 : decode b_X_find 8 = .ok (.ifCond .ne 13, 3) := by decide +kernel
theorem d_X_find_11 : decode b_X_find 11 = .ok (.new 79, 3) := by decide +kernel
theorem d_X_find_14 : decode b_X_find 14 = .ok (.dup, 1) := by decide +kernel
theorem d_X_find_15 : decode b_X_find 15 = .ok (.ldc 117, 2) := by decide +kernel
theorem d_X_find_17 : decode b_X_find 17 = .ok (.invokespecial 83, 3) := by decide +kernel
theorem d_X_find_20 : decode b_X_find 20 = .ok (.athrow, 1) := by decide +kernel
theorem d_X_find_21 : decode b_X_find 21 = .ok (.aload_n 0, 1) := by decide +kernel
theorem d_X_find_22 : decode b_X_find 22 = .ok (.getfield 67, 3) := by decide +kernel
theorem d_X_find_25 : decode b_X_find 25 = .ok (.iconst 1, 1) := by decide +kernel
theorem d_X_find_26 : decode b_X_find 26 = .ok (.iload_n 1, 1) := by decide +kernel
theorem d_X_find_27 : decode b_X_find 27 = .ok (.invokevirtual 143, 3) := by decide +kernel
theorem d_X_find_30 : decode b_X_find 30 = .ok (.aload_n 0, 1) := by decide +kernel
theorem d_X_find_31 : decode b_X_find 31 = .ok (.getfield 51, 3) := by decide +kernel
theorem d_X_find_34 : decode b_X_find 34 = .ok (.iload_n 1, 1) := by decide +kernel
theorem d_X_find_35 : decode b_X_find 35 = .ok (.invokevirtual 147, 3) := by decide +kernel
theorem d_X_find_38 : decode b_X_find 38 = .ok (.iconst 0, 1) := by decide +kernel
theorem d_X_find_39 : decode b_X_find 39 = .ok (.istore_n 2, 1) := by decide +kernel
theorem d_X_find_40 : decode b_X_find 40 = .ok (.iload_n 2, 1) := by decide +kernel
theorem d_X_find_41 : decode b_X_find 41 = .ok (.aload_n 0, 1) := by decide +kernel
theorem d_X_find_42 : decode b_X_find 42 = .ok (.getfield 33, 3) := by decide +kernel
theorem d_X_find_45 : decode b_X_find 45 = .ok (.invokevirtual 150, 3) := by decide +kernel
theorem d_X_find_48 : decode b_X_find 48 = .ok (.if_icmp .ge 46, 3) := by decide +kernel
theorem d_X_find_51 : decode b_X_find 51 = .ok (.aload_n 0, 1) := by decide +kernel
theorem d_X_find_52 : decode b_X_find 52 = .ok (.getfield 51, 3) := by decide +kernel
theorem d_X_find_55 : decode b_X_find 55 = .ok (.aload_n 0, 1) := by decide +kernel
theorem d_X_find_56 : decode b_X_find 56 = .ok (.getfield 33, 3) := by decide +kernel
theorem d_X_find_59 : decode b_X_find 59 = .ok (.iload_n 2, 1) := by decide +kernel
theorem d_X_find_60 : decode b_X_find 60 = .ok (.invokevirtual 154, 3) := by decide +kernel
theorem d_X_find_63 : decode b_X_find 63 = .ok (.ifCond .eq 25, 3) := by decide +kernel
theorem d_X_find_66 : decode b_X_find 66 = .ok (.aload_n 0, 1) := by decide +kernel
theorem d_X_find_67 : decode b_X_find 67 = .ok (.getfield 67, 3) := by decide +kernel
theorem d_X_find_70 : decode b_X_find 70 = .ok (.iload_n 2, 1) := by decide +kernel
theorem d_X_find_71 : decode b_X_find 71 = .ok (.aload_n 0, 1) := by decide +kernel
theorem d_X_find_72 : decode b_X_find 72 = .ok (.getfield 51, 3) := by decide +kernel
theorem d_X_find_75 : decode b_X_find 75 = .ok (.invokevirtual 158, 3) := by decide +kernel
theorem d_X_find_78 : decode b_X_find 78 = .ok (.aload_n 0, 1) := by decide +kernel
theorem d_X_find_79 : decode b_X_find 79 = .ok (.getfield 51, 3) := by decide +kernel
theorem d_X_find_82 : decode b_X_find 82 = .ok (.invokevirtual 161, 3) := by decide +kernel
theorem d_X_find_85 : decode b_X_find 85 = .ok (.invokevirtual 164, 3) := by decide +kernel
theorem d_X_find_88 : decode b_X_find 88 = .ok (.iinc 2 1, 3) := by decide +kernel
theorem d_X_find_91 : decode b_X_find 91 = .ok (.goto (-51), 3) := by decide +kernel
theorem d_X_find_94 : decode b_X_find 94 = .ok (.aload_n 0, 1) := by decide +kernel
theorem d_X_find_95 : decode b_X_find 95 = .ok (.getfield 67, 3) := by decide +kernel
theorem d_X_find_98 : decode b_X_find 98 = .ok (.invokevirtual 167, 3) := by decide +kernel
theorem d_X_find_101 : decode b_X_find 101 = .ok (.ireturn, 1) := by decide +kernel
theorem k2_147 : Cond.methodLink "ShapeSearch" 71 ⟨"ShapeSearch", "leading", "(IIII)I"⟩ ∈ BG := List.mem_filter.mpr ⟨in_2 (List.mem_of_getElem? (i := 147) rfl), rfl⟩
theorem k2_149 : Cond.code ⟨"ShapeSearch", "leading", "(IIII)I"⟩ prog_1_method_16_code 4 (some .int) ∈ BG := List.mem_filter.mpr ⟨in_2 (List.mem_of_getElem? (i := 149) rfl), rfl⟩
theorem k2_148 : Cond.static ⟨"ShapeSearch", "leading", "(IIII)I"⟩ ∈ BG := List.mem_filter.mpr ⟨in_2 (List.mem_of_getElem? (i := 148) rfl), rfl⟩
theorem k2_150 : Cond.methodLink "ShapeSearch" 75 ⟨"ShapeSearch", "areTerms", "(IIIII)Z"⟩ ∈ BG := List.mem_filter.mpr ⟨in_2 (List.mem_of_getElem? (i := 150) rfl), rfl⟩
theorem k2_153 : Cond.code ⟨"ShapeSearch", "areTerms", "(IIIII)Z"⟩ prog_1_method_17_code 6 (some .boolean) ∈ BG := List.mem_filter.mpr ⟨in_2 (List.mem_of_getElem? (i := 153) rfl), rfl⟩
theorem k2_152 : Cond.instanceMethod ⟨"ShapeSearch", "areTerms", "(IIIII)Z"⟩ ∈ BG := List.mem_filter.mpr ⟨in_2 (List.mem_of_getElem? (i := 152) rfl), rfl⟩
theorem k3_44 : Cond.methodLink "ShapeSearch" 119 ⟨"ShapeSearch", "holeStandsIn", "(IIIII)Z"⟩ ∈ BG := List.mem_filter.mpr ⟨in_3 (List.mem_of_getElem? (i := 44) rfl), rfl⟩
theorem k3_47 : Cond.code ⟨"ShapeSearch", "holeStandsIn", "(IIIII)Z"⟩ prog_1_method_18_code 6 (some .boolean) ∈ BG := List.mem_filter.mpr ⟨in_3 (List.mem_of_getElem? (i := 47) rfl), rfl⟩
theorem k3_46 : Cond.instanceMethod ⟨"ShapeSearch", "holeStandsIn", "(IIIII)Z"⟩ ∈ BG := List.mem_filter.mpr ⟨in_3 (List.mem_of_getElem? (i := 46) rfl), rfl⟩
theorem k3_50 : Cond.methodLink "ShapeSearch" 130 ⟨"ShapeSearch$Statements", "add", "(IIIIII)I"⟩ ∈ BG := List.mem_filter.mpr ⟨in_3 (List.mem_of_getElem? (i := 50) rfl), rfl⟩
theorem k3_53 : Cond.code ⟨"ShapeSearch$Statements", "add", "(IIIIII)I"⟩ prog_6_method_3_code 8 (some .int) ∈ BG := List.mem_filter.mpr ⟨in_3 (List.mem_of_getElem? (i := 53) rfl), rfl⟩
theorem k3_51 : Cond.instanceMethod ⟨"ShapeSearch$Statements", "add", "(IIIIII)I"⟩ ∈ BG := List.mem_filter.mpr ⟨in_3 (List.mem_of_getElem? (i := 51) rfl), rfl⟩
theorem k3_52 : Cond.selects "ShapeSearch$Statements" ⟨"ShapeSearch$Statements", "add", "(IIIIII)I"⟩ ⟨"ShapeSearch$Statements", "add", "(IIIIII)I"⟩ ∈ BG := List.mem_filter.mpr ⟨in_3 (List.mem_of_getElem? (i := 52) rfl), rfl⟩
theorem k3_62 : Cond.methodLink "ShapeSearch" 143 ⟨"ShapeSearch$Hits", "begin", "(II)V"⟩ ∈ BG := List.mem_filter.mpr ⟨in_3 (List.mem_of_getElem? (i := 62) rfl), rfl⟩
theorem k3_63 : Cond.methodLink "ShapeSearch" 147 ⟨"ShapeSearch$Finder", "begin", "(I)V"⟩ ∈ BG := List.mem_filter.mpr ⟨in_3 (List.mem_of_getElem? (i := 63) rfl), rfl⟩
theorem k3_66 : Cond.code ⟨"ShapeSearch$Finder", "begin", "(I)V"⟩ prog_2_method_2_code 2 (none : Option Jvm.ClassFile.FieldType) ∈ BG := List.mem_filter.mpr ⟨in_3 (List.mem_of_getElem? (i := 66) rfl), rfl⟩
theorem k3_64 : Cond.instanceMethod ⟨"ShapeSearch$Finder", "begin", "(I)V"⟩ ∈ BG := List.mem_filter.mpr ⟨in_3 (List.mem_of_getElem? (i := 64) rfl), rfl⟩
theorem k3_65 : Cond.selects "ShapeSearch$Finder" ⟨"ShapeSearch$Finder", "begin", "(I)V"⟩ ⟨"ShapeSearch$Finder", "begin", "(I)V"⟩ ∈ BG := List.mem_filter.mpr ⟨in_3 (List.mem_of_getElem? (i := 65) rfl), rfl⟩
theorem k3_67 : Cond.methodLink "ShapeSearch" 154 ⟨"ShapeSearch$Finder", "finds", "(LShapeSearch$Statements;I)Z"⟩ ∈ BG := List.mem_filter.mpr ⟨in_3 (List.mem_of_getElem? (i := 67) rfl), rfl⟩
theorem k3_70 : Cond.code ⟨"ShapeSearch$Finder", "finds", "(LShapeSearch$Statements;I)Z"⟩ prog_2_method_5_code 4 (some .boolean) ∈ BG := List.mem_filter.mpr ⟨in_3 (List.mem_of_getElem? (i := 70) rfl), rfl⟩
theorem k3_68 : Cond.instanceMethod ⟨"ShapeSearch$Finder", "finds", "(LShapeSearch$Statements;I)Z"⟩ ∈ BG := List.mem_filter.mpr ⟨in_3 (List.mem_of_getElem? (i := 68) rfl), rfl⟩
theorem k3_69 : Cond.selects "ShapeSearch$Finder" ⟨"ShapeSearch$Finder", "finds", "(LShapeSearch$Statements;I)Z"⟩ ⟨"ShapeSearch$Finder", "finds", "(LShapeSearch$Statements;I)Z"⟩ ∈ BG := List.mem_filter.mpr ⟨in_3 (List.mem_of_getElem? (i := 69) rfl), rfl⟩
theorem k3_92 : Cond.methodLink "ShapeSearch" 158 ⟨"ShapeSearch$Finder", "premise", "()I"⟩ ∈ BG := List.mem_filter.mpr ⟨in_3 (List.mem_of_getElem? (i := 92) rfl), rfl⟩
theorem k3_95 : Cond.code ⟨"ShapeSearch$Finder", "premise", "()I"⟩ prog_2_method_4_code 1 (some .int) ∈ BG := List.mem_filter.mpr ⟨in_3 (List.mem_of_getElem? (i := 95) rfl), rfl⟩
theorem k3_93 : Cond.instanceMethod ⟨"ShapeSearch$Finder", "premise", "()I"⟩ ∈ BG := List.mem_filter.mpr ⟨in_3 (List.mem_of_getElem? (i := 93) rfl), rfl⟩
theorem k3_94 : Cond.selects "ShapeSearch$Finder" ⟨"ShapeSearch$Finder", "premise", "()I"⟩ ⟨"ShapeSearch$Finder", "premise", "()I"⟩ ∈ BG := List.mem_filter.mpr ⟨in_3 (List.mem_of_getElem? (i := 94) rfl), rfl⟩
theorem k3_96 : Cond.methodLink "ShapeSearch" 161 ⟨"ShapeSearch$Finder", "match", "()I"⟩ ∈ BG := List.mem_filter.mpr ⟨in_3 (List.mem_of_getElem? (i := 96) rfl), rfl⟩
theorem k3_99 : Cond.code ⟨"ShapeSearch$Finder", "match", "()I"⟩ prog_2_method_3_code 1 (some .int) ∈ BG := List.mem_filter.mpr ⟨in_3 (List.mem_of_getElem? (i := 99) rfl), rfl⟩
theorem k3_97 : Cond.instanceMethod ⟨"ShapeSearch$Finder", "match", "()I"⟩ ∈ BG := List.mem_filter.mpr ⟨in_3 (List.mem_of_getElem? (i := 97) rfl), rfl⟩
theorem k3_98 : Cond.selects "ShapeSearch$Finder" ⟨"ShapeSearch$Finder", "match", "()I"⟩ ⟨"ShapeSearch$Finder", "match", "()I"⟩ ∈ BG := List.mem_filter.mpr ⟨in_3 (List.mem_of_getElem? (i := 98) rfl), rfl⟩
theorem k3_100 : Cond.methodLink "ShapeSearch" 164 ⟨"ShapeSearch$Hits", "add", "(III)V"⟩ ∈ BG := List.mem_filter.mpr ⟨in_3 (List.mem_of_getElem? (i := 100) rfl), rfl⟩
abbrev wv_89 (cI cJ cZ : ClassId) (aX aX_arities aT aT_heads aT_places aT_olders aT_sizes aT_withins aT_newest aS aM aF aE aH : Nat) (X_namesUsed : Int32) (X_arities : (Nat → Int32)) (T_count : Int32) (nT_heads : Nat) (T_heads : (Nat → Int32)) (nT_places : Nat) (T_places : (Nat → Int32)) (nT_olders : Nat) (T_olders : (Nat → Int32)) (nT_sizes : Nat) (T_sizes : (Nat → Int32)) (nT_withins : Nat) (T_withins : (Nat → Int64)) (T_newest : (Nat → Int32)) : va_W := [(aX, .inr (0, [.ref aT, .ref aX_arities, .int X_namesUsed, .ref aS, .ref aM, .ref aF, .ref aE, .ref aH])), (aX_arities, .inl (cI, 30, .inl X_arities)), (aT, .inr (1, [.ref aT_heads, .ref aT_places, .ref aT_olders, .ref aT_sizes, .ref aT_withins, .ref aT_newest, .int T_count])), (aT_heads, .inl (cI, nT_heads, .inl T_heads)), (aT_places, .inl (cI, nT_places, .inl T_places)), (aT_olders, .inl (cI, nT_olders, .inl T_olders)), (aT_sizes, .inl (cI, nT_sizes, .inl T_sizes)), (aT_withins, .inl (cJ, nT_withins, .inr (.inl T_withins))), (aT_newest, .inl (cI, 256, .inl T_newest))]
abbrev wv_90 (cI cJ cZ : ClassId) (aX aX_arities aT aT_heads aT_places aT_olders aT_sizes aT_withins aT_newest aS aS_premises aS_premiseCounts aS_conclusions aS_order aM aF aE aH aH_statementRow aH_firstRow aH_secondRow : Nat) (X_namesUsed : Int32) (T_count : Int32) (nT_withins : Nat) (T_withins : (Nat → Int64)) (S_count : Int32) (S_premises : (Nat → Int32)) (S_premiseCounts : (Nat → Int32)) (S_conclusions : (Nat → Int32)) (H_kind : Int32) (H_subject : Int32) (H_count : Int32) : va_W := [(aX, .inr (0, [.ref aT, .ref aX_arities, .int X_namesUsed, .ref aS, .ref aM, .ref aF, .ref aE, .ref aH])), (aT, .inr (1, [.ref aT_heads, .ref aT_places, .ref aT_olders, .ref aT_sizes, .ref aT_withins, .ref aT_newest, .int T_count])), (aT_withins, .inl (cJ, nT_withins, .inr (.inl T_withins))), (aS, .inr (2, [.ref aS_premises, .ref aS_premiseCounts, .ref aS_conclusions, .ref aS_order, .int S_count])), (aS_premises, .inl (cI, 120, .inl S_premises)), (aS_premiseCounts, .inl (cI, 30, .inl S_premiseCounts)), (aS_conclusions, .inl (cI, 30, .inl S_conclusions)), (aH, .inr (6, [.ref aH_statementRow, .ref aH_firstRow, .ref aH_secondRow, .int H_kind, .int H_subject, .int H_count]))]
abbrev wv_91 (cI cJ cZ : ClassId) (aX aX_arities aT aT_heads aT_places aT_olders aT_sizes aT_withins aT_newest aS aS_premises aS_premiseCounts aS_conclusions aS_order aM aM_images aM_path aF aF_seen aF_waiting aE aH aH_statementRow aH_firstRow aH_secondRow : Nat) (X_namesUsed : Int32) (T_count : Int32) (nT_heads : Nat) (T_heads : (Nat → Int32)) (nT_places : Nat) (T_places : (Nat → Int32)) (nT_withins : Nat) (T_withins : (Nat → Int64)) (S_count : Int32) (S_premises : (Nat → Int32)) (S_premiseCounts : (Nat → Int32)) (S_conclusions : (Nat → Int32)) (M_images : (Nat → Int32)) (F_shape : Int32) (F_match : Int32) (F_premise : Int32) (F_seen : (Nat → Int32)) (F_waiting : (Nat → Int32)) (H_kind : Int32) (H_subject : Int32) (H_count : Int32) (H_statementRow : (Nat → Int32)) (H_firstRow : (Nat → Int32)) (H_secondRow : (Nat → Int32)) : va_W := [(aX, .inr (0, [.ref aT, .ref aX_arities, .int X_namesUsed, .ref aS, .ref aM, .ref aF, .ref aE, .ref aH])), (aT, .inr (1, [.ref aT_heads, .ref aT_places, .ref aT_olders, .ref aT_sizes, .ref aT_withins, .ref aT_newest, .int T_count])), (aT_heads, .inl (cI, nT_heads, .inl T_heads)), (aT_places, .inl (cI, nT_places, .inl T_places)), (aT_withins, .inl (cJ, nT_withins, .inr (.inl T_withins))), (aS, .inr (2, [.ref aS_premises, .ref aS_premiseCounts, .ref aS_conclusions, .ref aS_order, .int S_count])), (aS_premises, .inl (cI, 120, .inl S_premises)), (aS_premiseCounts, .inl (cI, 30, .inl S_premiseCounts)), (aS_conclusions, .inl (cI, 30, .inl S_conclusions)), (aM, .inr (3, [.ref aT, .ref aM_images, .ref aM_path])), (aM_images, .inl (cI, 100, .inl M_images)), (aF, .inr (4, [.ref aT, .ref aM, .ref aF_seen, .ref aF_waiting, .int F_shape, .int F_match, .int F_premise])), (aF_seen, .inl (cZ, 100, .inl F_seen)), (aF_waiting, .inl (cI, 301, .inl F_waiting)), (aH, .inr (6, [.ref aH_statementRow, .ref aH_firstRow, .ref aH_secondRow, .int H_kind, .int H_subject, .int H_count])), (aH_statementRow, .inl (cI, 30, .inl H_statementRow)), (aH_firstRow, .inl (cI, 30, .inl H_firstRow)), (aH_secondRow, .inl (cI, 30, .inl H_secondRow))]
def f_X_name_B100 (nT_heads : Nat) (nT_places : Nat) (nT_olders : Nat) (nT_sizes : Nat) (nT_withins : Nat) (X_namesUsed_100 : Int32) (X_arities_100 : (Nat → Int32)) (T_count_100 : Int32) (T_heads_100 : (Nat → Int32)) (T_places_100 : (Nat → Int32)) (T_olders_100 : (Nat → Int32)) (T_sizes_100 : (Nat → Int32)) (T_withins_100 : (Nat → Int64)) (T_newest_100 : (Nat → Int32)) (x1_100 : Int32) (x2_100 : Int32) (x5_100 : Int32) (x6_100 : Int32) (s0_100 : Int32) : Option (Nat × Int32 × Int32 × (Nat → Int32) × Int32 × (Nat → Int32) × (Nat → Int32) × (Nat → Int32) × (Nat → Int32) × (Nat → Int64) × (Nat → Int32)) :=
  (f_T_make T_count_100 nT_heads T_heads_100 nT_places T_places_100 nT_olders T_olders_100 nT_sizes T_sizes_100 nT_withins T_withins_100 T_newest_100 x1_100 x2_100 x6_100 s0_100 (100 : Int32)).bind fun r16 =>
  if r16.1 = (-1 : Int32) then
    some (3, (0 : Int32), X_namesUsed_100, X_arities_100, r16.2.1, r16.2.2.1, r16.2.2.2.1, r16.2.2.2.2.1, r16.2.2.2.2.2.1, r16.2.2.2.2.2.2.1, r16.2.2.2.2.2.2.2)
  else
    gd (ixb x1_100 30) <|
    if (X_arities_100 x1_100.toNatClampNeg) = (-1 : Int32) then
      gd (ixb x1_100 30) <| nm (upd X_arities_100 x1_100.toNatClampNeg x5_100) fun g21 =>
      nm (X_namesUsed_100 + (1 : Int32)) fun x22 =>
      some (0, r16.1, x22, g21, r16.2.1, r16.2.2.1, r16.2.2.2.1, r16.2.2.2.2.1, r16.2.2.2.2.2.1, r16.2.2.2.2.2.2.1, r16.2.2.2.2.2.2.2)
    else
      some (0, r16.1, X_namesUsed_100, X_arities_100, r16.2.1, r16.2.2.1, r16.2.2.2.1, r16.2.2.2.2.1, r16.2.2.2.2.2.1, r16.2.2.2.2.2.2.1, r16.2.2.2.2.2.2.2)
def f_X_name_B86 (nT_heads : Nat) (nT_places : Nat) (nT_olders : Nat) (nT_sizes : Nat) (nT_withins : Nat) (X_namesUsed_86 : Int32) (X_arities_86 : (Nat → Int32)) (T_count_86 : Int32) (T_heads_86 : (Nat → Int32)) (T_places_86 : (Nat → Int32)) (T_olders_86 : (Nat → Int32)) (T_sizes_86 : (Nat → Int32)) (T_withins_86 : (Nat → Int64)) (T_newest_86 : (Nat → Int32)) (x1_86 : Int32) (x2_86 : Int32) (x4_86 : Int32) (x5_86 : Int32) (s0_86 : Int32) : Option (Nat × Int32 × Int32 × (Nat → Int32) × Int32 × (Nat → Int32) × (Nat → Int32) × (Nat → Int32) × (Nat → Int32) × (Nat → Int64) × (Nat → Int32)) :=
  if x5_86 ≤ (2 : Int32) then
    f_X_name_B100 nT_heads nT_places nT_olders nT_sizes nT_withins X_namesUsed_86 X_arities_86 T_count_86 T_heads_86 T_places_86 T_olders_86 T_sizes_86 T_withins_86 T_newest_86 x1_86 x2_86 x5_86 s0_86 (-1 : Int32)
  else
    f_X_name_B100 nT_heads nT_places nT_olders nT_sizes nT_withins X_namesUsed_86 X_arities_86 T_count_86 T_heads_86 T_places_86 T_olders_86 T_sizes_86 T_withins_86 T_newest_86 x1_86 x2_86 x5_86 s0_86 x4_86
def f_X_name_B75 (nT_heads : Nat) (nT_places : Nat) (nT_olders : Nat) (nT_sizes : Nat) (nT_withins : Nat) (X_namesUsed_75 : Int32) (X_arities_75 : (Nat → Int32)) (T_count_75 : Int32) (T_heads_75 : (Nat → Int32)) (T_places_75 : (Nat → Int32)) (T_olders_75 : (Nat → Int32)) (T_sizes_75 : (Nat → Int32)) (T_withins_75 : (Nat → Int64)) (T_newest_75 : (Nat → Int32)) (x1_75 : Int32) (x2_75 : Int32) (x3_75 : Int32) (x4_75 : Int32) (x5_75 : Int32) : Option (Nat × Int32 × Int32 × (Nat → Int32) × Int32 × (Nat → Int32) × (Nat → Int32) × (Nat → Int32) × (Nat → Int32) × (Nat → Int64) × (Nat → Int32)) :=
  if x5_75 ≤ (1 : Int32) then
    f_X_name_B86 nT_heads nT_places nT_olders nT_sizes nT_withins X_namesUsed_75 X_arities_75 T_count_75 T_heads_75 T_places_75 T_olders_75 T_sizes_75 T_withins_75 T_newest_75 x1_75 x2_75 x4_75 x5_75 (-1 : Int32)
  else
    f_X_name_B86 nT_heads nT_places nT_olders nT_sizes nT_withins X_namesUsed_75 X_arities_75 T_count_75 T_heads_75 T_places_75 T_olders_75 T_sizes_75 T_withins_75 T_newest_75 x1_75 x2_75 x4_75 x5_75 x3_75
def f_X_name (X_namesUsed : Int32) (X_arities : (Nat → Int32)) (T_count : Int32) (nT_heads : Nat) (T_heads : (Nat → Int32)) (nT_places : Nat) (T_places : (Nat → Int32)) (nT_olders : Nat) (T_olders : (Nat → Int32)) (nT_sizes : Nat) (T_sizes : (Nat → Int32)) (nT_withins : Nat) (T_withins : (Nat → Int64)) (T_newest : (Nat → Int32)) (p0 : Int32) (p1 : Int32) (p2 : Int32) (p3 : Int32) : Option (Nat × Int32 × Int32 × (Nat → Int32) × Int32 × (Nat → Int32) × (Nat → Int32) × (Nat → Int32) × (Nat → Int32) × (Nat → Int64) × (Nat → Int32)) :=
  (f_X_leading p1 p2 p3 (-1 : Int32)).bind fun r1 =>
  if p0 < 0 then
    some (1, (0 : Int32), X_namesUsed, X_arities, T_count, T_heads, T_places, T_olders, T_sizes, T_withins, T_newest)
  else
    if (30 : Int32) ≤ p0 then
      some (1, (0 : Int32), X_namesUsed, X_arities, T_count, T_heads, T_places, T_olders, T_sizes, T_withins, T_newest)
    else
      (f_X_areTerms T_count r1 p1 p2 p3 (-1 : Int32)).bind fun r6 =>
      if r6 = 0 then
        some (1, (0 : Int32), X_namesUsed, X_arities, T_count, T_heads, T_places, T_olders, T_sizes, T_withins, T_newest)
      else
        gd (ixb p0 30) <|
        if (X_arities p0.toNatClampNeg) = (-1 : Int32) then
          f_X_name_B75 nT_heads nT_places nT_olders nT_sizes nT_withins X_namesUsed X_arities T_count T_heads T_places T_olders T_sizes T_withins T_newest p0 p1 p2 p3 r1
        else
          gd (ixb p0 30) <|
          if (X_arities p0.toNatClampNeg) = r1 then
            f_X_name_B75 nT_heads nT_places nT_olders nT_sizes nT_withins X_namesUsed X_arities T_count T_heads T_places T_olders T_sizes T_withins T_newest p0 p1 p2 p3 r1
          else
            some (2, (0 : Int32), X_namesUsed, X_arities, T_count, T_heads, T_places, T_olders, T_sizes, T_withins, T_newest)
abbrev rm_X_name : Room := { frames := 6, cells := 1, slots := 6, locals := 90 }
set_option maxHeartbeats 4000000 in
set_option maxRecDepth 100000 in
theorem c_X_name (l : Launch) (D : va_G) (cI cJ cZ : ClassId) (aX aX_arities aT aT_heads aT_places aT_olders aT_sizes aT_withins aT_newest aS aM aF aE aH : Nat) (sz : Nat) (X_namesUsed : Int32) (X_arities : (Nat → Int32)) (T_count : Int32) (nT_heads : Nat) (T_heads : (Nat → Int32)) (nT_places : Nat) (T_places : (Nat → Int32)) (nT_olders : Nat) (T_olders : (Nat → Int32)) (nT_sizes : Nat) (T_sizes : (Nat → Int32)) (nT_withins : Nat) (T_withins : (Nat → Int64)) (T_newest : (Nat → Int32)) (p0 : Int32) (p1 : Int32) (p2 : Int32) (p3 : Int32) (aK : Nat) (cK : Cell) (hst : l.stackTraces = false) (o : Nat × Int32 × Int32 × (Nat → Int32) × Int32 × (Nat → Int32) × (Nat → Int32) × (Nat → Int32) × (Nat → Int32) × (Nat → Int64) × (Nat → Int32)) (hf : f_X_name X_namesUsed X_arities T_count nT_heads T_heads nT_places T_places nT_olders T_olders nT_sizes T_sizes nT_withins T_withins T_newest p0 p1 p2 p3 = some o) : XMet l y_X_name (ws_X_name) rm_X_name (XPc D vwCl cI cJ cZ aK cK [.ref aX, .int p0, .int p1, .int p2, .int p3] (wv_89 cI cJ cZ aX aX_arities aT aT_heads aT_places aT_olders aT_sizes aT_withins aT_newest aS aM aF aE aH X_namesUsed X_arities T_count nT_heads T_heads nT_places T_places nT_olders T_olders nT_sizes T_sizes nT_withins T_withins T_newest) sz) (QN D vwCl o.1 (some (.int o.2.1)) (fun as => (wv_89 cI cJ cZ aX aX_arities aT aT_heads aT_places aT_olders aT_sizes aT_withins aT_newest aS aM aF aE aH o.2.2.1 o.2.2.2.1 o.2.2.2.2.1 nT_heads o.2.2.2.2.2.1 nT_places o.2.2.2.2.2.2.1 nT_olders o.2.2.2.2.2.2.2.1 nT_sizes o.2.2.2.2.2.2.2.2.1 nT_withins o.2.2.2.2.2.2.2.2.2.1 o.2.2.2.2.2.2.2.2.2.2)) (va_A (wv_89 cI cJ cZ aX aX_arities aT aT_heads aT_places aT_olders aT_sizes aT_withins aT_newest aS aM aF aE aH X_namesUsed X_arities T_count nT_heads T_heads nT_places T_places nT_olders T_olders nT_sizes T_sizes nT_withins T_withins T_newest) sz)) (QT D vwCl o.1 (fun as => (wv_89 cI cJ cZ aX aX_arities aT aT_heads aT_places aT_olders aT_sizes aT_withins aT_newest aS aM aF aE aH o.2.2.1 o.2.2.2.1 o.2.2.2.2.1 nT_heads o.2.2.2.2.2.1 nT_places o.2.2.2.2.2.2.1 nT_olders o.2.2.2.2.2.2.2.1 nT_sizes o.2.2.2.2.2.2.2.2.1 nT_withins o.2.2.2.2.2.2.2.2.2.1 o.2.2.2.2.2.2.2.2.2.2)) (va_A (wv_89 cI cJ cZ aX aX_arities aT aT_heads aT_places aT_olders aT_sizes aT_withins aT_newest aS aM aF aE aH X_namesUsed X_arities T_count nT_heads T_heads nT_places T_places nT_olders T_olders nT_sizes T_sizes nT_withins T_withins T_newest) sz)) 1 6 (va_A (wv_89 cI cJ cZ aX aX_arities aT aT_heads aT_places aT_olders aT_sizes aT_withins aT_newest aS aM aF aE aH X_namesUsed X_arities T_count nT_heads T_heads nT_places T_places nT_olders T_olders nT_sizes T_sizes nT_withins T_withins T_newest) sz) := by
  refine XMet.ofW (cc := b_X_name) (maxL := 9) (ret := (some .int)) (by decide) rfl ?_
  intro p e s m args below meth c s₁ B hml hno hv
  obtain ⟨rfl, rfl, hP, hK, hD0, ⟨hcS0, hE, hSR⟩, hnA⟩ := hv
  have hx := B.exec
  have hb := B.bytes
  have hr := B.returns
  have hts : ∀ w ∈ BG, w.before _ s = true := fun w h => atoms_spec (ws := (ws_X_name)) B.pre w (List.mem_cons_of_mem _ h)
  have hown : s.vm.findClass RR_X = some m.cls := findClass_of_methodNamed B.named
  have hlocks := B.notSynchronized
  have hD := hD0.self (sz := s.heap.size)
  have hA : ∀ q : Nat, s.heap.size ≤ q → va_A (wv_89 cI cJ cZ aX aX_arities aT aT_heads aT_places aT_olders aT_sizes aT_withins aT_newest aS aM aF aE aH X_namesUsed X_arities T_count nT_heads T_heads nT_places T_places nT_olders T_olders nT_sizes T_sizes nT_withins T_withins T_newest) s.heap.size q := fun q h => Or.inr h
  have hS : va_S (va_A (wv_89 cI cJ cZ aX aX_arities aT aT_heads aT_places aT_olders aT_sizes aT_withins aT_newest aS aM aF aE aH X_namesUsed X_arities T_count nT_heads T_heads nT_places T_places nT_olders T_olders nT_sizes T_sizes nT_withins T_withins T_newest) s.heap.size) s.heap s.heap [] := va_S.rf
  generalize va_A (wv_89 cI cJ cZ aX aX_arities aT aT_heads aT_places aT_olders aT_sizes aT_withins aT_newest aS aM aF aE aH X_namesUsed X_arities T_count nT_heads T_heads nT_places T_places nT_olders T_olders nT_sizes T_sizes nT_withins T_withins T_newest) s.heap.size = A at hD hA hS hnA ⊢
  have hl := lv_entry ([.ref aX, .int p0, .int p1, .int p2, .int p3]) (n := 9) (Nat.le_of_ble_eq_true rfl)
  rw [lg_entry_eq]
  generalize (lg_sl ([.ref aX, .int p0, .int p1, .int p2, .int p3]) ++ List.replicate (9 - (lg_sl ([.ref aX, .int p0, .int p1, .int p2, .int p3])).length) Slot.unset).toArray = ls at hl ⊢
  have hl : lv_has ls 9 [(0, .ref aX), (1, .int p0), (2, .int p1), (3, .int p2), (4, .int p3)] := hl
  have hB100 : ∀ (X_namesUsed_100 : Int32) (X_arities_100 : (Nat → Int32)) (T_count_100 : Int32) (T_heads_100 : (Nat → Int32)) (T_places_100 : (Nat → Int32)) (T_olders_100 : (Nat → Int32)) (T_sizes_100 : (Nat → Int32)) (T_withins_100 : (Nat → Int64)) (T_newest_100 : (Nat → Int32)) (x1_100 : Int32) (x2_100 : Int32) (x5_100 : Int32) (x6_100 : Int32) (s0_100 : Int32), ∀ (H : Heap) (locs : List Loc), va_P D vwCl (wv_89 cI cJ cZ aX aX_arities aT aT_heads aT_places aT_olders aT_sizes aT_withins aT_newest aS aM aF aE aH X_namesUsed_100 X_arities_100 T_count_100 nT_heads T_heads_100 nT_places T_places_100 nT_olders T_olders_100 nT_sizes T_sizes_100 nT_withins T_withins_100 T_newest_100) H → va_D A (wv_89 cI cJ cZ aX aX_arities aT aT_heads aT_places aT_olders aT_sizes aT_withins aT_newest aS aM aF aE aH X_namesUsed_100 X_arities_100 T_count_100 nT_heads T_heads_100 nT_places T_places_100 nT_olders T_olders_100 nT_sizes T_sizes_100 nT_withins T_withins_100 T_newest_100) → va_S A s.heap H locs → ∀ (ls : Array Slot), lv_has ls 9 [(0, .ref aX), (1, .int x1_100), (2, .int x2_100), (5, .int x5_100), (6, .int x6_100)] → f_X_name_B100 nT_heads nT_places nT_olders nT_sizes nT_withins X_namesUsed_100 X_arities_100 T_count_100 T_heads_100 T_places_100 T_olders_100 T_sizes_100 T_withins_100 T_newest_100 x1_100 x2_100 x5_100 x6_100 s0_100 = some o → W p l e (headSpec (ws_X_name) rm_X_name).room s m ([.ref aX, .int p0, .int p1, .int p2, .int p3] : List Value).toArray below meth c H locs 0 0 (XM below (QN D vwCl o.1 (some (.int o.2.1)) (fun as => (wv_89 cI cJ cZ aX aX_arities aT aT_heads aT_places aT_olders aT_sizes aT_withins aT_newest aS aM aF aE aH o.2.2.1 o.2.2.2.1 o.2.2.2.2.1 nT_heads o.2.2.2.2.2.1 nT_places o.2.2.2.2.2.2.1 nT_olders o.2.2.2.2.2.2.2.1 nT_sizes o.2.2.2.2.2.2.2.2.1 nT_withins o.2.2.2.2.2.2.2.2.2.1 o.2.2.2.2.2.2.2.2.2.2)) A) (QT D vwCl o.1 (fun as => (wv_89 cI cJ cZ aX aX_arities aT aT_heads aT_places aT_olders aT_sizes aT_withins aT_newest aS aM aF aE aH o.2.2.1 o.2.2.2.1 o.2.2.2.2.1 nT_heads o.2.2.2.2.2.1 nT_places o.2.2.2.2.2.2.1 nT_olders o.2.2.2.2.2.2.2.1 nT_sizes o.2.2.2.2.2.2.2.2.1 nT_withins o.2.2.2.2.2.2.2.2.2.1 o.2.2.2.2.2.2.2.2.2.2)) A) ([.ref aX, .int p0, .int p1, .int p2, .int p3] : List Value).toArray s 1 6 A) (F0 m 100 ls [.int s0_100]) := by
    intro X_namesUsed_100 X_arities_100 T_count_100 T_heads_100 T_places_100 T_olders_100 T_sizes_100 T_withins_100 T_newest_100 x1_100 x2_100 x5_100 x6_100 s0_100 H locs hP hD hS ls hl hf
    rw [f_X_name_B100] at hf
    refine lv_istore (lv' := [(7, .int s0_100), (0, .ref aX), (1, .int x1_100), (2, .int x2_100), (5, .int x5_100), (6, .int x6_100)]) hx hb d_X_name_100 hl (by decide) rfl (fun ls hl => ?_)
    refine lv_aload_n hx hb d_X_name_102 rfl (lv_at hl 1 rfl) ?_
    refine va_get (D := D) (ci := 0) (v := .ref aT) (C := RR_X) (T := FF_X) (N := 8) hx hb hts kin_X hown hK.1 hP 0 rfl rfl 0 (by decide) (hts _ k1_203) (fun _ h9 => h9) rfl d_X_name_103 ?_
    refine lv_iload_n hx hb d_X_name_106 rfl (lv_at hl 2 rfl) ?_
    refine lv_iload_n hx hb d_X_name_107 rfl (lv_at hl 3 rfl) ?_
    refine lv_iload hx hb d_X_name_108 (lv_at hl 5 rfl) ?_
    refine lv_iload hx hb d_X_name_110 (lv_at hl 0 rfl) ?_
    refine lv_bipush (v := 100) hx hb d_X_name_112 (by decide) ?_
    obtain ⟨r16, hr16, hf⟩ := of_bd hf
    refine wr_call (ws' := (wv_89 cI cJ cZ aX aX_arities aT aT_heads aT_places aT_olders aT_sizes aT_withins aT_newest aS aM aF aE aH X_namesUsed_100 X_arities_100 r16.2.1 nT_heads r16.2.2.1 nT_places r16.2.2.2.1 nT_olders r16.2.2.2.2.1 nT_sizes r16.2.2.2.2.2.1 nT_withins r16.2.2.2.2.2.2.1 r16.2.2.2.2.2.2.2)) (va_runV (As := [.int x1_100, .int x2_100, .int x6_100, .int s0_100, .int (100 : Int32)]) (rest := []) ⟨hx, hb, hml, hown, hts⟩ (c_T_make l D cI cJ cZ aT aT_heads aT_places aT_olders aT_sizes aT_withins aT_newest _ T_count_100 nT_heads T_heads_100 nT_places T_places_100 nT_olders T_olders_100 nT_sizes T_sizes_100 nT_withins T_withins_100 T_newest_100 x1_100 x2_100 x6_100 s0_100 (100 : Int32) r16 hr16) (bigV 5 hts k2_239 k3_0 k3_1 k1_2 k3_2 rfl rfl hd_T_make ⟨Nat.le_of_ble_eq_true rfl, Nat.le_of_ble_eq_true rfl⟩) (wr_preV hK hP hD [2, 3, 4, 5, 6, 7, 8] rfl (by decide) rfl 2 rfl rfl rfl) rfl rfl hl.1 rfl (lv_room (Nat.le_of_ble_eq_true rfl)) d_X_name_114 ⟨Nat.le_of_ble_eq_true rfl, Nat.le_of_ble_eq_true rfl⟩) hP hD hS hA [2, 3, 4, 5, 6, 7, 8] [0, 1] rfl rfl (by decide) (by decide) [0, 1, 2, 3, 4, 5, 6, 7, 8] (by decide) rfl (fun H locs hP hD hS => ?_)
    refine lv_istore (lv' := [(8, .int r16.1), (7, .int s0_100), (0, .ref aX), (1, .int x1_100), (2, .int x2_100), (5, .int x5_100), (6, .int x6_100)]) hx hb d_X_name_117 hl (by decide) rfl (fun ls hl => ?_)
    refine lv_iload hx hb d_X_name_119 (lv_at hl 0 rfl) ?_
    refine lv_iconst (v := -1) hx hb d_X_name_121 (by decide) ?_
    refine lv_icmp_ne (tgt := 135) hx hb d_X_name_122 (by decide) (fun c17 => ?_) (fun c17 => ?_)
    · have hf := ite_f c17 hf
      refine lv_aload_n hx hb d_X_name_135 rfl (lv_at hl 2 rfl) ?_
      refine va_get (D := D) (ci := 0) (v := .ref aX_arities) (C := RR_X) (T := FF_X) (N := 8) hx hb hts kin_X hown hK.1 hP 0 rfl rfl 1 (by decide) (hts _ k1_204) (fun _ h9 => h9) rfl d_X_name_136 ?_
      refine lv_iload_n hx hb d_X_name_139 rfl (lv_at hl 3 rfl) ?_
      obtain ⟨h18, hf⟩ := of_gd hf
      refine va_iald hx hb hK.1 hP 1 0 rfl rfl (ixb_in h18) d_X_name_140 ?_
      refine lv_iconst (v := -1) hx hb d_X_name_141 (by decide) ?_
      refine lv_icmp_ne (tgt := 163) hx hb d_X_name_142 (by decide) (fun c19 => ?_) (fun c19 => ?_)
      · have hf := ite_f c19 hf
        refine lv_iload hx hb d_X_name_163 (lv_at hl 0 rfl) ?_
        obtain rfl := Option.some.inj hf
        refine W.widen (k := 1) (n := 6) (by omega) (by omega) (xm_ret ?_)
        exact W.iret (v := r16.1) hx hb hr (fun t ht hW => ⟨_, rfl, rfl, rfl, fun _ => 0, by rw [ht]; exact hP, hD, hS.F ht⟩) hS.2.2 d_X_name_165
      · have hf := ite_t c19 hf
        refine lv_aload_n hx hb d_X_name_145 rfl (lv_at hl 2 rfl) ?_
        refine va_get (D := D) (ci := 0) (v := .ref aX_arities) (C := RR_X) (T := FF_X) (N := 8) hx hb hts kin_X hown hK.1 hP 0 rfl rfl 1 (by decide) (hts _ k1_204) (fun _ h9 => h9) rfl d_X_name_146 ?_
        refine lv_iload_n hx hb d_X_name_149 rfl (lv_at hl 3 rfl) ?_
        refine lv_iload hx hb d_X_name_150 (lv_at hl 5 rfl) ?_
        obtain ⟨h20, hf⟩ := of_gd hf
        obtain ⟨g21, eg21⟩ : ∃ y : Nat → Int32, y = upd X_arities_100 x1_100.toNatClampNeg x5_100 := ⟨_, rfl⟩
        have hf := of_nm eg21 hf
        refine va_iast hx hb hK.1 hP hD hS 1 0 rfl rfl (ixb_in h20) d_X_name_152 (fun H locs hP hD hS => ?_)
        rw [← eg21] at hP hD
        have hP : va_P D vwCl (wv_89 cI cJ cZ aX aX_arities aT aT_heads aT_places aT_olders aT_sizes aT_withins aT_newest aS aM aF aE aH X_namesUsed_100 g21 r16.2.1 nT_heads r16.2.2.1 nT_places r16.2.2.2.1 nT_olders r16.2.2.2.2.1 nT_sizes r16.2.2.2.2.2.1 nT_withins r16.2.2.2.2.2.2.1 r16.2.2.2.2.2.2.2) H := hP
        have hD : va_D A (wv_89 cI cJ cZ aX aX_arities aT aT_heads aT_places aT_olders aT_sizes aT_withins aT_newest aS aM aF aE aH X_namesUsed_100 g21 r16.2.1 nT_heads r16.2.2.1 nT_places r16.2.2.2.1 nT_olders r16.2.2.2.2.1 nT_sizes r16.2.2.2.2.2.1 nT_withins r16.2.2.2.2.2.2.1 r16.2.2.2.2.2.2.2) := hD
        refine lv_aload_n hx hb d_X_name_153 rfl (lv_at hl 2 rfl) ?_
        refine lv_dup hx hb d_X_name_154 rfl ?_
        refine va_get (D := D) (ci := 0) (v := .int X_namesUsed_100) (C := RR_X) (T := FF_X) (N := 8) hx hb hts kin_X hown hK.1 hP 0 rfl rfl 2 (by decide) (hts _ k1_205) (fun _ h9 => h9) rfl d_X_name_155 ?_
        refine lv_iconst (v := 1) hx hb d_X_name_158 (by decide) ?_
        refine lv_iadd hx hb d_X_name_159 ?_
        refine lv_topi (fun x22 ex22 => ?_)
        have hf := of_nm ex22 hf
        refine va_put (D := D) (ci := 0) (v := .int x22) (ty := .int) (C := RR_X) (T := FF_X) (N := 8) hx hb hts kin_X TT_X tok_X nok_X hown hK.1 hP hD hS 0 rfl rfl 2 (by decide) (hts _ k1_205) (fun _ h9 => h9) rfl (by decide +kernel) rfl rfl (Nat.le_of_ble_eq_true rfl) d_X_name_160 (fun H locs hP hD hS => ?_)
        have hP : va_P D vwCl (wv_89 cI cJ cZ aX aX_arities aT aT_heads aT_places aT_olders aT_sizes aT_withins aT_newest aS aM aF aE aH x22 g21 r16.2.1 nT_heads r16.2.2.1 nT_places r16.2.2.2.1 nT_olders r16.2.2.2.2.1 nT_sizes r16.2.2.2.2.2.1 nT_withins r16.2.2.2.2.2.2.1 r16.2.2.2.2.2.2.2) H := hP
        have hD : va_D A (wv_89 cI cJ cZ aX aX_arities aT aT_heads aT_places aT_olders aT_sizes aT_withins aT_newest aS aM aF aE aH x22 g21 r16.2.1 nT_heads r16.2.2.1 nT_places r16.2.2.2.1 nT_olders r16.2.2.2.2.1 nT_sizes r16.2.2.2.2.2.1 nT_withins r16.2.2.2.2.2.2.1 r16.2.2.2.2.2.2.2) := hD
        refine lv_iload hx hb d_X_name_163 (lv_at hl 0 rfl) ?_
        obtain rfl := Option.some.inj hf
        refine W.widen (k := 1) (n := 6) (by omega) (by omega) (xm_ret ?_)
        exact W.iret (v := r16.1) hx hb hr (fun t ht hW => ⟨_, rfl, rfl, rfl, fun _ => 0, by rw [ht]; exact hP, hD, hS.F ht⟩) hS.2.2 d_X_name_165
    · have hf := ite_t c17 hf
      obtain rfl := Option.some.inj hf
      obtain ⟨sa23, hsa23⟩ := hSR (97, "there are 100 terms") (by decide)
      exact xthrow hx hb hst (names := ["java/lang/RuntimeException", "java/lang/Exception"]) hown (by decide) (by decide) hts k3_12 k1_16 k3_13 at_3 hsa23 hE (keepS hS hcS0 hnA) (hl.1.trans hml.symm) d_X_name_125 d_X_name_128 (Or.inl ⟨d_X_name_129, rfl⟩) d_X_name_131 d_X_name_134 hno (Nat.le_of_ble_eq_true rfl) (Nat.le_of_ble_eq_true rfl) (Nat.le_of_ble_eq_true rfl) (Nat.le_of_ble_eq_true rfl) hlocks (fun t h1 h2 => qt_of (Nat.succ_ne_zero 2) rfl (fun _ => 0) hP hD hS h1 h2) hS.2.2 (Nat.le_of_ble_eq_true rfl) (Nat.le_of_ble_eq_true rfl)
  have hB86 : ∀ (X_namesUsed_86 : Int32) (X_arities_86 : (Nat → Int32)) (T_count_86 : Int32) (T_heads_86 : (Nat → Int32)) (T_places_86 : (Nat → Int32)) (T_olders_86 : (Nat → Int32)) (T_sizes_86 : (Nat → Int32)) (T_withins_86 : (Nat → Int64)) (T_newest_86 : (Nat → Int32)) (x1_86 : Int32) (x2_86 : Int32) (x4_86 : Int32) (x5_86 : Int32) (s0_86 : Int32), ∀ (H : Heap) (locs : List Loc), va_P D vwCl (wv_89 cI cJ cZ aX aX_arities aT aT_heads aT_places aT_olders aT_sizes aT_withins aT_newest aS aM aF aE aH X_namesUsed_86 X_arities_86 T_count_86 nT_heads T_heads_86 nT_places T_places_86 nT_olders T_olders_86 nT_sizes T_sizes_86 nT_withins T_withins_86 T_newest_86) H → va_D A (wv_89 cI cJ cZ aX aX_arities aT aT_heads aT_places aT_olders aT_sizes aT_withins aT_newest aS aM aF aE aH X_namesUsed_86 X_arities_86 T_count_86 nT_heads T_heads_86 nT_places T_places_86 nT_olders T_olders_86 nT_sizes T_sizes_86 nT_withins T_withins_86 T_newest_86) → va_S A s.heap H locs → ∀ (ls : Array Slot), lv_has ls 9 [(0, .ref aX), (1, .int x1_86), (2, .int x2_86), (4, .int x4_86), (5, .int x5_86)] → f_X_name_B86 nT_heads nT_places nT_olders nT_sizes nT_withins X_namesUsed_86 X_arities_86 T_count_86 T_heads_86 T_places_86 T_olders_86 T_sizes_86 T_withins_86 T_newest_86 x1_86 x2_86 x4_86 x5_86 s0_86 = some o → W p l e (headSpec (ws_X_name) rm_X_name).room s m ([.ref aX, .int p0, .int p1, .int p2, .int p3] : List Value).toArray below meth c H locs 0 0 (XM below (QN D vwCl o.1 (some (.int o.2.1)) (fun as => (wv_89 cI cJ cZ aX aX_arities aT aT_heads aT_places aT_olders aT_sizes aT_withins aT_newest aS aM aF aE aH o.2.2.1 o.2.2.2.1 o.2.2.2.2.1 nT_heads o.2.2.2.2.2.1 nT_places o.2.2.2.2.2.2.1 nT_olders o.2.2.2.2.2.2.2.1 nT_sizes o.2.2.2.2.2.2.2.2.1 nT_withins o.2.2.2.2.2.2.2.2.2.1 o.2.2.2.2.2.2.2.2.2.2)) A) (QT D vwCl o.1 (fun as => (wv_89 cI cJ cZ aX aX_arities aT aT_heads aT_places aT_olders aT_sizes aT_withins aT_newest aS aM aF aE aH o.2.2.1 o.2.2.2.1 o.2.2.2.2.1 nT_heads o.2.2.2.2.2.1 nT_places o.2.2.2.2.2.2.1 nT_olders o.2.2.2.2.2.2.2.1 nT_sizes o.2.2.2.2.2.2.2.2.1 nT_withins o.2.2.2.2.2.2.2.2.2.1 o.2.2.2.2.2.2.2.2.2.2)) A) ([.ref aX, .int p0, .int p1, .int p2, .int p3] : List Value).toArray s 1 6 A) (F0 m 86 ls [.int s0_86]) := by
    intro X_namesUsed_86 X_arities_86 T_count_86 T_heads_86 T_places_86 T_olders_86 T_sizes_86 T_withins_86 T_newest_86 x1_86 x2_86 x4_86 x5_86 s0_86 H locs hP hD hS ls hl hf
    rw [f_X_name_B86] at hf
    refine lv_istore (lv' := [(6, .int s0_86), (0, .ref aX), (1, .int x1_86), (2, .int x2_86), (4, .int x4_86), (5, .int x5_86)]) hx hb d_X_name_86 hl (by decide) rfl (fun ls hl => ?_)
    refine lv_iload hx hb d_X_name_88 (lv_at hl 5 rfl) ?_
    refine lv_iconst (v := 2) hx hb d_X_name_90 (by decide) ?_
    refine lv_icmp_le (tgt := 99) hx hb d_X_name_91 (by decide) (fun c15 => ?_) (fun c15 => ?_)
    · have hf := ite_t c15 hf
      refine lv_iconst (v := -1) hx hb d_X_name_99 (by decide) ?_
      exact hB100 _ _ _ _ _ _ _ _ _ _ _ _ _ _ _ _ hP hD hS _ (lv_sub hl [1, 2, 3, 5, 0] rfl) hf
    · have hf := ite_f c15 hf
      refine lv_iload hx hb d_X_name_94 (lv_at hl 4 rfl) ?_
      refine lv_goto (tgt := 100) hx hb d_X_name_96 (by decide) ?_
      exact hB100 _ _ _ _ _ _ _ _ _ _ _ _ _ _ _ _ hP hD hS _ (lv_sub hl [1, 2, 3, 5, 0] rfl) hf
  have hB75 : ∀ (X_namesUsed_75 : Int32) (X_arities_75 : (Nat → Int32)) (T_count_75 : Int32) (T_heads_75 : (Nat → Int32)) (T_places_75 : (Nat → Int32)) (T_olders_75 : (Nat → Int32)) (T_sizes_75 : (Nat → Int32)) (T_withins_75 : (Nat → Int64)) (T_newest_75 : (Nat → Int32)) (x1_75 : Int32) (x2_75 : Int32) (x3_75 : Int32) (x4_75 : Int32) (x5_75 : Int32), ∀ (H : Heap) (locs : List Loc), va_P D vwCl (wv_89 cI cJ cZ aX aX_arities aT aT_heads aT_places aT_olders aT_sizes aT_withins aT_newest aS aM aF aE aH X_namesUsed_75 X_arities_75 T_count_75 nT_heads T_heads_75 nT_places T_places_75 nT_olders T_olders_75 nT_sizes T_sizes_75 nT_withins T_withins_75 T_newest_75) H → va_D A (wv_89 cI cJ cZ aX aX_arities aT aT_heads aT_places aT_olders aT_sizes aT_withins aT_newest aS aM aF aE aH X_namesUsed_75 X_arities_75 T_count_75 nT_heads T_heads_75 nT_places T_places_75 nT_olders T_olders_75 nT_sizes T_sizes_75 nT_withins T_withins_75 T_newest_75) → va_S A s.heap H locs → ∀ (ls : Array Slot), lv_has ls 9 [(0, .ref aX), (1, .int x1_75), (2, .int x2_75), (3, .int x3_75), (4, .int x4_75), (5, .int x5_75)] → f_X_name_B75 nT_heads nT_places nT_olders nT_sizes nT_withins X_namesUsed_75 X_arities_75 T_count_75 T_heads_75 T_places_75 T_olders_75 T_sizes_75 T_withins_75 T_newest_75 x1_75 x2_75 x3_75 x4_75 x5_75 = some o → W p l e (headSpec (ws_X_name) rm_X_name).room s m ([.ref aX, .int p0, .int p1, .int p2, .int p3] : List Value).toArray below meth c H locs 0 0 (XM below (QN D vwCl o.1 (some (.int o.2.1)) (fun as => (wv_89 cI cJ cZ aX aX_arities aT aT_heads aT_places aT_olders aT_sizes aT_withins aT_newest aS aM aF aE aH o.2.2.1 o.2.2.2.1 o.2.2.2.2.1 nT_heads o.2.2.2.2.2.1 nT_places o.2.2.2.2.2.2.1 nT_olders o.2.2.2.2.2.2.2.1 nT_sizes o.2.2.2.2.2.2.2.2.1 nT_withins o.2.2.2.2.2.2.2.2.2.1 o.2.2.2.2.2.2.2.2.2.2)) A) (QT D vwCl o.1 (fun as => (wv_89 cI cJ cZ aX aX_arities aT aT_heads aT_places aT_olders aT_sizes aT_withins aT_newest aS aM aF aE aH o.2.2.1 o.2.2.2.1 o.2.2.2.2.1 nT_heads o.2.2.2.2.2.1 nT_places o.2.2.2.2.2.2.1 nT_olders o.2.2.2.2.2.2.2.1 nT_sizes o.2.2.2.2.2.2.2.2.1 nT_withins o.2.2.2.2.2.2.2.2.2.1 o.2.2.2.2.2.2.2.2.2.2)) A) ([.ref aX, .int p0, .int p1, .int p2, .int p3] : List Value).toArray s 1 6 A) (F0 m 75 ls []) := by
    intro X_namesUsed_75 X_arities_75 T_count_75 T_heads_75 T_places_75 T_olders_75 T_sizes_75 T_withins_75 T_newest_75 x1_75 x2_75 x3_75 x4_75 x5_75 H locs hP hD hS ls hl hf
    rw [f_X_name_B75] at hf
    refine lv_iload hx hb d_X_name_75 (lv_at hl 5 rfl) ?_
    refine lv_iconst (v := 1) hx hb d_X_name_77 (by decide) ?_
    refine lv_icmp_le (tgt := 85) hx hb d_X_name_78 (by decide) (fun c14 => ?_) (fun c14 => ?_)
    · have hf := ite_t c14 hf
      refine lv_iconst (v := -1) hx hb d_X_name_85 (by decide) ?_
      exact hB86 _ _ _ _ _ _ _ _ _ _ _ _ _ _ _ _ hP hD hS _ (lv_sub hl [0, 1, 2, 4, 5] rfl) hf
    · have hf := ite_f c14 hf
      refine lv_iload_n hx hb d_X_name_81 rfl (lv_at hl 3 rfl) ?_
      refine lv_goto (tgt := 86) hx hb d_X_name_82 (by decide) ?_
      exact hB86 _ _ _ _ _ _ _ _ _ _ _ _ _ _ _ _ hP hD hS _ (lv_sub hl [0, 1, 2, 4, 5] rfl) hf
  rw [f_X_name] at hf
  refine lv_iload_n hx hb d_X_name_0 rfl (lv_at hl 2 rfl) ?_
  refine lv_iload_n hx hb d_X_name_1 rfl (lv_at hl 3 rfl) ?_
  refine lv_iload hx hb d_X_name_2 (lv_at hl 4 rfl) ?_
  refine lv_iconst (v := -1) hx hb d_X_name_4 (by decide) ?_
  obtain ⟨r1, hr1, hf⟩ := of_bd hf
  refine rd_call (va_runS (As := [.int p1, .int p2, .int p3, .int (-1 : Int32)]) (rest := []) ⟨hx, hb, hml, hown, hts⟩ (c_X_leading l D cI cJ cZ p1 p2 p3 (-1 : Int32) r1 hr1) (bigS 4 hts k2_147 k2_148 k1_1 k2_149 rfl rfl hd_X_leading ⟨Nat.le_of_ble_eq_true rfl, Nat.le_of_ble_eq_true rfl⟩) (rd_preS hK hP [] rfl) rfl rfl hl.1 rfl (lv_room (Nat.le_of_ble_eq_true rfl)) d_X_name_5 ⟨Nat.le_of_ble_eq_true rfl, Nat.le_of_ble_eq_true rfl⟩) ?_
  refine lv_istore (lv' := [(5, .int r1), (0, .ref aX), (1, .int p0), (2, .int p1), (3, .int p2), (4, .int p3)]) hx hb d_X_name_8 hl (by decide) rfl (fun ls hl => ?_)
  refine lv_iload_n hx hb d_X_name_10 rfl (lv_at hl 2 rfl) ?_
  refine lv_if_lt (tgt := 34) hx hb d_X_name_11 (by decide) (fun c2 => ?_) (fun c2 => ?_)
  · have hf := ite_t c2 hf
    obtain rfl := Option.some.inj hf
    obtain ⟨sa3, hsa3⟩ := hSR (81, "no such name or term") (by decide)
    exact xthrow hx hb hst (names := ["java/lang/RuntimeException", "java/lang/Exception"]) hown (by decide) (by decide) hts k2_154 k1_13 k2_155 at_1 hsa3 hE (keepS hS hcS0 hnA) (hl.1.trans hml.symm) d_X_name_34 d_X_name_37 (Or.inl ⟨d_X_name_38, rfl⟩) d_X_name_40 d_X_name_43 hno (Nat.le_of_ble_eq_true rfl) (Nat.le_of_ble_eq_true rfl) (Nat.le_of_ble_eq_true rfl) (Nat.le_of_ble_eq_true rfl) hlocks (fun t h1 h2 => qt_of (Nat.succ_ne_zero 0) rfl (fun _ => 0) hP hD hS h1 h2) hS.2.2 (Nat.le_of_ble_eq_true rfl) (Nat.le_of_ble_eq_true rfl)
  · have hf := ite_f c2 hf
    refine lv_iload_n hx hb d_X_name_14 rfl (lv_at hl 2 rfl) ?_
    refine lv_bipush (v := 30) hx hb d_X_name_15 (by decide) ?_
    refine lv_icmp_ge (tgt := 34) hx hb d_X_name_17 (by decide) (fun c4 => ?_) (fun c4 => ?_)
    · have hf := ite_t c4 hf
      obtain rfl := Option.some.inj hf
      obtain ⟨sa5, hsa5⟩ := hSR (81, "no such name or term") (by decide)
      exact xthrow hx hb hst (names := ["java/lang/RuntimeException", "java/lang/Exception"]) hown (by decide) (by decide) hts k2_154 k1_13 k2_155 at_1 hsa5 hE (keepS hS hcS0 hnA) (hl.1.trans hml.symm) d_X_name_34 d_X_name_37 (Or.inl ⟨d_X_name_38, rfl⟩) d_X_name_40 d_X_name_43 hno (Nat.le_of_ble_eq_true rfl) (Nat.le_of_ble_eq_true rfl) (Nat.le_of_ble_eq_true rfl) (Nat.le_of_ble_eq_true rfl) hlocks (fun t h1 h2 => qt_of (Nat.succ_ne_zero 0) rfl (fun _ => 0) hP hD hS h1 h2) hS.2.2 (Nat.le_of_ble_eq_true rfl) (Nat.le_of_ble_eq_true rfl)
    · have hf := ite_f c4 hf
      refine lv_aload_n hx hb d_X_name_20 rfl (lv_at hl 1 rfl) ?_
      refine lv_iload hx hb d_X_name_21 (lv_at hl 0 rfl) ?_
      refine lv_iload_n hx hb d_X_name_23 rfl (lv_at hl 3 rfl) ?_
      refine lv_iload_n hx hb d_X_name_24 rfl (lv_at hl 4 rfl) ?_
      refine lv_iload hx hb d_X_name_25 (lv_at hl 5 rfl) ?_
      refine lv_iconst (v := -1) hx hb d_X_name_27 (by decide) ?_
      obtain ⟨r6, hr6, hf⟩ := of_bd hf
      refine rd_call (va_runV (As := [.int r1, .int p1, .int p2, .int p3, .int (-1 : Int32)]) (rest := []) ⟨hx, hb, hml, hown, hts⟩ (c_X_areTerms l D cI cJ cZ aX aX_arities aT aT_heads aT_places aT_olders aT_sizes aT_withins aT_newest aS aM aF aE aH X_namesUsed T_count r1 p1 p2 p3 (-1 : Int32) r6 hr6) (bigV 5 hts k2_150 k2_152 ks_X_areTerms k1_1 k2_153 rfl rfl hd_X_areTerms ⟨Nat.le_of_ble_eq_true rfl, Nat.le_of_ble_eq_true rfl⟩) (rd_preV hK hP [0, 2] rfl 0 rfl rfl rfl) rfl rfl hl.1 rfl (lv_room (Nat.le_of_ble_eq_true rfl)) d_X_name_28 ⟨Nat.le_of_ble_eq_true rfl, Nat.le_of_ble_eq_true rfl⟩) ?_
      refine lv_if_ne (tgt := 44) hx hb d_X_name_31 (by decide) (fun c7 => ?_) (fun c7 => ?_)
      · have hf := ite_f c7 hf
        refine lv_aload_n hx hb d_X_name_44 rfl (lv_at hl 1 rfl) ?_
        refine va_get (D := D) (ci := 0) (v := .ref aX_arities) (C := RR_X) (T := FF_X) (N := 8) hx hb hts kin_X hown hK.1 hP 0 rfl rfl 1 (by decide) (hts _ k1_204) (fun _ h9 => h9) rfl d_X_name_45 ?_
        refine lv_iload_n hx hb d_X_name_48 rfl (lv_at hl 2 rfl) ?_
        obtain ⟨h8, hf⟩ := of_gd hf
        refine va_iald hx hb hK.1 hP 1 0 rfl rfl (ixb_in h8) d_X_name_49 ?_
        refine lv_iconst (v := -1) hx hb d_X_name_50 (by decide) ?_
        refine lv_icmp_eq (tgt := 75) hx hb d_X_name_51 (by decide) (fun c9 => ?_) (fun c9 => ?_)
        · have hf := ite_t c9 hf
          exact hB75 _ _ _ _ _ _ _ _ _ _ _ _ _ _ _ _ hP hD hS _ (lv_sub hl [1, 2, 3, 4, 5, 0] rfl) hf
        · have hf := ite_f c9 hf
          refine lv_aload_n hx hb d_X_name_54 rfl (lv_at hl 1 rfl) ?_
          refine va_get (D := D) (ci := 0) (v := .ref aX_arities) (C := RR_X) (T := FF_X) (N := 8) hx hb hts kin_X hown hK.1 hP 0 rfl rfl 1 (by decide) (hts _ k1_204) (fun _ h9 => h9) rfl d_X_name_55 ?_
          refine lv_iload_n hx hb d_X_name_58 rfl (lv_at hl 2 rfl) ?_
          obtain ⟨h10, hf⟩ := of_gd hf
          refine va_iald hx hb hK.1 hP 1 0 rfl rfl (ixb_in h10) d_X_name_59 ?_
          refine lv_iload hx hb d_X_name_60 (lv_at hl 0 rfl) ?_
          refine lv_icmp_eq (tgt := 75) hx hb d_X_name_62 (by decide) (fun c11 => ?_) (fun c11 => ?_)
          · have hf := ite_t c11 hf
            exact hB75 _ _ _ _ _ _ _ _ _ _ _ _ _ _ _ _ hP hD hS _ (lv_sub hl [1, 2, 3, 4, 5, 0] rfl) hf
          · have hf := ite_f c11 hf
            obtain rfl := Option.some.inj hf
            obtain ⟨sa12, hsa12⟩ := hSR (88, "the name was used with more or fewer terms") (by decide)
            exact xthrow hx hb hst (names := ["java/lang/RuntimeException", "java/lang/Exception"]) hown (by decide) (by decide) hts k2_223 k1_14 k2_224 at_2 hsa12 hE (keepS hS hcS0 hnA) (hl.1.trans hml.symm) d_X_name_65 d_X_name_68 (Or.inl ⟨d_X_name_69, rfl⟩) d_X_name_71 d_X_name_74 hno (Nat.le_of_ble_eq_true rfl) (Nat.le_of_ble_eq_true rfl) (Nat.le_of_ble_eq_true rfl) (Nat.le_of_ble_eq_true rfl) hlocks (fun t h1 h2 => qt_of (Nat.succ_ne_zero 1) rfl (fun _ => 0) hP hD hS h1 h2) hS.2.2 (Nat.le_of_ble_eq_true rfl) (Nat.le_of_ble_eq_true rfl)
      · have hf := ite_t c7 hf
        obtain rfl := Option.some.inj hf
        obtain ⟨sa13, hsa13⟩ := hSR (81, "no such name or term") (by decide)
        exact xthrow hx hb hst (names := ["java/lang/RuntimeException", "java/lang/Exception"]) hown (by decide) (by decide) hts k2_154 k1_13 k2_155 at_1 hsa13 hE (keepS hS hcS0 hnA) (hl.1.trans hml.symm) d_X_name_34 d_X_name_37 (Or.inl ⟨d_X_name_38, rfl⟩) d_X_name_40 d_X_name_43 hno (Nat.le_of_ble_eq_true rfl) (Nat.le_of_ble_eq_true rfl) (Nat.le_of_ble_eq_true rfl) (Nat.le_of_ble_eq_true rfl) hlocks (fun t h1 h2 => qt_of (Nat.succ_ne_zero 0) rfl (fun _ => 0) hP hD hS h1 h2) hS.2.2 (Nat.le_of_ble_eq_true rfl) (Nat.le_of_ble_eq_true rfl)
def f_X_state (T_count : Int32) (nT_withins : Nat) (T_withins : (Nat → Int64)) (S_count : Int32) (S_premises : (Nat → Int32)) (S_premiseCounts : (Nat → Int32)) (S_conclusions : (Nat → Int32)) (H_kind : Int32) (H_subject : Int32) (H_count : Int32) (p0 : Int32) (p1 : Int32) (p2 : Int32) (p3 : Int32) (p4 : Int32) : Option (Nat × Int32 × Int32 × (Nat → Int32) × (Nat → Int32) × (Nat → Int32) × Int32 × Int32 × Int32) :=
  (f_X_leading p0 p1 p2 p3).bind fun r1 =>
  (f_X_areTerms T_count r1 p0 p1 p2 p3).bind fun r2 =>
  if r2 = 0 then
    some (1, (0 : Int32), S_count, S_premises, S_premiseCounts, S_conclusions, H_kind, H_subject, H_count)
  else
    (f_T_has T_count p4).bind fun r5 =>
    if r5 = 0 then
      some (1, (0 : Int32), S_count, S_premises, S_premiseCounts, S_conclusions, H_kind, H_subject, H_count)
    else
      (f_X_holeStandsIn T_count nT_withins T_withins r1 p0 p1 p2 p3).bind fun r7 =>
      if r7 = 0 then
        (f_T_holds T_count nT_withins T_withins p4 (4123168604160 : Int64)).bind fun r10 =>
        if r10 = 0 then
          (f_S_add S_count S_premises S_premiseCounts S_conclusions r1 p0 p1 p2 p3 p4).bind fun r12 =>
          if r12.1 = (-1 : Int32) then
            some (3, (0 : Int32), r12.2.1, r12.2.2.1, r12.2.2.2.1, r12.2.2.2.2, H_kind, H_subject, H_count)
          else
            (f_H_clear H_kind H_subject H_count).bind fun r14 =>
            some (0, r12.1, r12.2.1, r12.2.2.1, r12.2.2.2.1, r12.2.2.2.2, r14.1, r14.2.1, r14.2.2)
        else
          some (2, (0 : Int32), S_count, S_premises, S_premiseCounts, S_conclusions, H_kind, H_subject, H_count)
      else
        some (2, (0 : Int32), S_count, S_premises, S_premiseCounts, S_conclusions, H_kind, H_subject, H_count)
abbrev rm_X_state : Room := { frames := 6, cells := 1, slots := 6, locals := 90 }
set_option maxHeartbeats 4000000 in
set_option maxRecDepth 100000 in
theorem c_X_state (l : Launch) (D : va_G) (cI cJ cZ : ClassId) (aX aX_arities aT aT_heads aT_places aT_olders aT_sizes aT_withins aT_newest aS aS_premises aS_premiseCounts aS_conclusions aS_order aM aF aE aH aH_statementRow aH_firstRow aH_secondRow : Nat) (sz : Nat) (X_namesUsed : Int32) (T_count : Int32) (nT_withins : Nat) (T_withins : (Nat → Int64)) (S_count : Int32) (S_premises : (Nat → Int32)) (S_premiseCounts : (Nat → Int32)) (S_conclusions : (Nat → Int32)) (H_kind : Int32) (H_subject : Int32) (H_count : Int32) (p0 : Int32) (p1 : Int32) (p2 : Int32) (p3 : Int32) (p4 : Int32) (aK : Nat) (cK : Cell) (hst : l.stackTraces = false) (o : Nat × Int32 × Int32 × (Nat → Int32) × (Nat → Int32) × (Nat → Int32) × Int32 × Int32 × Int32) (hf : f_X_state T_count nT_withins T_withins S_count S_premises S_premiseCounts S_conclusions H_kind H_subject H_count p0 p1 p2 p3 p4 = some o) : XMet l y_X_state (ws_X_state) rm_X_state (XPc D vwCl cI cJ cZ aK cK [.ref aX, .int p0, .int p1, .int p2, .int p3, .int p4] (wv_90 cI cJ cZ aX aX_arities aT aT_heads aT_places aT_olders aT_sizes aT_withins aT_newest aS aS_premises aS_premiseCounts aS_conclusions aS_order aM aF aE aH aH_statementRow aH_firstRow aH_secondRow X_namesUsed T_count nT_withins T_withins S_count S_premises S_premiseCounts S_conclusions H_kind H_subject H_count) sz) (QN D vwCl o.1 (some (.int o.2.1)) (fun as => (wv_90 cI cJ cZ aX aX_arities aT aT_heads aT_places aT_olders aT_sizes aT_withins aT_newest aS aS_premises aS_premiseCounts aS_conclusions aS_order aM aF aE aH aH_statementRow aH_firstRow aH_secondRow X_namesUsed T_count nT_withins T_withins o.2.2.1 o.2.2.2.1 o.2.2.2.2.1 o.2.2.2.2.2.1 o.2.2.2.2.2.2.1 o.2.2.2.2.2.2.2.1 o.2.2.2.2.2.2.2.2)) (va_A (wv_90 cI cJ cZ aX aX_arities aT aT_heads aT_places aT_olders aT_sizes aT_withins aT_newest aS aS_premises aS_premiseCounts aS_conclusions aS_order aM aF aE aH aH_statementRow aH_firstRow aH_secondRow X_namesUsed T_count nT_withins T_withins S_count S_premises S_premiseCounts S_conclusions H_kind H_subject H_count) sz)) (QT D vwCl o.1 (fun as => (wv_90 cI cJ cZ aX aX_arities aT aT_heads aT_places aT_olders aT_sizes aT_withins aT_newest aS aS_premises aS_premiseCounts aS_conclusions aS_order aM aF aE aH aH_statementRow aH_firstRow aH_secondRow X_namesUsed T_count nT_withins T_withins o.2.2.1 o.2.2.2.1 o.2.2.2.2.1 o.2.2.2.2.2.1 o.2.2.2.2.2.2.1 o.2.2.2.2.2.2.2.1 o.2.2.2.2.2.2.2.2)) (va_A (wv_90 cI cJ cZ aX aX_arities aT aT_heads aT_places aT_olders aT_sizes aT_withins aT_newest aS aS_premises aS_premiseCounts aS_conclusions aS_order aM aF aE aH aH_statementRow aH_firstRow aH_secondRow X_namesUsed T_count nT_withins T_withins S_count S_premises S_premiseCounts S_conclusions H_kind H_subject H_count) sz)) 1 6 (va_A (wv_90 cI cJ cZ aX aX_arities aT aT_heads aT_places aT_olders aT_sizes aT_withins aT_newest aS aS_premises aS_premiseCounts aS_conclusions aS_order aM aF aE aH aH_statementRow aH_firstRow aH_secondRow X_namesUsed T_count nT_withins T_withins S_count S_premises S_premiseCounts S_conclusions H_kind H_subject H_count) sz) := by
  refine XMet.ofW (cc := b_X_state) (maxL := 8) (ret := (some .int)) (by decide) rfl ?_
  intro p e s m args below meth c s₁ B hml hno hv
  obtain ⟨rfl, rfl, hP, hK, hD0, ⟨hcS0, hE, hSR⟩, hnA⟩ := hv
  have hx := B.exec
  have hb := B.bytes
  have hr := B.returns
  have hts : ∀ w ∈ BG, w.before _ s = true := fun w h => atoms_spec (ws := (ws_X_state)) B.pre w (List.mem_cons_of_mem _ h)
  have hown : s.vm.findClass RR_X = some m.cls := findClass_of_methodNamed B.named
  have hlocks := B.notSynchronized
  have hD := hD0.self (sz := s.heap.size)
  have hA : ∀ q : Nat, s.heap.size ≤ q → va_A (wv_90 cI cJ cZ aX aX_arities aT aT_heads aT_places aT_olders aT_sizes aT_withins aT_newest aS aS_premises aS_premiseCounts aS_conclusions aS_order aM aF aE aH aH_statementRow aH_firstRow aH_secondRow X_namesUsed T_count nT_withins T_withins S_count S_premises S_premiseCounts S_conclusions H_kind H_subject H_count) s.heap.size q := fun q h => Or.inr h
  have hS : va_S (va_A (wv_90 cI cJ cZ aX aX_arities aT aT_heads aT_places aT_olders aT_sizes aT_withins aT_newest aS aS_premises aS_premiseCounts aS_conclusions aS_order aM aF aE aH aH_statementRow aH_firstRow aH_secondRow X_namesUsed T_count nT_withins T_withins S_count S_premises S_premiseCounts S_conclusions H_kind H_subject H_count) s.heap.size) s.heap s.heap [] := va_S.rf
  generalize va_A (wv_90 cI cJ cZ aX aX_arities aT aT_heads aT_places aT_olders aT_sizes aT_withins aT_newest aS aS_premises aS_premiseCounts aS_conclusions aS_order aM aF aE aH aH_statementRow aH_firstRow aH_secondRow X_namesUsed T_count nT_withins T_withins S_count S_premises S_premiseCounts S_conclusions H_kind H_subject H_count) s.heap.size = A at hD hA hS hnA ⊢
  have hl := lv_entry ([.ref aX, .int p0, .int p1, .int p2, .int p3, .int p4]) (n := 8) (Nat.le_of_ble_eq_true rfl)
  rw [lg_entry_eq]
  generalize (lg_sl ([.ref aX, .int p0, .int p1, .int p2, .int p3, .int p4]) ++ List.replicate (8 - (lg_sl ([.ref aX, .int p0, .int p1, .int p2, .int p3, .int p4])).length) Slot.unset).toArray = ls at hl ⊢
  have hl : lv_has ls 8 [(0, .ref aX), (1, .int p0), (2, .int p1), (3, .int p2), (4, .int p3), (5, .int p4)] := hl
  rw [f_X_state] at hf
  refine lv_iload_n hx hb d_X_state_0 rfl (lv_at hl 1 rfl) ?_
  refine lv_iload_n hx hb d_X_state_1 rfl (lv_at hl 2 rfl) ?_
  refine lv_iload_n hx hb d_X_state_2 rfl (lv_at hl 3 rfl) ?_
  refine lv_iload hx hb d_X_state_3 (lv_at hl 4 rfl) ?_
  obtain ⟨r1, hr1, hf⟩ := of_bd hf
  refine rd_call (va_runS (As := [.int p0, .int p1, .int p2, .int p3]) (rest := []) ⟨hx, hb, hml, hown, hts⟩ (c_X_leading l D cI cJ cZ p0 p1 p2 p3 r1 hr1) (bigS 4 hts k2_147 k2_148 k1_1 k2_149 rfl rfl hd_X_leading ⟨Nat.le_of_ble_eq_true rfl, Nat.le_of_ble_eq_true rfl⟩) (rd_preS hK hP [] rfl) rfl rfl hl.1 rfl (lv_room (Nat.le_of_ble_eq_true rfl)) d_X_state_5 ⟨Nat.le_of_ble_eq_true rfl, Nat.le_of_ble_eq_true rfl⟩) ?_
  refine lv_istore (lv' := [(6, .int r1), (0, .ref aX), (1, .int p0), (2, .int p1), (3, .int p2), (4, .int p3), (5, .int p4)]) hx hb d_X_state_8 hl (by decide) rfl (fun ls hl => ?_)
  refine lv_aload_n hx hb d_X_state_10 rfl (lv_at hl 1 rfl) ?_
  refine lv_iload hx hb d_X_state_11 (lv_at hl 0 rfl) ?_
  refine lv_iload_n hx hb d_X_state_13 rfl (lv_at hl 2 rfl) ?_
  refine lv_iload_n hx hb d_X_state_14 rfl (lv_at hl 3 rfl) ?_
  refine lv_iload_n hx hb d_X_state_15 rfl (lv_at hl 4 rfl) ?_
  refine lv_iload hx hb d_X_state_16 (lv_at hl 5 rfl) ?_
  obtain ⟨r2, hr2, hf⟩ := of_bd hf
  refine rd_call (va_runV (As := [.int r1, .int p0, .int p1, .int p2, .int p3]) (rest := []) ⟨hx, hb, hml, hown, hts⟩ (c_X_areTerms l D cI cJ cZ aX aX_arities aT aT_heads aT_places aT_olders aT_sizes aT_withins aT_newest aS aM aF aE aH X_namesUsed T_count r1 p0 p1 p2 p3 r2 hr2) (bigV 5 hts k2_150 k2_152 ks_X_areTerms k1_1 k2_153 rfl rfl hd_X_areTerms ⟨Nat.le_of_ble_eq_true rfl, Nat.le_of_ble_eq_true rfl⟩) (rd_preV hK hP [0, 1] rfl 0 rfl rfl rfl) rfl rfl hl.1 rfl (lv_room (Nat.le_of_ble_eq_true rfl)) d_X_state_18 ⟨Nat.le_of_ble_eq_true rfl, Nat.le_of_ble_eq_true rfl⟩) ?_
  refine lv_if_eq (tgt := 36) hx hb d_X_state_21 (by decide) (fun c3 => ?_) (fun c3 => ?_)
  · have hf := ite_t c3 hf
    obtain rfl := Option.some.inj hf
    obtain ⟨sa4, hsa4⟩ := hSR (117, "no such term") (by decide)
    exact xthrow hx hb hst (names := ["java/lang/RuntimeException", "java/lang/Exception"]) hown (by decide) (by decide) hts k2_154 k1_13 k2_155 at_1 hsa4 hE (keepS hS hcS0 hnA) (hl.1.trans hml.symm) d_X_state_36 d_X_state_39 (Or.inl ⟨d_X_state_40, rfl⟩) d_X_state_42 d_X_state_45 hno (Nat.le_of_ble_eq_true rfl) (Nat.le_of_ble_eq_true rfl) (Nat.le_of_ble_eq_true rfl) (Nat.le_of_ble_eq_true rfl) hlocks (fun t h1 h2 => qt_of (Nat.succ_ne_zero 0) rfl (fun _ => 0) hP hD hS h1 h2) hS.2.2 (Nat.le_of_ble_eq_true rfl) (Nat.le_of_ble_eq_true rfl)
  · have hf := ite_f c3 hf
    refine lv_aload_n hx hb d_X_state_24 rfl (lv_at hl 1 rfl) ?_
    refine va_get (D := D) (ci := 0) (v := .ref aT) (C := RR_X) (T := FF_X) (N := 8) hx hb hts kin_X hown hK.1 hP 0 rfl rfl 0 (by decide) (hts _ k1_203) (fun _ h9 => h9) rfl d_X_state_25 ?_
    refine lv_iload hx hb d_X_state_28 (lv_at hl 6 rfl) ?_
    obtain ⟨r5, hr5, hf⟩ := of_bd hf
    refine rd_call (va_runV (As := [.int p4]) (rest := []) ⟨hx, hb, hml, hown, hts⟩ (c_T_has l D cI cJ cZ aT aT_heads aT_places aT_olders aT_sizes aT_withins aT_newest T_count p4 r5 hr5) (bigV 1 hts k1_232 k1_233 k1_234 k1_2 k1_235 rfl rfl hd_T_has ⟨Nat.le_of_ble_eq_true rfl, Nat.le_of_ble_eq_true rfl⟩) (rd_preV hK hP [1] rfl 1 rfl rfl rfl) rfl rfl hl.1 rfl (lv_room (Nat.le_of_ble_eq_true rfl)) d_X_state_30 ⟨Nat.le_of_ble_eq_true rfl, Nat.le_of_ble_eq_true rfl⟩) ?_
    refine lv_if_ne (tgt := 46) hx hb d_X_state_33 (by decide) (fun c6 => ?_) (fun c6 => ?_)
    · have hf := ite_f c6 hf
      refine lv_aload_n hx hb d_X_state_46 rfl (lv_at hl 1 rfl) ?_
      refine lv_iload hx hb d_X_state_47 (lv_at hl 0 rfl) ?_
      refine lv_iload_n hx hb d_X_state_49 rfl (lv_at hl 2 rfl) ?_
      refine lv_iload_n hx hb d_X_state_50 rfl (lv_at hl 3 rfl) ?_
      refine lv_iload_n hx hb d_X_state_51 rfl (lv_at hl 4 rfl) ?_
      refine lv_iload hx hb d_X_state_52 (lv_at hl 5 rfl) ?_
      obtain ⟨r7, hr7, hf⟩ := of_bd hf
      refine rd_call (va_runV (As := [.int r1, .int p0, .int p1, .int p2, .int p3]) (rest := []) ⟨hx, hb, hml, hown, hts⟩ (c_X_holeStandsIn l D cI cJ cZ aX aX_arities aT aT_heads aT_places aT_olders aT_sizes aT_withins aT_newest aS aM aF aE aH X_namesUsed T_count nT_withins T_withins r1 p0 p1 p2 p3 r7 hr7) (bigV 5 hts k3_44 k3_46 ks_X_holeStandsIn k1_1 k3_47 rfl rfl hd_X_holeStandsIn ⟨Nat.le_of_ble_eq_true rfl, Nat.le_of_ble_eq_true rfl⟩) (rd_preV hK hP [0, 1, 2] rfl 0 rfl rfl rfl) rfl rfl hl.1 rfl (lv_room (Nat.le_of_ble_eq_true rfl)) d_X_state_54 ⟨Nat.le_of_ble_eq_true rfl, Nat.le_of_ble_eq_true rfl⟩) ?_
      refine lv_if_ne (tgt := 75) hx hb d_X_state_57 (by decide) (fun c8 => ?_) (fun c8 => ?_)
      · have hf := ite_f c8 hf
        obtain rfl := Option.some.inj hf
        obtain ⟨sa9, hsa9⟩ := hSR (128, "a hole stands in it") (by decide)
        exact xthrow hx hb hst (names := ["java/lang/RuntimeException", "java/lang/Exception"]) hown (by decide) (by decide) hts k2_223 k1_14 k2_224 at_2 hsa9 hE (keepS hS hcS0 hnA) (hl.1.trans hml.symm) d_X_state_75 d_X_state_78 (Or.inl ⟨d_X_state_79, rfl⟩) d_X_state_81 d_X_state_84 hno (Nat.le_of_ble_eq_true rfl) (Nat.le_of_ble_eq_true rfl) (Nat.le_of_ble_eq_true rfl) (Nat.le_of_ble_eq_true rfl) hlocks (fun t h1 h2 => qt_of (Nat.succ_ne_zero 1) rfl (fun _ => 0) hP hD hS h1 h2) hS.2.2 (Nat.le_of_ble_eq_true rfl) (Nat.le_of_ble_eq_true rfl)
      · have hf := ite_t c8 hf
        refine lv_aload_n hx hb d_X_state_60 rfl (lv_at hl 1 rfl) ?_
        refine va_get (D := D) (ci := 0) (v := .ref aT) (C := RR_X) (T := FF_X) (N := 8) hx hb hts kin_X hown hK.1 hP 0 rfl rfl 0 (by decide) (hts _ k1_203) (fun _ h9 => h9) rfl d_X_state_61 ?_
        refine lv_iload hx hb d_X_state_64 (lv_at hl 6 rfl) ?_
        refine lv_ldc2 (v := 4123168604160) hx hb hown (hts _ k2_57) d_X_state_66 ?_
        obtain ⟨r10, hr10, hf⟩ := of_bd hf
        refine rd_call (va_runV (As := [.int p4, .long (4123168604160 : Int64)]) (rest := []) ⟨hx, hb, hml, hown, hts⟩ (c_T_holds l D cI cJ cZ aT aT_heads aT_places aT_olders aT_sizes aT_withins aT_newest T_count nT_withins T_withins p4 (4123168604160 : Int64) r10 hr10) (bigV 2 hts k3_48 k2_77 k2_78 k1_2 k2_79 rfl rfl hd_T_holds ⟨Nat.le_of_ble_eq_true rfl, Nat.le_of_ble_eq_true rfl⟩) (rd_preV hK hP [1, 2] rfl 1 rfl rfl rfl) rfl rfl hl.1 rfl (lv_room (Nat.le_of_ble_eq_true rfl)) d_X_state_69 ⟨Nat.le_of_ble_eq_true rfl, Nat.le_of_ble_eq_true rfl⟩) ?_
        refine lv_if_eq (tgt := 85) hx hb d_X_state_72 (by decide) (fun c11 => ?_) (fun c11 => ?_)
        · have hf := ite_t c11 hf
          refine lv_aload_n hx hb d_X_state_85 rfl (lv_at hl 1 rfl) ?_
          refine va_get (D := D) (ci := 0) (v := .ref aS) (C := RR_X) (T := FF_X) (N := 8) hx hb hts kin_X hown hK.1 hP 0 rfl rfl 3 (by decide) (hts _ k1_206) (fun _ h9 => h9) rfl d_X_state_86 ?_
          refine lv_iload hx hb d_X_state_89 (lv_at hl 0 rfl) ?_
          refine lv_iload_n hx hb d_X_state_91 rfl (lv_at hl 2 rfl) ?_
          refine lv_iload_n hx hb d_X_state_92 rfl (lv_at hl 3 rfl) ?_
          refine lv_iload_n hx hb d_X_state_93 rfl (lv_at hl 4 rfl) ?_
          refine lv_iload hx hb d_X_state_94 (lv_at hl 5 rfl) ?_
          refine lv_iload hx hb d_X_state_96 (lv_at hl 6 rfl) ?_
          obtain ⟨r12, hr12, hf⟩ := of_bd hf
          refine wr_call (ws' := (wv_90 cI cJ cZ aX aX_arities aT aT_heads aT_places aT_olders aT_sizes aT_withins aT_newest aS aS_premises aS_premiseCounts aS_conclusions aS_order aM aF aE aH aH_statementRow aH_firstRow aH_secondRow X_namesUsed T_count nT_withins T_withins r12.2.1 r12.2.2.1 r12.2.2.2.1 r12.2.2.2.2 H_kind H_subject H_count)) (va_runV (As := [.int r1, .int p0, .int p1, .int p2, .int p3, .int p4]) (rest := []) ⟨hx, hb, hml, hown, hts⟩ (c_S_add l D cI cJ cZ aS aS_premises aS_premiseCounts aS_conclusions aS_order _ S_count S_premises S_premiseCounts S_conclusions r1 p0 p1 p2 p3 p4 r12 hr12) (bigV 6 hts k3_50 k3_51 k3_52 k1_4 k3_53 rfl rfl hd_S_add ⟨Nat.le_of_ble_eq_true rfl, Nat.le_of_ble_eq_true rfl⟩) (wr_preV hK hP hD [3, 4, 5, 6] rfl (by decide) rfl 3 rfl rfl rfl) rfl rfl hl.1 rfl (lv_room (Nat.le_of_ble_eq_true rfl)) d_X_state_98 ⟨Nat.le_of_ble_eq_true rfl, Nat.le_of_ble_eq_true rfl⟩) hP hD hS hA [3, 4, 5, 6] [0, 1, 2, 7] rfl rfl (by decide) (by decide) [0, 1, 2, 4, 5, 6, 7, 3] (by decide) rfl (fun H locs hP hD hS => ?_)
          refine lv_istore (lv' := [(7, .int r12.1), (6, .int r1), (0, .ref aX), (1, .int p0), (2, .int p1), (3, .int p2), (4, .int p3), (5, .int p4)]) hx hb d_X_state_101 hl (by decide) rfl (fun ls hl => ?_)
          refine lv_iload hx hb d_X_state_103 (lv_at hl 0 rfl) ?_
          refine lv_iconst (v := -1) hx hb d_X_state_105 (by decide) ?_
          refine lv_icmp_ne (tgt := 119) hx hb d_X_state_106 (by decide) (fun c13 => ?_) (fun c13 => ?_)
          · have hf := ite_f c13 hf
            refine lv_aload_n hx hb d_X_state_119 rfl (lv_at hl 2 rfl) ?_
            refine va_get (D := D) (ci := 0) (v := .ref aH) (C := RR_X) (T := FF_X) (N := 8) hx hb hts kin_X hown hK.1 hP 0 rfl rfl 7 (by decide) (hts _ k1_210) (fun _ h9 => h9) rfl d_X_state_120 ?_
            obtain ⟨r14, hr14, hf⟩ := of_bd hf
            refine wr_call (ws' := (wv_90 cI cJ cZ aX aX_arities aT aT_heads aT_places aT_olders aT_sizes aT_withins aT_newest aS aS_premises aS_premiseCounts aS_conclusions aS_order aM aF aE aH aH_statementRow aH_firstRow aH_secondRow X_namesUsed T_count nT_withins T_withins r12.2.1 r12.2.2.1 r12.2.2.2.1 r12.2.2.2.2 r14.1 r14.2.1 r14.2.2)) (va_runV (As := []) (rest := []) ⟨hx, hb, hml, hown, hts⟩ (c_H_clear l D cI cJ cZ aH aH_statementRow aH_firstRow aH_secondRow _ H_kind H_subject H_count r14 hr14) (bigV 0 hts k2_12 k2_13 k2_14 k1_8 k2_15 rfl rfl hd_H_clear ⟨Nat.le_of_ble_eq_true rfl, Nat.le_of_ble_eq_true rfl⟩) (wr_preV hK hP hD [7] rfl (by decide) rfl 7 rfl rfl rfl) rfl rfl hl.1 rfl (lv_room (Nat.le_of_ble_eq_true rfl)) d_X_state_123 ⟨Nat.le_of_ble_eq_true rfl, Nat.le_of_ble_eq_true rfl⟩) hP hD hS hA [7] [0, 1, 2, 3, 4, 5, 6] rfl rfl (by decide) (by decide) [0, 1, 2, 3, 4, 5, 6, 7] (by decide) rfl (fun H locs hP hD hS => ?_)
            refine lv_iload hx hb d_X_state_126 (lv_at hl 0 rfl) ?_
            obtain rfl := Option.some.inj hf
            refine W.widen (k := 1) (n := 6) (by omega) (by omega) (xm_ret ?_)
            exact W.iret (v := r12.1) hx hb hr (fun t ht hW => ⟨_, rfl, rfl, rfl, fun _ => 0, by rw [ht]; exact hP, hD, hS.F ht⟩) hS.2.2 d_X_state_128
          · have hf := ite_t c13 hf
            obtain rfl := Option.some.inj hf
            obtain ⟨sa15, hsa15⟩ := hSR (134, "there are 30 statements") (by decide)
            exact xthrow hx hb hst (names := ["java/lang/RuntimeException", "java/lang/Exception"]) hown (by decide) (by decide) hts k3_12 k1_16 k3_13 at_3 hsa15 hE (keepS hS hcS0 hnA) (hl.1.trans hml.symm) d_X_state_109 d_X_state_112 (Or.inl ⟨d_X_state_113, rfl⟩) d_X_state_115 d_X_state_118 hno (Nat.le_of_ble_eq_true rfl) (Nat.le_of_ble_eq_true rfl) (Nat.le_of_ble_eq_true rfl) (Nat.le_of_ble_eq_true rfl) hlocks (fun t h1 h2 => qt_of (Nat.succ_ne_zero 2) rfl (fun _ => 0) hP hD hS h1 h2) hS.2.2 (Nat.le_of_ble_eq_true rfl) (Nat.le_of_ble_eq_true rfl)
        · have hf := ite_f c11 hf
          obtain rfl := Option.some.inj hf
          obtain ⟨sa16, hsa16⟩ := hSR (128, "a hole stands in it") (by decide)
          exact xthrow hx hb hst (names := ["java/lang/RuntimeException", "java/lang/Exception"]) hown (by decide) (by decide) hts k2_223 k1_14 k2_224 at_2 hsa16 hE (keepS hS hcS0 hnA) (hl.1.trans hml.symm) d_X_state_75 d_X_state_78 (Or.inl ⟨d_X_state_79, rfl⟩) d_X_state_81 d_X_state_84 hno (Nat.le_of_ble_eq_true rfl) (Nat.le_of_ble_eq_true rfl) (Nat.le_of_ble_eq_true rfl) (Nat.le_of_ble_eq_true rfl) hlocks (fun t h1 h2 => qt_of (Nat.succ_ne_zero 1) rfl (fun _ => 0) hP hD hS h1 h2) hS.2.2 (Nat.le_of_ble_eq_true rfl) (Nat.le_of_ble_eq_true rfl)
    · have hf := ite_t c6 hf
      obtain rfl := Option.some.inj hf
      obtain ⟨sa17, hsa17⟩ := hSR (117, "no such term") (by decide)
      exact xthrow hx hb hst (names := ["java/lang/RuntimeException", "java/lang/Exception"]) hown (by decide) (by decide) hts k2_154 k1_13 k2_155 at_1 hsa17 hE (keepS hS hcS0 hnA) (hl.1.trans hml.symm) d_X_state_36 d_X_state_39 (Or.inl ⟨d_X_state_40, rfl⟩) d_X_state_42 d_X_state_45 hno (Nat.le_of_ble_eq_true rfl) (Nat.le_of_ble_eq_true rfl) (Nat.le_of_ble_eq_true rfl) (Nat.le_of_ble_eq_true rfl) hlocks (fun t h1 h2 => qt_of (Nat.succ_ne_zero 0) rfl (fun _ => 0) hP hD hS h1 h2) hS.2.2 (Nat.le_of_ble_eq_true rfl) (Nat.le_of_ble_eq_true rfl)
def f_X_find_L40 (T_count : Int32) (nT_heads : Nat) (T_heads : (Nat → Int32)) (nT_places : Nat) (T_places : (Nat → Int32)) (nT_withins : Nat) (T_withins : (Nat → Int64)) (S_count : Int32) (S_premises : (Nat → Int32)) (S_premiseCounts : (Nat → Int32)) (S_conclusions : (Nat → Int32)) : Nat → (Nat → Int32) → Int32 → Int32 → Int32 → (Nat → Int32) → (Nat → Int32) → Int32 → Int32 → Int32 → (Nat → Int32) → (Nat → Int32) → (Nat → Int32) → Int32 → Option (Nat × Int32 × (Nat → Int32) × Int32 × Int32 × Int32 × (Nat → Int32) × (Nat → Int32) × Int32 × Int32 × Int32 × (Nat → Int32) × (Nat → Int32) × (Nat → Int32))
  | 0, _, _, _, _, _, _, _, _, _, _, _, _, _ => none
  | n + 1, M_images_40, F_shape_40, F_match_40, F_premise_40, F_seen_40, F_waiting_40, H_kind_40, H_subject_40, H_count_40, H_statementRow_40, H_firstRow_40, H_secondRow_40, x2_40 =>
    (f_S_count S_count).bind fun r6 =>
    if r6 ≤ x2_40 then
      (f_H_count H_count_40).bind fun r8 =>
      some (0, r8, M_images_40, F_shape_40, F_match_40, F_premise_40, F_seen_40, F_waiting_40, H_kind_40, H_subject_40, H_count_40, H_statementRow_40, H_firstRow_40, H_secondRow_40)
    else
      (f_F_finds T_count nT_heads T_heads nT_places T_places nT_withins T_withins S_count S_premises S_premiseCounts S_conclusions M_images_40 F_shape_40 F_match_40 F_premise_40 F_seen_40 F_waiting_40 x2_40).bind fun r9 =>
      if r9.1 = 0 then
        nm (x2_40 + (1 : Int32)) fun x11 =>
        (f_X_find_L40 T_count nT_heads T_heads nT_places T_places nT_withins T_withins S_count S_premises S_premiseCounts S_conclusions n) r9.2.1 F_shape_40 r9.2.2.1 r9.2.2.2.1 r9.2.2.2.2.1 r9.2.2.2.2.2 H_kind_40 H_subject_40 H_count_40 H_statementRow_40 H_firstRow_40 H_secondRow_40 x11
      else
        (f_F_premise r9.2.2.2.1).bind fun r12 =>
        (f_F_match r9.2.2.1).bind fun r13 =>
        (f_H_add H_count_40 H_statementRow_40 H_firstRow_40 H_secondRow_40 x2_40 r12 r13).bind fun r14 =>
        nm (x2_40 + (1 : Int32)) fun x15 =>
        (f_X_find_L40 T_count nT_heads T_heads nT_places T_places nT_withins T_withins S_count S_premises S_premiseCounts S_conclusions n) r9.2.1 F_shape_40 r9.2.2.1 r9.2.2.2.1 r9.2.2.2.2.1 r9.2.2.2.2.2 H_kind_40 H_subject_40 r14.1 r14.2.1 r14.2.2.1 r14.2.2.2 x15
def f_X_find (T_count : Int32) (nT_heads : Nat) (T_heads : (Nat → Int32)) (nT_places : Nat) (T_places : (Nat → Int32)) (nT_withins : Nat) (T_withins : (Nat → Int64)) (S_count : Int32) (S_premises : (Nat → Int32)) (S_premiseCounts : (Nat → Int32)) (S_conclusions : (Nat → Int32)) (M_images : (Nat → Int32)) (F_shape : Int32) (F_match : Int32) (F_premise : Int32) (F_seen : (Nat → Int32)) (F_waiting : (Nat → Int32)) (H_kind : Int32) (H_subject : Int32) (H_count : Int32) (H_statementRow : (Nat → Int32)) (H_firstRow : (Nat → Int32)) (H_secondRow : (Nat → Int32)) (p0 : Int32) : Option (Nat × Int32 × (Nat → Int32) × Int32 × Int32 × Int32 × (Nat → Int32) × (Nat → Int32) × Int32 × Int32 × Int32 × (Nat → Int32) × (Nat → Int32) × (Nat → Int32)) :=
  (f_T_has T_count p0).bind fun r1 =>
  if r1 = 0 then
    some (1, (0 : Int32), M_images, F_shape, F_match, F_premise, F_seen, F_waiting, H_kind, H_subject, H_count, H_statementRow, H_firstRow, H_secondRow)
  else
    (f_H_begin H_kind H_subject H_count (1 : Int32) p0).bind fun r3 =>
    (f_F_begin F_shape p0).bind fun r4 =>
    f_X_find_L40 T_count nT_heads T_heads nT_places T_places nT_withins T_withins S_count S_premises S_premiseCounts S_conclusions FU M_images r4 F_match F_premise F_seen F_waiting r3.1 r3.2.1 r3.2.2 H_statementRow H_firstRow H_secondRow (0 : Int32)
abbrev rm_X_find : Room := { frames := 6, cells := 1, slots := 6, locals := 147 }
set_option maxHeartbeats 4000000 in
set_option maxRecDepth 100000 in
theorem c_X_find (l : Launch) (D : va_G) (cI cJ cZ : ClassId) (aX aX_arities aT aT_heads aT_places aT_olders aT_sizes aT_withins aT_newest aS aS_premises aS_premiseCounts aS_conclusions aS_order aM aM_images aM_path aF aF_seen aF_waiting aE aH aH_statementRow aH_firstRow aH_secondRow : Nat) (sz : Nat) (X_namesUsed : Int32) (T_count : Int32) (nT_heads : Nat) (T_heads : (Nat → Int32)) (nT_places : Nat) (T_places : (Nat → Int32)) (nT_withins : Nat) (T_withins : (Nat → Int64)) (S_count : Int32) (S_premises : (Nat → Int32)) (S_premiseCounts : (Nat → Int32)) (S_conclusions : (Nat → Int32)) (M_images : (Nat → Int32)) (F_shape : Int32) (F_match : Int32) (F_premise : Int32) (F_seen : (Nat → Int32)) (F_waiting : (Nat → Int32)) (H_kind : Int32) (H_subject : Int32) (H_count : Int32) (H_statementRow : (Nat → Int32)) (H_firstRow : (Nat → Int32)) (H_secondRow : (Nat → Int32)) (p0 : Int32) (aK : Nat) (cK : Cell) (hst : l.stackTraces = false) (o : Nat × Int32 × (Nat → Int32) × Int32 × Int32 × Int32 × (Nat → Int32) × (Nat → Int32) × Int32 × Int32 × Int32 × (Nat → Int32) × (Nat → Int32) × (Nat → Int32)) (hf : f_X_find T_count nT_heads T_heads nT_places T_places nT_withins T_withins S_count S_premises S_premiseCounts S_conclusions M_images F_shape F_match F_premise F_seen F_waiting H_kind H_subject H_count H_statementRow H_firstRow H_secondRow p0 = some o) : XMet l y_X_find (ws_X_find) rm_X_find (XPc D vwCl cI cJ cZ aK cK [.ref aX, .int p0] (wv_91 cI cJ cZ aX aX_arities aT aT_heads aT_places aT_olders aT_sizes aT_withins aT_newest aS aS_premises aS_premiseCounts aS_conclusions aS_order aM aM_images aM_path aF aF_seen aF_waiting aE aH aH_statementRow aH_firstRow aH_secondRow X_namesUsed T_count nT_heads T_heads nT_places T_places nT_withins T_withins S_count S_premises S_premiseCounts S_conclusions M_images F_shape F_match F_premise F_seen F_waiting H_kind H_subject H_count H_statementRow H_firstRow H_secondRow) sz) (QN D vwCl o.1 (some (.int o.2.1)) (fun as => (wv_91 cI cJ cZ aX aX_arities aT aT_heads aT_places aT_olders aT_sizes aT_withins aT_newest aS aS_premises aS_premiseCounts aS_conclusions aS_order aM aM_images aM_path aF aF_seen aF_waiting aE aH aH_statementRow aH_firstRow aH_secondRow X_namesUsed T_count nT_heads T_heads nT_places T_places nT_withins T_withins S_count S_premises S_premiseCounts S_conclusions o.2.2.1 o.2.2.2.1 o.2.2.2.2.1 o.2.2.2.2.2.1 o.2.2.2.2.2.2.1 o.2.2.2.2.2.2.2.1 o.2.2.2.2.2.2.2.2.1 o.2.2.2.2.2.2.2.2.2.1 o.2.2.2.2.2.2.2.2.2.2.1 o.2.2.2.2.2.2.2.2.2.2.2.1 o.2.2.2.2.2.2.2.2.2.2.2.2.1 o.2.2.2.2.2.2.2.2.2.2.2.2.2)) (va_A (wv_91 cI cJ cZ aX aX_arities aT aT_heads aT_places aT_olders aT_sizes aT_withins aT_newest aS aS_premises aS_premiseCounts aS_conclusions aS_order aM aM_images aM_path aF aF_seen aF_waiting aE aH aH_statementRow aH_firstRow aH_secondRow X_namesUsed T_count nT_heads T_heads nT_places T_places nT_withins T_withins S_count S_premises S_premiseCounts S_conclusions M_images F_shape F_match F_premise F_seen F_waiting H_kind H_subject H_count H_statementRow H_firstRow H_secondRow) sz)) (QT D vwCl o.1 (fun as => (wv_91 cI cJ cZ aX aX_arities aT aT_heads aT_places aT_olders aT_sizes aT_withins aT_newest aS aS_premises aS_premiseCounts aS_conclusions aS_order aM aM_images aM_path aF aF_seen aF_waiting aE aH aH_statementRow aH_firstRow aH_secondRow X_namesUsed T_count nT_heads T_heads nT_places T_places nT_withins T_withins S_count S_premises S_premiseCounts S_conclusions o.2.2.1 o.2.2.2.1 o.2.2.2.2.1 o.2.2.2.2.2.1 o.2.2.2.2.2.2.1 o.2.2.2.2.2.2.2.1 o.2.2.2.2.2.2.2.2.1 o.2.2.2.2.2.2.2.2.2.1 o.2.2.2.2.2.2.2.2.2.2.1 o.2.2.2.2.2.2.2.2.2.2.2.1 o.2.2.2.2.2.2.2.2.2.2.2.2.1 o.2.2.2.2.2.2.2.2.2.2.2.2.2)) (va_A (wv_91 cI cJ cZ aX aX_arities aT aT_heads aT_places aT_olders aT_sizes aT_withins aT_newest aS aS_premises aS_premiseCounts aS_conclusions aS_order aM aM_images aM_path aF aF_seen aF_waiting aE aH aH_statementRow aH_firstRow aH_secondRow X_namesUsed T_count nT_heads T_heads nT_places T_places nT_withins T_withins S_count S_premises S_premiseCounts S_conclusions M_images F_shape F_match F_premise F_seen F_waiting H_kind H_subject H_count H_statementRow H_firstRow H_secondRow) sz)) 1 6 (va_A (wv_91 cI cJ cZ aX aX_arities aT aT_heads aT_places aT_olders aT_sizes aT_withins aT_newest aS aS_premises aS_premiseCounts aS_conclusions aS_order aM aM_images aM_path aF aF_seen aF_waiting aE aH aH_statementRow aH_firstRow aH_secondRow X_namesUsed T_count nT_heads T_heads nT_places T_places nT_withins T_withins S_count S_premises S_premiseCounts S_conclusions M_images F_shape F_match F_premise F_seen F_waiting H_kind H_subject H_count H_statementRow H_firstRow H_secondRow) sz) := by
  refine XMet.ofW (cc := b_X_find) (maxL := 3) (ret := (some .int)) (by decide) rfl ?_
  intro p e s m args below meth c s₁ B hml hno hv
  obtain ⟨rfl, rfl, hP, hK, hD0, ⟨hcS0, hE, hSR⟩, hnA⟩ := hv
  have hx := B.exec
  have hb := B.bytes
  have hr := B.returns
  have hts : ∀ w ∈ BG, w.before _ s = true := fun w h => atoms_spec (ws := (ws_X_find)) B.pre w (List.mem_cons_of_mem _ h)
  have hown : s.vm.findClass RR_X = some m.cls := findClass_of_methodNamed B.named
  have hlocks := B.notSynchronized
  have hD := hD0.self (sz := s.heap.size)
  have hA : ∀ q : Nat, s.heap.size ≤ q → va_A (wv_91 cI cJ cZ aX aX_arities aT aT_heads aT_places aT_olders aT_sizes aT_withins aT_newest aS aS_premises aS_premiseCounts aS_conclusions aS_order aM aM_images aM_path aF aF_seen aF_waiting aE aH aH_statementRow aH_firstRow aH_secondRow X_namesUsed T_count nT_heads T_heads nT_places T_places nT_withins T_withins S_count S_premises S_premiseCounts S_conclusions M_images F_shape F_match F_premise F_seen F_waiting H_kind H_subject H_count H_statementRow H_firstRow H_secondRow) s.heap.size q := fun q h => Or.inr h
  have hS : va_S (va_A (wv_91 cI cJ cZ aX aX_arities aT aT_heads aT_places aT_olders aT_sizes aT_withins aT_newest aS aS_premises aS_premiseCounts aS_conclusions aS_order aM aM_images aM_path aF aF_seen aF_waiting aE aH aH_statementRow aH_firstRow aH_secondRow X_namesUsed T_count nT_heads T_heads nT_places T_places nT_withins T_withins S_count S_premises S_premiseCounts S_conclusions M_images F_shape F_match F_premise F_seen F_waiting H_kind H_subject H_count H_statementRow H_firstRow H_secondRow) s.heap.size) s.heap s.heap [] := va_S.rf
  generalize va_A (wv_91 cI cJ cZ aX aX_arities aT aT_heads aT_places aT_olders aT_sizes aT_withins aT_newest aS aS_premises aS_premiseCounts aS_conclusions aS_order aM aM_images aM_path aF aF_seen aF_waiting aE aH aH_statementRow aH_firstRow aH_secondRow X_namesUsed T_count nT_heads T_heads nT_places T_places nT_withins T_withins S_count S_premises S_premiseCounts S_conclusions M_images F_shape F_match F_premise F_seen F_waiting H_kind H_subject H_count H_statementRow H_firstRow H_secondRow) s.heap.size = A at hD hA hS hnA ⊢
  have hl := lv_entry ([.ref aX, .int p0]) (n := 3) (Nat.le_of_ble_eq_true rfl)
  rw [lg_entry_eq]
  generalize (lg_sl ([.ref aX, .int p0]) ++ List.replicate (3 - (lg_sl ([.ref aX, .int p0])).length) Slot.unset).toArray = ls at hl ⊢
  have hl : lv_has ls 3 [(0, .ref aX), (1, .int p0)] := hl
  have hL40 : ∀ (n40 : Nat), ∀ (M_images_40 : (Nat → Int32)) (F_shape_40 : Int32) (F_match_40 : Int32) (F_premise_40 : Int32) (F_seen_40 : (Nat → Int32)) (F_waiting_40 : (Nat → Int32)) (H_kind_40 : Int32) (H_subject_40 : Int32) (H_count_40 : Int32) (H_statementRow_40 : (Nat → Int32)) (H_firstRow_40 : (Nat → Int32)) (H_secondRow_40 : (Nat → Int32)) (x2_40 : Int32), ∀ (H : Heap) (locs : List Loc), va_P D vwCl (wv_91 cI cJ cZ aX aX_arities aT aT_heads aT_places aT_olders aT_sizes aT_withins aT_newest aS aS_premises aS_premiseCounts aS_conclusions aS_order aM aM_images aM_path aF aF_seen aF_waiting aE aH aH_statementRow aH_firstRow aH_secondRow X_namesUsed T_count nT_heads T_heads nT_places T_places nT_withins T_withins S_count S_premises S_premiseCounts S_conclusions M_images_40 F_shape_40 F_match_40 F_premise_40 F_seen_40 F_waiting_40 H_kind_40 H_subject_40 H_count_40 H_statementRow_40 H_firstRow_40 H_secondRow_40) H → va_D A (wv_91 cI cJ cZ aX aX_arities aT aT_heads aT_places aT_olders aT_sizes aT_withins aT_newest aS aS_premises aS_premiseCounts aS_conclusions aS_order aM aM_images aM_path aF aF_seen aF_waiting aE aH aH_statementRow aH_firstRow aH_secondRow X_namesUsed T_count nT_heads T_heads nT_places T_places nT_withins T_withins S_count S_premises S_premiseCounts S_conclusions M_images_40 F_shape_40 F_match_40 F_premise_40 F_seen_40 F_waiting_40 H_kind_40 H_subject_40 H_count_40 H_statementRow_40 H_firstRow_40 H_secondRow_40) → va_S A s.heap H locs → ∀ (ls : Array Slot), lv_has ls 3 [(0, .ref aX), (2, .int x2_40)] → f_X_find_L40 T_count nT_heads T_heads nT_places T_places nT_withins T_withins S_count S_premises S_premiseCounts S_conclusions n40 M_images_40 F_shape_40 F_match_40 F_premise_40 F_seen_40 F_waiting_40 H_kind_40 H_subject_40 H_count_40 H_statementRow_40 H_firstRow_40 H_secondRow_40 x2_40 = some o → W p l e (headSpec (ws_X_find) rm_X_find).room s m ([.ref aX, .int p0] : List Value).toArray below meth c H locs 0 0 (XM below (QN D vwCl o.1 (some (.int o.2.1)) (fun as => (wv_91 cI cJ cZ aX aX_arities aT aT_heads aT_places aT_olders aT_sizes aT_withins aT_newest aS aS_premises aS_premiseCounts aS_conclusions aS_order aM aM_images aM_path aF aF_seen aF_waiting aE aH aH_statementRow aH_firstRow aH_secondRow X_namesUsed T_count nT_heads T_heads nT_places T_places nT_withins T_withins S_count S_premises S_premiseCounts S_conclusions o.2.2.1 o.2.2.2.1 o.2.2.2.2.1 o.2.2.2.2.2.1 o.2.2.2.2.2.2.1 o.2.2.2.2.2.2.2.1 o.2.2.2.2.2.2.2.2.1 o.2.2.2.2.2.2.2.2.2.1 o.2.2.2.2.2.2.2.2.2.2.1 o.2.2.2.2.2.2.2.2.2.2.2.1 o.2.2.2.2.2.2.2.2.2.2.2.2.1 o.2.2.2.2.2.2.2.2.2.2.2.2.2)) A) (QT D vwCl o.1 (fun as => (wv_91 cI cJ cZ aX aX_arities aT aT_heads aT_places aT_olders aT_sizes aT_withins aT_newest aS aS_premises aS_premiseCounts aS_conclusions aS_order aM aM_images aM_path aF aF_seen aF_waiting aE aH aH_statementRow aH_firstRow aH_secondRow X_namesUsed T_count nT_heads T_heads nT_places T_places nT_withins T_withins S_count S_premises S_premiseCounts S_conclusions o.2.2.1 o.2.2.2.1 o.2.2.2.2.1 o.2.2.2.2.2.1 o.2.2.2.2.2.2.1 o.2.2.2.2.2.2.2.1 o.2.2.2.2.2.2.2.2.1 o.2.2.2.2.2.2.2.2.2.1 o.2.2.2.2.2.2.2.2.2.2.1 o.2.2.2.2.2.2.2.2.2.2.2.1 o.2.2.2.2.2.2.2.2.2.2.2.2.1 o.2.2.2.2.2.2.2.2.2.2.2.2.2)) A) ([.ref aX, .int p0] : List Value).toArray s 1 6 A) (F0 m 40 ls []) := by
    intro n40
    induction n40 with
    | zero =>
      intro M_images_40 F_shape_40 F_match_40 F_premise_40 F_seen_40 F_waiting_40 H_kind_40 H_subject_40 H_count_40 H_statementRow_40 H_firstRow_40 H_secondRow_40 x2_40 H locs hP hD hS ls hl hf
      rw [f_X_find_L40] at hf
      cases hf
    | succ n40 ih40 =>
      intro M_images_40 F_shape_40 F_match_40 F_premise_40 F_seen_40 F_waiting_40 H_kind_40 H_subject_40 H_count_40 H_statementRow_40 H_firstRow_40 H_secondRow_40 x2_40 H locs hP hD hS ls hl hf
      rw [f_X_find_L40] at hf
      refine lv_iload_n hx hb d_X_find_40 rfl (lv_at hl 1 rfl) ?_
      refine lv_aload_n hx hb d_X_find_41 rfl (lv_at hl 0 rfl) ?_
      refine va_get (D := D) (ci := 0) (v := .ref aS) (C := RR_X) (T := FF_X) (N := 8) hx hb hts kin_X hown hK.1 hP 0 rfl rfl 3 (by decide) (hts _ k1_206) (fun _ h9 => h9) rfl d_X_find_42 ?_
      obtain ⟨r6, hr6, hf⟩ := of_bd hf
      refine rd_call (va_runV (As := []) (rest := [.int x2_40]) ⟨hx, hb, hml, hown, hts⟩ (c_S_count l D cI cJ cZ aS aS_premises aS_premiseCounts aS_conclusions aS_order S_count r6 hr6) (bigV 0 hts k2_129 k2_130 k2_131 k1_4 k2_132 rfl rfl hd_S_count ⟨Nat.le_of_ble_eq_true rfl, Nat.le_of_ble_eq_true rfl⟩) (rd_preV hK hP [5] rfl 5 rfl rfl rfl) rfl rfl hl.1 rfl (lv_room (Nat.le_of_ble_eq_true rfl)) d_X_find_45 ⟨Nat.le_of_ble_eq_true rfl, Nat.le_of_ble_eq_true rfl⟩) ?_
      refine lv_icmp_ge (tgt := 94) hx hb d_X_find_48 (by decide) (fun c7 => ?_) (fun c7 => ?_)
      · have hf := ite_t c7 hf
        refine lv_aload_n hx hb d_X_find_94 rfl (lv_at hl 0 rfl) ?_
        refine va_get (D := D) (ci := 0) (v := .ref aH) (C := RR_X) (T := FF_X) (N := 8) hx hb hts kin_X hown hK.1 hP 0 rfl rfl 7 (by decide) (hts _ k1_210) (fun _ h9 => h9) rfl d_X_find_95 ?_
        obtain ⟨r8, hr8, hf⟩ := of_bd hf
        refine rd_call (va_runV (As := []) (rest := []) ⟨hx, hb, hml, hown, hts⟩ (c_H_count l D cI cJ cZ aH aH_statementRow aH_firstRow aH_secondRow H_kind_40 H_subject_40 H_count_40 r8 hr8) (bigV 0 hts k2_133 k2_134 k2_135 k1_8 k2_136 rfl rfl hd_H_count ⟨Nat.le_of_ble_eq_true rfl, Nat.le_of_ble_eq_true rfl⟩) (rd_preV hK hP [14] rfl 14 rfl rfl rfl) rfl rfl hl.1 rfl (lv_room (Nat.le_of_ble_eq_true rfl)) d_X_find_98 ⟨Nat.le_of_ble_eq_true rfl, Nat.le_of_ble_eq_true rfl⟩) ?_
        obtain rfl := Option.some.inj hf
        refine W.widen (k := 1) (n := 6) (by omega) (by omega) (xm_ret ?_)
        exact W.iret (v := r8) hx hb hr (fun t ht hW => ⟨_, rfl, rfl, rfl, fun _ => 0, by rw [ht]; exact hP, hD, hS.F ht⟩) hS.2.2 d_X_find_101
      · have hf := ite_f c7 hf
        refine lv_aload_n hx hb d_X_find_51 rfl (lv_at hl 0 rfl) ?_
        refine va_get (D := D) (ci := 0) (v := .ref aF) (C := RR_X) (T := FF_X) (N := 8) hx hb hts kin_X hown hK.1 hP 0 rfl rfl 5 (by decide) (hts _ k1_208) (fun _ h9 => h9) rfl d_X_find_52 ?_
        refine lv_aload_n hx hb d_X_find_55 rfl (lv_at hl 0 rfl) ?_
        refine va_get (D := D) (ci := 0) (v := .ref aS) (C := RR_X) (T := FF_X) (N := 8) hx hb hts kin_X hown hK.1 hP 0 rfl rfl 3 (by decide) (hts _ k1_206) (fun _ h9 => h9) rfl d_X_find_56 ?_
        refine lv_iload_n hx hb d_X_find_59 rfl (lv_at hl 1 rfl) ?_
        obtain ⟨r9, hr9, hf⟩ := of_bd hf
        refine wr_call (ws' := (wv_91 cI cJ cZ aX aX_arities aT aT_heads aT_places aT_olders aT_sizes aT_withins aT_newest aS aS_premises aS_premiseCounts aS_conclusions aS_order aM aM_images aM_path aF aF_seen aF_waiting aE aH aH_statementRow aH_firstRow aH_secondRow X_namesUsed T_count nT_heads T_heads nT_places T_places nT_withins T_withins S_count S_premises S_premiseCounts S_conclusions r9.2.1 F_shape_40 r9.2.2.1 r9.2.2.2.1 r9.2.2.2.2.1 r9.2.2.2.2.2 H_kind_40 H_subject_40 H_count_40 H_statementRow_40 H_firstRow_40 H_secondRow_40)) (va_runV (As := [.ref aS, .int x2_40]) (rest := []) ⟨hx, hb, hml, hown, hts⟩ (c_F_finds l D cI cJ cZ aT aT_heads aT_places aT_olders aT_sizes aT_withins aT_newest aS aS_premises aS_premiseCounts aS_conclusions aS_order aM aM_images aM_path aF aF_seen aF_waiting _ T_count nT_heads T_heads nT_places T_places nT_withins T_withins S_count S_premises S_premiseCounts S_conclusions M_images_40 F_shape_40 F_match_40 F_premise_40 F_seen_40 F_waiting_40 x2_40 r9 hr9) (bigV 2 hts k3_67 k3_68 k3_69 k1_6 k3_70 rfl rfl hd_F_finds ⟨Nat.le_of_ble_eq_true rfl, Nat.le_of_ble_eq_true rfl⟩) (wr_preV hK hP hD [1, 2, 3, 4, 5, 6, 7, 8, 9, 10, 11, 12, 13] rfl (by decide) rfl 11 rfl rfl rfl) rfl rfl hl.1 rfl (lv_room (Nat.le_of_ble_eq_true rfl)) d_X_find_60 ⟨Nat.le_of_ble_eq_true rfl, Nat.le_of_ble_eq_true rfl⟩) hP hD hS hA [1, 2, 3, 4, 5, 6, 7, 8, 9, 10, 11, 12, 13] [0, 14, 15, 16, 17] rfl rfl (by decide) (by decide) [0, 5, 6, 7, 8, 9, 10, 11, 12, 13, 14, 15, 16, 17, 1, 2, 3, 4] (by decide) rfl (fun H locs hP hD hS => ?_)
        refine lv_if_eq (tgt := 88) hx hb d_X_find_63 (by decide) (fun c10 => ?_) (fun c10 => ?_)
        · have hf := ite_t c10 hf
          obtain ⟨x11, ex11⟩ : ∃ y : Int32, y = x2_40 + (1 : Int32) := ⟨_, rfl⟩
          refine lv_iinc (v := x11) (lv' := [(2, .int x11), (0, .ref aX)]) hx hb d_X_find_88 hl (k := 1) rfl (by rw [ex11]; rfl) (by decide) rfl (fun ls hl => ?_)
          have hf := of_nm ex11 hf
          refine lv_goto (tgt := 40) hx hb d_X_find_91 (by decide) ?_
          exact ih40 _ _ _ _ _ _ _ _ _ _ _ _ _ _ _ hP hD hS _ (lv_sub hl [1, 0] rfl) hf
        · have hf := ite_f c10 hf
          refine lv_aload_n hx hb d_X_find_66 rfl (lv_at hl 0 rfl) ?_
          refine va_get (D := D) (ci := 0) (v := .ref aH) (C := RR_X) (T := FF_X) (N := 8) hx hb hts kin_X hown hK.1 hP 0 rfl rfl 7 (by decide) (hts _ k1_210) (fun _ h9 => h9) rfl d_X_find_67 ?_
          refine lv_iload_n hx hb d_X_find_70 rfl (lv_at hl 1 rfl) ?_
          refine lv_aload_n hx hb d_X_find_71 rfl (lv_at hl 0 rfl) ?_
          refine va_get (D := D) (ci := 0) (v := .ref aF) (C := RR_X) (T := FF_X) (N := 8) hx hb hts kin_X hown hK.1 hP 0 rfl rfl 5 (by decide) (hts _ k1_208) (fun _ h9 => h9) rfl d_X_find_72 ?_
          obtain ⟨r12, hr12, hf⟩ := of_bd hf
          refine rd_call (va_runV (As := []) (rest := [.int x2_40, .ref aH]) ⟨hx, hb, hml, hown, hts⟩ (c_F_premise l D cI cJ cZ aT aM aF aF_seen aF_waiting F_shape_40 r9.2.2.1 r9.2.2.2.1 r12 hr12) (bigV 0 hts k3_92 k3_93 k3_94 k1_6 k3_95 rfl rfl hd_F_premise ⟨Nat.le_of_ble_eq_true rfl, Nat.le_of_ble_eq_true rfl⟩) (rd_preV hK hP [11] rfl 11 rfl rfl rfl) rfl rfl hl.1 rfl (lv_room (Nat.le_of_ble_eq_true rfl)) d_X_find_75 ⟨Nat.le_of_ble_eq_true rfl, Nat.le_of_ble_eq_true rfl⟩) ?_
          refine lv_aload_n hx hb d_X_find_78 rfl (lv_at hl 0 rfl) ?_
          refine va_get (D := D) (ci := 0) (v := .ref aF) (C := RR_X) (T := FF_X) (N := 8) hx hb hts kin_X hown hK.1 hP 0 rfl rfl 5 (by decide) (hts _ k1_208) (fun _ h9 => h9) rfl d_X_find_79 ?_
          obtain ⟨r13, hr13, hf⟩ := of_bd hf
          refine rd_call (va_runV (As := []) (rest := [.int r12, .int x2_40, .ref aH]) ⟨hx, hb, hml, hown, hts⟩ (c_F_match l D cI cJ cZ aT aM aF aF_seen aF_waiting F_shape_40 r9.2.2.1 r9.2.2.2.1 r13 hr13) (bigV 0 hts k3_96 k3_97 k3_98 k1_6 k3_99 rfl rfl hd_F_match ⟨Nat.le_of_ble_eq_true rfl, Nat.le_of_ble_eq_true rfl⟩) (rd_preV hK hP [11] rfl 11 rfl rfl rfl) rfl rfl hl.1 rfl (lv_room (Nat.le_of_ble_eq_true rfl)) d_X_find_82 ⟨Nat.le_of_ble_eq_true rfl, Nat.le_of_ble_eq_true rfl⟩) ?_
          obtain ⟨r14, hr14, hf⟩ := of_bd hf
          refine wr_call (ws' := (wv_91 cI cJ cZ aX aX_arities aT aT_heads aT_places aT_olders aT_sizes aT_withins aT_newest aS aS_premises aS_premiseCounts aS_conclusions aS_order aM aM_images aM_path aF aF_seen aF_waiting aE aH aH_statementRow aH_firstRow aH_secondRow X_namesUsed T_count nT_heads T_heads nT_places T_places nT_withins T_withins S_count S_premises S_premiseCounts S_conclusions r9.2.1 F_shape_40 r9.2.2.1 r9.2.2.2.1 r9.2.2.2.2.1 r9.2.2.2.2.2 H_kind_40 H_subject_40 r14.1 r14.2.1 r14.2.2.1 r14.2.2.2)) (va_runV (As := [.int x2_40, .int r12, .int r13]) (rest := []) ⟨hx, hb, hml, hown, hts⟩ (c_H_add l D cI cJ cZ aH aH_statementRow aH_firstRow aH_secondRow _ H_kind_40 H_subject_40 H_count_40 H_statementRow_40 H_firstRow_40 H_secondRow_40 x2_40 r12 r13 r14 hr14) (bigV 3 hts k3_100 k3_101 k3_102 k1_8 k3_103 rfl rfl hd_H_add ⟨Nat.le_of_ble_eq_true rfl, Nat.le_of_ble_eq_true rfl⟩) (wr_preV hK hP hD [14, 15, 16, 17] rfl (by decide) rfl 14 rfl rfl rfl) rfl rfl hl.1 rfl (lv_room (Nat.le_of_ble_eq_true rfl)) d_X_find_85 ⟨Nat.le_of_ble_eq_true rfl, Nat.le_of_ble_eq_true rfl⟩) hP hD hS hA [14, 15, 16, 17] [0, 1, 2, 3, 4, 5, 6, 7, 8, 9, 10, 11, 12, 13] rfl rfl (by decide) (by decide) [0, 1, 2, 3, 4, 5, 6, 7, 8, 9, 10, 11, 12, 13, 14, 15, 16, 17] (by decide) rfl (fun H locs hP hD hS => ?_)
          obtain ⟨x15, ex15⟩ : ∃ y : Int32, y = x2_40 + (1 : Int32) := ⟨_, rfl⟩
          refine lv_iinc (v := x15) (lv' := [(2, .int x15), (0, .ref aX)]) hx hb d_X_find_88 hl (k := 1) rfl (by rw [ex15]; rfl) (by decide) rfl (fun ls hl => ?_)
          have hf := of_nm ex15 hf
          refine lv_goto (tgt := 40) hx hb d_X_find_91 (by decide) ?_
          exact ih40 _ _ _ _ _ _ _ _ _ _ _ _ _ _ _ hP hD hS _ (lv_sub hl [1, 0] rfl) hf
  rw [f_X_find] at hf
  refine lv_aload_n hx hb d_X_find_0 rfl (lv_at hl 0 rfl) ?_
  refine va_get (D := D) (ci := 0) (v := .ref aT) (C := RR_X) (T := FF_X) (N := 8) hx hb hts kin_X hown hK.1 hP 0 rfl rfl 0 (by decide) (hts _ k1_203) (fun _ h9 => h9) rfl d_X_find_1 ?_
  refine lv_iload_n hx hb d_X_find_4 rfl (lv_at hl 1 rfl) ?_
  obtain ⟨r1, hr1, hf⟩ := of_bd hf
  refine rd_call (va_runV (As := [.int p0]) (rest := []) ⟨hx, hb, hml, hown, hts⟩ (c_T_has l D cI cJ cZ aT aT_heads aT_places aT_olders aT_sizes aT_withins aT_newest T_count p0 r1 hr1) (bigV 1 hts k1_232 k1_233 k1_234 k1_2 k1_235 rfl rfl hd_T_has ⟨Nat.le_of_ble_eq_true rfl, Nat.le_of_ble_eq_true rfl⟩) (rd_preV hK hP [1] rfl 1 rfl rfl rfl) rfl rfl hl.1 rfl (lv_room (Nat.le_of_ble_eq_true rfl)) d_X_find_5 ⟨Nat.le_of_ble_eq_true rfl, Nat.le_of_ble_eq_true rfl⟩) ?_
  refine lv_if_ne (tgt := 21) hx hb d_X_find_8 (by decide) (fun c2 => ?_) (fun c2 => ?_)
  · have hf := ite_f c2 hf
    refine lv_aload_n hx hb d_X_find_21 rfl (lv_at hl 0 rfl) ?_
    refine va_get (D := D) (ci := 0) (v := .ref aH) (C := RR_X) (T := FF_X) (N := 8) hx hb hts kin_X hown hK.1 hP 0 rfl rfl 7 (by decide) (hts _ k1_210) (fun _ h9 => h9) rfl d_X_find_22 ?_
    refine lv_iconst (v := 1) hx hb d_X_find_25 (by decide) ?_
    refine lv_iload_n hx hb d_X_find_26 rfl (lv_at hl 1 rfl) ?_
    obtain ⟨r3, hr3, hf⟩ := of_bd hf
    refine wr_call (ws' := (wv_91 cI cJ cZ aX aX_arities aT aT_heads aT_places aT_olders aT_sizes aT_withins aT_newest aS aS_premises aS_premiseCounts aS_conclusions aS_order aM aM_images aM_path aF aF_seen aF_waiting aE aH aH_statementRow aH_firstRow aH_secondRow X_namesUsed T_count nT_heads T_heads nT_places T_places nT_withins T_withins S_count S_premises S_premiseCounts S_conclusions M_images F_shape F_match F_premise F_seen F_waiting r3.1 r3.2.1 r3.2.2 H_statementRow H_firstRow H_secondRow)) (va_runV (As := [.int (1 : Int32), .int p0]) (rest := []) ⟨hx, hb, hml, hown, hts⟩ (c_H_begin l D cI cJ cZ aH aH_statementRow aH_firstRow aH_secondRow _ H_kind H_subject H_count (1 : Int32) p0 r3 hr3) (bigV 2 hts k3_62 k2_17 k2_18 k1_8 k2_19 rfl rfl hd_H_begin ⟨Nat.le_of_ble_eq_true rfl, Nat.le_of_ble_eq_true rfl⟩) (wr_preV hK hP hD [14] rfl (by decide) rfl 14 rfl rfl rfl) rfl rfl hl.1 rfl (lv_room (Nat.le_of_ble_eq_true rfl)) d_X_find_27 ⟨Nat.le_of_ble_eq_true rfl, Nat.le_of_ble_eq_true rfl⟩) hP hD hS hA [14] [0, 1, 2, 3, 4, 5, 6, 7, 8, 9, 10, 11, 12, 13, 15, 16, 17] rfl rfl (by decide) (by decide) [0, 1, 2, 3, 4, 5, 6, 7, 8, 9, 10, 11, 12, 13, 17, 14, 15, 16] (by decide) rfl (fun H locs hP hD hS => ?_)
    refine lv_aload_n hx hb d_X_find_30 rfl (lv_at hl 0 rfl) ?_
    refine va_get (D := D) (ci := 0) (v := .ref aF) (C := RR_X) (T := FF_X) (N := 8) hx hb hts kin_X hown hK.1 hP 0 rfl rfl 5 (by decide) (hts _ k1_208) (fun _ h9 => h9) rfl d_X_find_31 ?_
    refine lv_iload_n hx hb d_X_find_34 rfl (lv_at hl 1 rfl) ?_
    obtain ⟨r4, hr4, hf⟩ := of_bd hf
    refine wr_call (ws' := (wv_91 cI cJ cZ aX aX_arities aT aT_heads aT_places aT_olders aT_sizes aT_withins aT_newest aS aS_premises aS_premiseCounts aS_conclusions aS_order aM aM_images aM_path aF aF_seen aF_waiting aE aH aH_statementRow aH_firstRow aH_secondRow X_namesUsed T_count nT_heads T_heads nT_places T_places nT_withins T_withins S_count S_premises S_premiseCounts S_conclusions M_images r4 F_match F_premise F_seen F_waiting r3.1 r3.2.1 r3.2.2 H_statementRow H_firstRow H_secondRow)) (va_runV (As := [.int p0]) (rest := []) ⟨hx, hb, hml, hown, hts⟩ (c_F_begin l D cI cJ cZ aT aM aF aF_seen aF_waiting _ F_shape F_match F_premise p0 r4 hr4) (bigV 1 hts k3_63 k3_64 k3_65 k1_6 k3_66 rfl rfl hd_F_begin ⟨Nat.le_of_ble_eq_true rfl, Nat.le_of_ble_eq_true rfl⟩) (wr_preV hK hP hD [11] rfl (by decide) rfl 11 rfl rfl rfl) rfl rfl hl.1 rfl (lv_room (Nat.le_of_ble_eq_true rfl)) d_X_find_35 ⟨Nat.le_of_ble_eq_true rfl, Nat.le_of_ble_eq_true rfl⟩) hP hD hS hA [11] [0, 1, 2, 3, 4, 5, 6, 7, 8, 9, 10, 12, 13, 14, 15, 16, 17] rfl rfl (by decide) (by decide) [0, 1, 2, 3, 4, 5, 6, 7, 8, 9, 10, 17, 11, 12, 13, 14, 15, 16] (by decide) rfl (fun H locs hP hD hS => ?_)
    refine lv_iconst (v := 0) hx hb d_X_find_38 (by decide) ?_
    refine lv_istore_n (lv' := [(2, .int (0 : Int32)), (0, .ref aX), (1, .int p0)]) hx hb d_X_find_39 rfl hl (by decide) rfl (fun ls hl => ?_)
    exact hL40 FU _ _ _ _ _ _ _ _ _ _ _ _ _ _ _ hP hD hS _ (lv_sub hl [1, 0] rfl) hf
  · have hf := ite_t c2 hf
    obtain rfl := Option.some.inj hf
    obtain ⟨sa5, hsa5⟩ := hSR (117, "no such term") (by decide)
    exact xthrow hx hb hst (names := ["java/lang/RuntimeException", "java/lang/Exception"]) hown (by decide) (by decide) hts k2_154 k1_13 k2_155 at_1 hsa5 hE (keepS hS hcS0 hnA) (hl.1.trans hml.symm) d_X_find_11 d_X_find_14 (Or.inl ⟨d_X_find_15, rfl⟩) d_X_find_17 d_X_find_20 hno (Nat.le_of_ble_eq_true rfl) (Nat.le_of_ble_eq_true rfl) (Nat.le_of_ble_eq_true rfl) (Nat.le_of_ble_eq_true rfl) hlocks (fun t h1 h2 => qt_of (Nat.succ_ne_zero 0) rfl (fun _ => 0) hP hD hS h1 h2) hS.2.2 (Nat.le_of_ble_eq_true rfl) (Nat.le_of_ble_eq_true rfl)
