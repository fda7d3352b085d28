abbrev b_Q_thrown : ByteArray := prog_9_method_2_code
abbrev y_Q_thrown : MethodName := ⟨"ShapeSearchModel", "thrown", "()I"⟩
abbrev ws_Q_thrown : List Cond := .code y_Q_thrown b_Q_thrown 1 (some .int) :: BG
theorem hd_Q_thrown : y_Q_thrown.cls ≠ "java/lang/invoke/MethodHandle" ∧ y_Q_thrown.cls ≠ "java/lang/invoke/VarHandle" ∧ (parseMethodDescriptor y_Q_thrown.desc).map (fun d => d.parameters.length) = some 0 := by decide +kernel
theorem d_Q_thrown_0 : decode b_Q_thrown 0 = .ok (.aload_n 0, 1) := by decide +kernel
theorem d_Q_thrown_1 : decode b_Q_thrown 1 = .ok (.getfield 115, 3) := by decide +kernel
theorem d_Q_thrown_4 : decode b_Q_thrown 4 = .ok (.ireturn, 1) := by decide +kernel
abbrev b_Q_refuses : ByteArray := prog_9_method_3_code
abbrev y_Q_refuses : MethodName := ⟨"ShapeSearchModel", "refuses", "(I)Z"⟩
abbrev ws_Q_refuses : List Cond := .code y_Q_refuses b_Q_refuses 2 (some .boolean) :: BG
theorem hd_Q_refuses : y_Q_refuses.cls ≠ "java/lang/invoke/MethodHandle" ∧ y_Q_refuses.cls ≠ "java/lang/invoke/VarHandle" ∧ (parseMethodDescriptor y_Q_refuses.desc).map (fun d => d.parameters.length) = some 1 := by decide +kernel
theorem d_Q_refuses_0 : decode b_Q_refuses 0 = .ok (.aload_n 0, 1) := by decide +kernel
theorem d_Q_refuses_1 : decode b_Q_refuses 1 = .ok (.iload_n 1, 1) := by decide +kernel
theorem d_Q_refuses_2 : decode b_Q_refuses 2 = .ok (.putfield 115, 3) := by decide +kernel
theorem d_Q_refuses_5 : decode b_Q_refuses 5 = .ok (.iload_n 1, 1) := by decide +kernel
theorem d_Q_refuses_6 : decode b_Q_refuses 6 = .ok (.ifCond .le 7, 3) := by decide +kernel
theorem d_Q_refuses_9 : decode b_Q_refuses 9 = .ok (.iconst 1, 1) := by decide +kernel
theorem d_Q_refuses_10 : decode b_Q_refuses 10 = .ok (.goto 4, 3) := by decide +kernel
theorem d_Q_refuses_13 : decode b_Q_refuses 13 = .ok (.iconst 0, 1) := by decide +kernel
theorem d_Q_refuses_14 : decode b_Q_refuses 14 = .ok (.ireturn, 1) := by decide +kernel
abbrev b_Q_isTerm : ByteArray := prog_9_method_4_code
abbrev y_Q_isTerm : MethodName := ⟨"ShapeSearchModel", "isTerm", "(I)Z"⟩
abbrev ws_Q_isTerm : List Cond := .code y_Q_isTerm b_Q_isTerm 2 (some .boolean) :: BG
theorem hd_Q_isTerm : y_Q_isTerm.cls ≠ "java/lang/invoke/MethodHandle" ∧ y_Q_isTerm.cls ≠ "java/lang/invoke/VarHandle" ∧ (parseMethodDescriptor y_Q_isTerm.desc).map (fun d => d.parameters.length) = some 1 := by decide +kernel
theorem d_Q_isTerm_0 : decode b_Q_isTerm 0 = .ok (.iload_n 1, 1) := by decide +kernel
theorem d_Q_isTerm_1 : decode b_Q_isTerm 1 = .ok (.ifCond .lt 15, 3) := by decide +kernel
theorem d_Q_isTerm_4 : decode b_Q_isTerm 4 = .ok (.iload_n 1, 1) := by decide +kernel
theorem d_Q_isTerm_5 : decode b_Q_isTerm 5 = .ok (.aload_n 0, 1) := by decide +kernel
theorem d_Q_isTerm_6 : decode b_Q_isTerm 6 = .ok (.getfield 118, 3) := by decide +kernel
theorem d_Q_isTerm_9 : decode b_Q_isTerm 9 = .ok (.if_icmp .ge 7, 3) := by decide +kernel
theorem d_Q_isTerm_12 : decode b_Q_isTerm 12 = .ok (.iconst 1, 1) := by decide +kernel
theorem d_Q_isTerm_13 : decode b_Q_isTerm 13 = .ok (.goto 4, 3) := by decide +kernel
theorem d_Q_isTerm_16 : decode b_Q_isTerm 16 = .ok (.iconst 0, 1) := by decide +kernel
theorem d_Q_isTerm_17 : decode b_Q_isTerm 17 = .ok (.ireturn, 1) := by decide +kernel
abbrev b_Q_headOf : ByteArray := prog_9_method_5_code
abbrev y_Q_headOf : MethodName := ⟨"ShapeSearchModel", "headOf", "(IIIII)I"⟩
abbrev ws_Q_headOf : List Cond := .code y_Q_headOf b_Q_headOf 5 (some .int) :: BG
theorem hd_Q_headOf : y_Q_headOf.cls ≠ "java/lang/invoke/MethodHandle" ∧ y_Q_headOf.cls ≠ "java/lang/invoke/VarHandle" ∧ (parseMethodDescriptor y_Q_headOf.desc).map (fun d => d.parameters.length) = some 5 := by decide +kernel
theorem d_Q_headOf_0 : decode b_Q_headOf 0 = .ok (.iload_n 0, 1) := by decide +kernel
theorem d_Q_headOf_1 : decode b_Q_headOf 1 = .ok (.iconst 3, 1) := by decide +kernel
theorem d_Q_headOf_2 : decode b_Q_headOf 2 = .ok (.iload_n 1, 1) := by decide +kernel
theorem d_Q_headOf_3 : decode b_Q_headOf 3 = .ok (.imul, 1) := by decide +kernel
theorem d_Q_headOf_4 : decode b_Q_headOf 4 = .ok (.iadd, 1) := by decide +kernel
theorem d_Q_headOf_5 : decode b_Q_headOf 5 = .ok (.bipush 97, 2) := by decide +kernel
theorem d_Q_headOf_7 : decode b_Q_headOf 7 = .ok (.iload_n 2, 1) := by decide +kernel
theorem d_Q_headOf_8 : decode b_Q_headOf 8 = .ok (.imul, 1) := by decide +kernel
theorem d_Q_headOf_9 : decode b_Q_headOf 9 = .ok (.iadd, 1) := by decide +kernel
theorem d_Q_headOf_10 : decode b_Q_headOf 10 = .ok (.sipush 1021, 3) := by decide +kernel
theorem d_Q_headOf_13 : decode b_Q_headOf 13 = .ok (.iload_n 3, 1) := by decide +kernel
theorem d_Q_headOf_14 : decode b_Q_headOf 14 = .ok (.imul, 1) := by decide +kernel
theorem d_Q_headOf_15 : decode b_Q_headOf 15 = .ok (.iadd, 1) := by decide +kernel
theorem d_Q_headOf_16 : decode b_Q_headOf 16 = .ok (.sipush 3571, 3) := by decide +kernel
theorem d_Q_headOf_19 : decode b_Q_headOf 19 = .ok (.iload 4, 2) := by decide +kernel
theorem d_Q_headOf_21 : decode b_Q_headOf 21 = .ok (.imul, 1) := by decide +kernel
theorem d_Q_headOf_22 : decode b_Q_headOf 22 = .ok (.iadd, 1) := by decide +kernel
theorem d_Q_headOf_23 : decode b_Q_headOf 23 = .ok (.sipush 4096, 3) := by decide +kernel
theorem d_Q_headOf_26 : decode b_Q_headOf 26 = .ok (.irem, 1) := by decide +kernel
theorem d_Q_headOf_27 : decode b_Q_headOf 27 = .ok (.sipush 4096, 3) := by decide +kernel
theorem d_Q_headOf_30 : decode b_Q_headOf 30 = .ok (.iadd, 1) := by decide +kernel
theorem d_Q_headOf_31 : decode b_Q_headOf 31 = .ok (.sipush 4095, 3) := by decide +kernel
theorem d_Q_headOf_34 : decode b_Q_headOf 34 = .ok (.iand, 1) := by decide +kernel
theorem d_Q_headOf_35 : decode b_Q_headOf 35 = .ok (.ireturn, 1) := by decide +kernel
abbrev b_Q_head : ByteArray := prog_9_method_6_code
abbrev y_Q_head : MethodName := ⟨"ShapeSearchModel", "head", "(I)I"⟩
abbrev ws_Q_head : List Cond := .code y_Q_head b_Q_head 2 (some .int) :: BG
theorem hd_Q_head : y_Q_head.cls ≠ "java/lang/invoke/MethodHandle" ∧ y_Q_head.cls ≠ "java/lang/invoke/VarHandle" ∧ (parseMethodDescriptor y_Q_head.desc).map (fun d => d.parameters.length) = some 1 := by decide +kernel
theorem d_Q_head_0 : decode b_Q_head 0 = .ok (.aload_n 0, 1) := by decide +kernel
theorem d_Q_head_1 : decode b_Q_head 1 = .ok (.getfield 8, 3) := by decide +kernel
theorem d_Q_head_4 : decode b_Q_head 4 = .ok (.iload_n 1, 1) := by decide +kernel
theorem d_Q_head_5 : decode b_Q_head 5 = .ok (.iaload, 1) := by decide +kernel
theorem d_Q_head_6 : decode b_Q_head 6 = .ok (.aload_n 0, 1) := by decide +kernel
theorem d_Q_head_7 : decode b_Q_head 7 = .ok (.getfield 14, 3) := by decide +kernel
theorem d_Q_head_10 : decode b_Q_head 10 = .ok (.iload_n 1, 1) := by decide +kernel
theorem d_Q_head_11 : decode b_Q_head 11 = .ok (.iaload, 1) := by decide +kernel
theorem d_Q_head_12 : decode b_Q_head 12 = .ok (.aload_n 0, 1) := by decide +kernel
theorem d_Q_head_13 : decode b_Q_head 13 = .ok (.getfield 17, 3) := by decide +kernel
theorem d_Q_head_16 : decode b_Q_head 16 = .ok (.iload_n 1, 1) := by decide +kernel
theorem d_Q_head_17 : decode b_Q_head 17 = .ok (.iaload, 1) := by decide +kernel
theorem d_Q_head_18 : decode b_Q_head 18 = .ok (.aload_n 0, 1) := by decide +kernel
theorem d_Q_head_19 : decode b_Q_head 19 = .ok (.getfield 20, 3) := by decide +kernel
theorem d_Q_head_22 : decode b_Q_head 22 = .ok (.iload_n 1, 1) := by decide +kernel
theorem d_Q_head_23 : decode b_Q_head 23 = .ok (.iaload, 1) := by decide +kernel
theorem d_Q_head_24 : decode b_Q_head 24 = .ok (.aload_n 0, 1) := by decide +kernel
theorem d_Q_head_25 : decode b_Q_head 25 = .ok (.getfield 23, 3) := by decide +kernel
theorem d_Q_head_28 : decode b_Q_head 28 = .ok (.iload_n 1, 1) := by decide +kernel
theorem d_Q_head_29 : decode b_Q_head 29 = .ok (.iaload, 1) := by decide +kernel
theorem d_Q_head_30 : decode b_Q_head 30 = .ok (.invokestatic 121, 3) := by decide +kernel
theorem d_Q_head_33 : decode b_Q_head 33 = .ok (.ireturn, 1) := by decide +kernel
abbrev b_Q_part : ByteArray := prog_9_method_8_code
abbrev y_Q_part : MethodName := ⟨"ShapeSearchModel", "part", "(II)I"⟩
abbrev ws_Q_part : List Cond := .code y_Q_part b_Q_part 3 (some .int) :: BG
theorem hd_Q_part : y_Q_part.cls ≠ "java/lang/invoke/MethodHandle" ∧ y_Q_part.cls ≠ "java/lang/invoke/VarHandle" ∧ (parseMethodDescriptor y_Q_part.desc).map (fun d => d.parameters.length) = some 2 := by decide +kernel
theorem d_Q_part_0 : decode b_Q_part 0 = .ok (.iload_n 2, 1) := by decide +kernel
theorem d_Q_part_1 : decode b_Q_part 1 = .ok (.ifCond .ne 12, 3) := by decide +kernel
theorem d_Q_part_4 : decode b_Q_part 4 = .ok (.aload_n 0, 1) := by decide +kernel
theorem d_Q_part_5 : decode b_Q_part 5 = .ok (.getfield 17, 3) := by decide +kernel
theorem d_Q_part_8 : decode b_Q_part 8 = .ok (.iload_n 1, 1) := by decide +kernel
theorem d_Q_part_9 : decode b_Q_part 9 = .ok (.iaload, 1) := by decide +kernel
theorem d_Q_part_10 : decode b_Q_part 10 = .ok (.goto 23, 3) := by decide +kernel
theorem d_Q_part_13 : decode b_Q_part 13 = .ok (.iload_n 2, 1) := by decide +kernel
theorem d_Q_part_14 : decode b_Q_part 14 = .ok (.iconst 1, 1) := by decide +kernel
theorem d_Q_part_15 : decode b_Q_part 15 = .ok (.if_icmp .ne 12, 3) := by decide +kernel
theorem d_Q_part_18 : decode b_Q_part 18 = .ok (.aload_n 0, 1) := by decide +kernel
theorem d_Q_part_19 : decode b_Q_part 19 = .ok (.getfield 20, 3) := by decide +kernel
theorem d_Q_part_22 : decode b_Q_part 22 = .ok (.iload_n 1, 1) := by decide +kernel
theorem d_Q_part_23 : decode b_Q_part 23 = .ok (.iaload, 1) := by decide +kernel
theorem d_Q_part_24 : decode b_Q_part 24 = .ok (.goto 9, 3) := by decide +kernel
theorem d_Q_part_27 : decode b_Q_part 27 = .ok (.aload_n 0, 1) := by decide +kernel
theorem d_Q_part_28 : decode b_Q_part 28 = .ok (.getfield 23, 3) := by decide +kernel
theorem d_Q_part_31 : decode b_Q_part 31 = .ok (.iload_n 1, 1) := by decide +kernel
theorem d_Q_part_32 : decode b_Q_part 32 = .ok (.iaload, 1) := by decide +kernel
theorem d_Q_part_33 : decode b_Q_part 33 = .ok (.ireturn, 1) := by decide +kernel
abbrev b_Q_tell : ByteArray := prog_9_method_9_code
abbrev y_Q_tell : MethodName := ⟨"ShapeSearchModel", "tell", "(I)V"⟩
abbrev ws_Q_tell : List Cond := .code y_Q_tell b_Q_tell 4 (none : Option Jvm.ClassFile.FieldType) :: BG
theorem hd_Q_tell : y_Q_tell.cls ≠ "java/lang/invoke/MethodHandle" ∧ y_Q_tell.cls ≠ "java/lang/invoke/VarHandle" ∧ (parseMethodDescriptor y_Q_tell.desc).map (fun d => d.parameters.length) = some 1 := by decide +kernel
theorem d_Q_tell_0 : decode b_Q_tell 0 = .ok (.aload_n 0, 1) := by decide +kernel
theorem d_Q_tell_1 : decode b_Q_tell 1 = .ok (.getfield 32, 3) := by decide +kernel
theorem d_Q_tell_4 : decode b_Q_tell 4 = .ok (.iload_n 1, 1) := by decide +kernel
theorem d_Q_tell_5 : decode b_Q_tell 5 = .ok (.aload_n 0, 1) := by decide +kernel
theorem d_Q_tell_6 : decode b_Q_tell 6 = .ok (.getfield 8, 3) := by decide +kernel
theorem d_Q_tell_9 : decode b_Q_tell 9 = .ok (.iload_n 1, 1) := by decide +kernel
theorem d_Q_tell_10 : decode b_Q_tell 10 = .ok (.iaload, 1) := by decide +kernel
theorem d_Q_tell_11 : decode b_Q_tell 11 = .ok (.ifCond .ne 14, 3) := by decide +kernel
theorem d_Q_tell_14 : decode b_Q_tell 14 = .ok (.iconst 1, 1) := by decide +kernel
theorem d_Q_tell_15 : decode b_Q_tell 15 = .ok (.aload_n 0, 1) := by decide +kernel
theorem d_Q_tell_16 : decode b_Q_tell 16 = .ok (.getfield 14, 3) := by decide +kernel
theorem d_Q_tell_19 : decode b_Q_tell 19 = .ok (.iload_n 1, 1) := by decide +kernel
theorem d_Q_tell_20 : decode b_Q_tell 20 = .ok (.iaload, 1) := by decide +kernel
theorem d_Q_tell_21 : decode b_Q_tell 21 = .ok (.ishl, 1) := by decide +kernel
theorem d_Q_tell_22 : decode b_Q_tell 22 = .ok (.goto 4, 3) := by decide +kernel
theorem d_Q_tell_25 : decode b_Q_tell 25 = .ok (.iconst 0, 1) := by decide +kernel
theorem d_Q_tell_26 : decode b_Q_tell 26 = .ok (.iastore, 1) := by decide +kernel
theorem d_Q_tell_27 : decode b_Q_tell 27 = .ok (.aload_n 0, 1) := by decide +kernel
theorem d_Q_tell_28 : decode b_Q_tell 28 = .ok (.getfield 35, 3) := by decide +kernel
theorem d_Q_tell_31 : decode b_Q_tell 31 = .ok (.iload_n 1, 1) := by decide +kernel
theorem d_Q_tell_32 : decode b_Q_tell 32 = .ok (.aload_n 0, 1) := by decide +kernel
theorem d_Q_tell_33 : decode b_Q_tell 33 = .ok (.getfield 8, 3) := by decide +kernel
theorem d_Q_tell_36 : decode b_Q_tell 36 = .ok (.iload_n 1, 1) := by decide +kernel
theorem d_Q_tell_37 : decode b_Q_tell 37 = .ok (.iaload, 1) := by decide +kernel
theorem d_Q_tell_38 : decode b_Q_tell 38 = .ok (.iconst 1, 1) := by decide +kernel
theorem d_Q_tell_39 : decode b_Q_tell 39 = .ok (.if_icmp .ne 14, 3) := by decide +kernel
theorem d_Q_tell_42 : decode b_Q_tell 42 = .ok (.iconst 1, 1) := by decide +kernel
theorem d_Q_tell_43 : decode b_Q_tell 43 = .ok (.aload_n 0, 1) := by decide +kernel
theorem d_Q_tell_44 : decode b_Q_tell 44 = .ok (.getfield 14, 3) := by decide +kernel
theorem d_Q_tell_47 : decode b_Q_tell 47 = .ok (.iload_n 1, 1) := by decide +kernel
theorem d_Q_tell_48 : decode b_Q_tell 48 = .ok (.iaload, 1) := by decide +kernel
theorem d_Q_tell_49 : decode b_Q_tell 49 = .ok (.ishl, 1) := by decide +kernel
theorem d_Q_tell_50 : decode b_Q_tell 50 = .ok (.goto 4, 3) := by decide +kernel
theorem d_Q_tell_53 : decode b_Q_tell 53 = .ok (.iconst 0, 1) := by decide +kernel
theorem d_Q_tell_54 : decode b_Q_tell 54 = .ok (.iastore, 1) := by decide +kernel
theorem d_Q_tell_55 : decode b_Q_tell 55 = .ok (.aload_n 0, 1) := by decide +kernel
theorem d_Q_tell_56 : decode b_Q_tell 56 = .ok (.getfield 38, 3) := by decide +kernel
theorem d_Q_tell_59 : decode b_Q_tell 59 = .ok (.iload_n 1, 1) := by decide +kernel
theorem d_Q_tell_60 : decode b_Q_tell 60 = .ok (.aload_n 0, 1) := by decide +kernel
theorem d_Q_tell_61 : decode b_Q_tell 61 = .ok (.getfield 8, 3) := by decide +kernel
theorem d_Q_tell_64 : decode b_Q_tell 64 = .ok (.iload_n 1, 1) := by decide +kernel
theorem d_Q_tell_65 : decode b_Q_tell 65 = .ok (.iaload, 1) := by decide +kernel
theorem d_Q_tell_66 : decode b_Q_tell 66 = .ok (.iconst 2, 1) := by decide +kernel
theorem d_Q_tell_67 : decode b_Q_tell 67 = .ok (.if_icmp .ne 14, 3) := by decide +kernel
theorem d_Q_tell_70 : decode b_Q_tell 70 = .ok (.iconst 1, 1) := by decide +kernel
theorem d_Q_tell_71 : decode b_Q_tell 71 = .ok (.aload_n 0, 1) := by decide +kernel
theorem d_Q_tell_72 : decode b_Q_tell 72 = .ok (.getfield 14, 3) := by decide +kernel
theorem d_Q_tell_75 : decode b_Q_tell 75 = .ok (.iload_n 1, 1) := by decide +kernel
theorem d_Q_tell_76 : decode b_Q_tell 76 = .ok (.iaload, 1) := by decide +kernel
theorem d_Q_tell_77 : decode b_Q_tell 77 = .ok (.ishl, 1) := by decide +kernel
theorem d_Q_tell_78 : decode b_Q_tell 78 = .ok (.goto 4, 3) := by decide +kernel
theorem d_Q_tell_81 : decode b_Q_tell 81 = .ok (.iconst 0, 1) := by decide +kernel
theorem d_Q_tell_82 : decode b_Q_tell 82 = .ok (.iastore, 1) := by decide +kernel
theorem d_Q_tell_83 : decode b_Q_tell 83 = .ok (.aload_n 0, 1) := by decide +kernel
theorem d_Q_tell_84 : decode b_Q_tell 84 = .ok (.getfield 41, 3) := by decide +kernel
theorem d_Q_tell_87 : decode b_Q_tell 87 = .ok (.iload_n 1, 1) := by decide +kernel
theorem d_Q_tell_88 : decode b_Q_tell 88 = .ok (.iconst 1, 1) := by decide +kernel
theorem d_Q_tell_89 : decode b_Q_tell 89 = .ok (.iastore, 1) := by decide +kernel
theorem d_Q_tell_90 : decode b_Q_tell 90 = .ok (.iconst 0, 1) := by decide +kernel
theorem d_Q_tell_91 : decode b_Q_tell 91 = .ok (.istore_n 2, 1) := by decide +kernel
theorem d_Q_tell_92 : decode b_Q_tell 92 = .ok (.iload_n 2, 1) := by decide +kernel
theorem d_Q_tell_93 : decode b_Q_tell 93 = .ok (.iconst 3, 1) := by decide +kernel
theorem d_Q_tell_94 : decode b_Q_tell 94 = .ok (.if_icmp .ge 111, 3) := by decide +kernel
theorem d_Q_tell_97 : decode b_Q_tell 97 = .ok (.aload_n 0, 1) := by decide +kernel
theorem d_Q_tell_98 : decode b_Q_tell 98 = .ok (.iload_n 1, 1) := by decide +kernel
theorem d_Q_tell_99 : decode b_Q_tell 99 = .ok (.iload_n 2, 1) := by decide +kernel
theorem d_Q_tell_100 : decode b_Q_tell 100 = .ok (.invokevirtual 129, 3) := by decide +kernel
theorem d_Q_tell_103 : decode b_Q_tell 103 = .ok (.istore_n 3, 1) := by decide +kernel
theorem d_Q_tell_104 : decode b_Q_tell 104 = .ok (.iload_n 3, 1) := by decide +kernel
theorem d_Q_tell_105 : decode b_Q_tell 105 = .ok (.iconst (-1), 1) := by decide +kernel
theorem d_Q_tell_106 : decode b_Q_tell 106 = .ok (.if_icmp .ne 6, 3) := by decide +kernel
theorem d_Q_tell_109 : decode b_Q_tell 109 = .ok (.goto 90, 3) := by decide +kernel
theorem d_Q_tell_112 : decode b_Q_tell 112 = .ok (.aload_n 0, 1) := by decide +kernel
theorem d_Q_tell_113 : decode b_Q_tell 113 = .ok (.getfield 32, 3) := by decide +kernel
theorem d_Q_tell_116 : decode b_Q_tell 116 = .ok (.iload_n 1, 1) := by decide +kernel
theorem d_Q_tell_117 : decode b_Q_tell 117 = .ok (.dup2, 1) := by decide +kernel
theorem d_Q_tell_118 : decode b_Q_tell 118 = .ok (.iaload, 1) := by decide +kernel
theorem d_Q_tell_119 : decode b_Q_tell 119 = .ok (.aload_n 0, 1) := by decide +kernel
theorem d_Q_tell_120 : decode b_Q_tell 120 = .ok (.getfield 32, 3) := by decide +kernel
theorem d_Q_tell_123 : decode b_Q_tell 123 = .ok (.iload_n 3, 1) := by decide +kernel
theorem d_Q_tell_124 : decode b_Q_tell 124 = .ok (.iaload, 1) := by decide +kernel
theorem d_Q_tell_125 : decode b_Q_tell 125 = .ok (.ior, 1) := by decide +kernel
theorem d_Q_tell_126 : decode b_Q_tell 126 = .ok (.iastore, 1) := by decide +kernel
theorem d_Q_tell_127 : decode b_Q_tell 127 = .ok (.aload_n 0, 1) := by decide +kernel
theorem d_Q_tell_128 : decode b_Q_tell 128 = .ok (.getfield 35, 3) := by decide +kernel
theorem d_Q_tell_131 : decode b_Q_tell 131 = .ok (.iload_n 1, 1) := by decide +kernel
theorem d_Q_tell_132 : decode b_Q_tell 132 = .ok (.dup2, 1) := by decide +kernel
theorem d_Q_tell_133 : decode b_Q_tell 133 = .ok (.iaload, 1) := by decide +kernel
theorem d_Q_tell_134 : decode b_Q_tell 134 = .ok (.aload_n 0, 1) := by decide +kernel
theorem d_Q_tell_135 : decode b_Q_tell 135 = .ok (.getfield 35, 3) := by decide +kernel
theorem d_Q_tell_138 : decode b_Q_tell 138 = .ok (.iload_n 3, 1) := by decide +kernel
theorem d_Q_tell_139 : decode b_Q_tell 139 = .ok (.iaload, 1) := by decide +kernel
theorem d_Q_tell_140 : decode b_Q_tell 140 = .ok (.ior, 1) := by decide +kernel
theorem d_Q_tell_141 : decode b_Q_tell 141 = .ok (.iastore, 1) := by decide +kernel
theorem d_Q_tell_142 : decode b_Q_tell 142 = .ok (.aload_n 0, 1) := by decide +kernel
theorem d_Q_tell_143 : decode b_Q_tell 143 = .ok (.getfield 38, 3) := by decide +kernel
theorem d_Q_tell_146 : decode b_Q_tell 146 = .ok (.iload_n 1, 1) := by decide +kernel
theorem d_Q_tell_147 : decode b_Q_tell 147 = .ok (.dup2, 1) := by decide +kernel
theorem d_Q_tell_148 : decode b_Q_tell 148 = .ok (.iaload, 1) := by decide +kernel
theorem d_Q_tell_149 : decode b_Q_tell 149 = .ok (.aload_n 0, 1) := by decide +kernel
theorem d_Q_tell_150 : decode b_Q_tell 150 = .ok (.getfield 38, 3) := by decide +kernel
theorem d_Q_tell_153 : decode b_Q_tell 153 = .ok (.iload_n 3, 1) := by decide +kernel
theorem d_Q_tell_154 : decode b_Q_tell 154 = .ok (.iaload, 1) := by decide +kernel
theorem d_Q_tell_155 : decode b_Q_tell 155 = .ok (.ior, 1) := by decide +kernel
theorem d_Q_tell_156 : decode b_Q_tell 156 = .ok (.iastore, 1) := by decide +kernel
theorem d_Q_tell_157 : decode b_Q_tell 157 = .ok (.aload_n 0, 1) := by decide +kernel
theorem d_Q_tell_158 : decode b_Q_tell 158 = .ok (.getfield 41, 3) := by decide +kernel
theorem d_Q_tell_161 : decode b_Q_tell 161 = .ok (.iload_n 1, 1) := by decide +kernel
theorem d_Q_tell_162 : decode b_Q_tell 162 = .ok (.aload_n 0, 1) := by decide +kernel
theorem d_Q_tell_163 : decode b_Q_tell 163 = .ok (.getfield 41, 3) := by decide +kernel
theorem d_Q_tell_166 : decode b_Q_tell 166 = .ok (.iload_n 1, 1) := by decide +kernel
theorem d_Q_tell_167 : decode b_Q_tell 167 = .ok (.iaload, 1) := by decide +kernel
theorem d_Q_tell_168 : decode b_Q_tell 168 = .ok (.aload_n 0, 1) := by decide +kernel
theorem d_Q_tell_169 : decode b_Q_tell 169 = .ok (.getfield 41, 3) := by decide +kernel
theorem d_Q_tell_172 : decode b_Q_tell 172 = .ok (.iload_n 3, 1) := by decide +kernel
theorem d_Q_tell_173 : decode b_Q_tell 173 = .ok (.iaload, 1) := by decide +kernel
theorem d_Q_tell_174 : decode b_Q_tell 174 = .ok (.iadd, 1) := by decide +kernel
theorem d_Q_tell_175 : decode b_Q_tell 175 = .ok (.ldc 133, 2) := by decide +kernel
theorem d_Q_tell_177 : decode b_Q_tell 177 = .ok (.if_icmp .le 8, 3) := by decide +kernel
theorem d_Q_tell_180 : decode b_Q_tell 180 = .ok (.ldc 133, 2) := by decide +kernel
theorem d_Q_tell_182 : decode b_Q_tell 182 = .ok (.goto 16, 3) := by decide +kernel
theorem d_Q_tell_185 : decode b_Q_tell 185 = .ok (.aload_n 0, 1) := by decide +kernel
theorem d_Q_tell_186 : decode b_Q_tell 186 = .ok (.getfield 41, 3) := by decide +kernel
theorem d_Q_tell_189 : decode b_Q_tell 189 = .ok (.iload_n 1, 1) := by decide +kernel
theorem d_Q_tell_190 : decode b_Q_tell 190 = .ok (.iaload, 1) := by decide +kernel
theorem d_Q_tell_191 : decode b_Q_tell 191 = .ok (.aload_n 0, 1) := by decide +kernel
theorem d_Q_tell_192 : decode b_Q_tell 192 = .ok (.getfield 41, 3) := by decide +kernel
theorem d_Q_tell_195 : decode b_Q_tell 195 = .ok (.iload_n 3, 1) := by decide +kernel
theorem d_Q_tell_196 : decode b_Q_tell 196 = .ok (.iaload, 1) := by decide +kernel
theorem d_Q_tell_197 : decode b_Q_tell 197 = .ok (.iadd, 1) := by decide +kernel
theorem d_Q_tell_198 : decode b_Q_tell 198 = .ok (.iastore, 1) := by decide +kernel
theorem d_Q_tell_199 : decode b_Q_tell 199 = .ok (.iinc 2 1, 3) := by decide +kernel
theorem d_Q_tell_202 : decode b_Q_tell 202 = .ok (.goto (-110), 3) := by decide +kernel
theorem d_Q_tell_205 : decode b_Q_tell 205 = .ok (.return_, 1) := by decide +kernel
abbrev b_Q_make : ByteArray := prog_9_method_7_code
abbrev y_Q_make : MethodName := ⟨"ShapeSearchModel", "make", "(IIIIII)I"⟩
abbrev ws_Q_make : List Cond := .code y_Q_make b_Q_make 9 (some .int) :: BG
theorem hd_Q_make : y_Q_make.cls ≠ "java/lang/invoke/MethodHandle" ∧ y_Q_make.cls ≠ "java/lang/invoke/VarHandle" ∧ (parseMethodDescriptor y_Q_make.desc).map (fun d => d.parameters.length) = some 6 := by decide +kernel
theorem d_Q_make_0 : decode b_Q_make 0 = .ok (.iload_n 1, 1) := by decide +kernel
theorem d_Q_make_1 : decode b_Q_make 1 = .ok (.iload_n 2, 1) := by decide +kernel
theorem d_Q_make_2 : decode b_Q_make 2 = .ok (.iload_n 3, 1) := by decide +kernel
theorem d_Q_make_3 : decode b_Q_make 3 = .ok (.iload 4, 2) := by decide +kernel
theorem d_Q_make_5 : decode b_Q_make 5 = .ok (.iload 5, 2) := by decide +kernel
theorem d_Q_make_7 : decode b_Q_make 7 = .ok (.invokestatic 121, 3) := by decide +kernel
theorem d_Q_make_10 : decode b_Q_make 10 = .ok (.istore 7, 2) := by decide +kernel
theorem d_Q_make_12 : decode b_Q_make 12 = .ok (.aload_n 0, 1) := by decide +kernel
theorem d_Q_make_13 : decode b_Q_make 13 = .ok (.getfield 29, 3) := by decide +kernel
theorem d_Q_make_16 : decode b_Q_make 16 = .ok (.iload 7, 2) := by decide +kernel
theorem d_Q_make_18 : decode b_Q_make 18 = .ok (.iaload, 1) := by decide +kernel
theorem d_Q_make_19 : decode b_Q_make 19 = .ok (.istore 8, 2) := by decide +kernel
theorem d_Q_make_21 : decode b_Q_make 21 = .ok (.iload 8, 2) := by decide +kernel
theorem d_Q_make_23 : decode b_Q_make 23 = .ok (.iconst (-1), 1) := by decide +kernel
theorem d_Q_make_24 : decode b_Q_make 24 = .ok (.if_icmp .eq 75, 3) := by decide +kernel
theorem d_Q_make_27 : decode b_Q_make 27 = .ok (.aload_n 0, 1) := by decide +kernel
theorem d_Q_make_28 : decode b_Q_make 28 = .ok (.getfield 8, 3) := by decide +kernel
theorem d_Q_make_31 : decode b_Q_make 31 = .ok (.iload 8, 2) := by decide +kernel
theorem d_Q_make_33 : decode b_Q_make 33 = .ok (.iaload, 1) := by decide +kernel
theorem d_Q_make_34 : decode b_Q_make 34 = .ok (.iload_n 1, 1) := by decide +kernel
theorem d_Q_make_35 : decode b_Q_make 35 = .ok (.if_icmp .ne 52, 3) := by decide +kernel
theorem d_Q_make_38 : decode b_Q_make 38 = .ok (.aload_n 0, 1) := by decide +kernel
theorem d_Q_make_39 : decode b_Q_make 39 = .ok (.getfield 14, 3) := by decide +kernel
theorem d_Q_make_42 : decode b_Q_make 42 = .ok (.iload 8, 2) := by decide +kernel
theorem d_Q_make_44 : decode b_Q_make 44 = .ok (.iaload, 1) := by decide +kernel
theorem d_Q_make_45 : decode b_Q_make 45 = .ok (.iload_n 2, 1) := by decide +kernel
theorem d_Q_make_46 : decode b_Q_make 46 = .ok (.if_icmp .ne 41, 3) := by decide +kernel
theorem d_Q_make_49 : decode b_Q_make 49 = .ok (.aload_n 0, 1) := by decide +kernel
theorem d_Q_make_50 : decode b_Q_make 50 = .ok (.getfield 17, 3) := by decide +kernel
theorem d_Q_make_53 : decode b_Q_make 53 = .ok (.iload 8, 2) := by decide +kernel
theorem d_Q_make_55 : decode b_Q_make 55 = .ok (.iaload, 1) := by decide +kernel
theorem d_Q_make_56 : decode b_Q_make 56 = .ok (.iload_n 3, 1) := by decide +kernel
theorem d_Q_make_57 : decode b_Q_make 57 = .ok (.if_icmp .ne 30, 3) := by decide +kernel
theorem d_Q_make_60 : decode b_Q_make 60 = .ok (.aload_n 0, 1) := by decide +kernel
theorem d_Q_make_61 : decode b_Q_make 61 = .ok (.getfield 20, 3) := by decide +kernel
theorem d_Q_make_64 : decode b_Q_make 64 = .ok (.iload 8, 2) := by decide +kernel
theorem d_Q_make_66 : decode b_Q_make 66 = .ok (.iaload, 1) := by decide +kernel
theorem d_Q_make_67 : decode b_Q_make 67 = .ok (.iload 4, 2) := by decide +kernel
theorem d_Q_make_69 : decode b_Q_make 69 = .ok (.if_icmp .ne 18, 3) := by decide +kernel
theorem d_Q_make_72 : decode b_Q_make 72 = .ok (.aload_n 0, 1) := by decide +kernel
theorem d_Q_make_73 : decode b_Q_make 73 = .ok (.getfield 23, 3) := by decide +kernel
theorem d_Q_make_76 : decode b_Q_make 76 = .ok (.iload 8, 2) := by decide +kernel
theorem d_Q_make_78 : decode b_Q_make 78 = .ok (.iaload, 1) := by decide +kernel
theorem d_Q_make_79 : decode b_Q_make 79 = .ok (.iload 5, 2) := by decide +kernel
theorem d_Q_make_81 : decode b_Q_make 81 = .ok (.if_icmp .ne 6, 3) := by decide +kernel
theorem d_Q_make_84 : decode b_Q_make 84 = .ok (.iload 8, 2) := by decide +kernel
theorem d_Q_make_86 : decode b_Q_make 86 = .ok (.ireturn, 1) := by decide +kernel
theorem d_Q_make_87 : decode b_Q_make 87 = .ok (.aload_n 0, 1) := by decide +kernel
theorem d_Q_make_88 : decode b_Q_make 88 = .ok (.getfield 26, 3) := by decide +kernel
theorem d_Q_make_91 : decode b_Q_make 91 = .ok (.iload 8, 2) := by decide +kernel
theorem d_Q_make_93 : decode b_Q_make 93 = .ok (.iaload, 1) := by decide +kernel
theorem d_Q_make_94 : decode b_Q_make 94 = .ok (.istore 8, 2) := by decide +kernel
theorem d_Q_make_96 : decode b_Q_make 96 = .ok (.goto (-75), 3) := by decide +kernel
theorem d_Q_make_99 : decode b_Q_make 99 = .ok (.aload_n 0, 1) := by decide +kernel
theorem d_Q_make_100 : decode b_Q_make 100 = .ok (.getfield 118, 3) := by decide +kernel
theorem d_Q_make_103 : decode b_Q_make 103 = .ok (.iload 6, 2) := by decide +kernel
theorem d_Q_make_105 : decode b_Q_make 105 = .ok (.if_icmp .ne 5, 3) := by decide +kernel
theorem d_Q_make_108 : decode b_Q_make 108 = .ok (.iconst (-1), 1) := by decide +kernel
theorem d_Q_make_109 : decode b_Q_make 109 = .ok (.ireturn, 1) := by decide +kernel
theorem d_Q_make_110 : decode b_Q_make 110 = .ok (.aload_n 0, 1) := by decide +kernel
theorem d_Q_make_111 : decode b_Q_make 111 = .ok (.getfield 8, 3) := by decide +kernel
theorem d_Q_make_114 : decode b_Q_make 114 = .ok (.aload_n 0, 1) := by decide +kernel
theorem d_Q_make_115 : decode b_Q_make 115 = .ok (.getfield 118, 3) := by decide +kernel
theorem d_Q_make_118 : decode b_Q_make 118 = .ok (.iload_n 1, 1) := by decide +kernel
theorem d_Q_make_119 : decode b_Q_make 119 = .ok (.iastore, 1) := by decide +kernel
theorem d_Q_make_120 : decode b_Q_make 120 = .ok (.aload_n 0, 1) := by decide +kernel
theorem d_Q_make_121 : decode b_Q_make 121 = .ok (.getfield 14, 3) := by decide +kernel
theorem d_Q_make_124 : decode b_Q_make 124 = .ok (.aload_n 0, 1) := by decide +kernel
theorem d_Q_make_125 : decode b_Q_make 125 = .ok (.getfield 118, 3) := by decide +kernel
theorem d_Q_make_128 : decode b_Q_make 128 = .ok (.iload_n 2, 1) := by decide +kernel
theorem d_Q_make_129 : decode b_Q_make 129 = .ok (.iastore, 1) := by decide +kernel
theorem d_Q_make_130 : decode b_Q_make 130 = .ok (.aload_n 0, 1) := by decide +kernel
theorem d_Q_make_131 : decode b_Q_make 131 = .ok (.getfield 17, 3) := by decide +kernel
theorem d_Q_make_134 : decode b_Q_make 134 = .ok (.aload_n 0, 1) := by decide +kernel
theorem d_Q_make_135 : decode b_Q_make 135 = .ok (.getfield 118, 3) := by decide +kernel
theorem d_Q_make_138 : decode b_Q_make 138 = .ok (.iload_n 3, 1) := by decide +kernel
theorem d_Q_make_139 : decode b_Q_make 139 = .ok (.iastore, 1) := by decide +kernel
theorem d_Q_make_140 : decode b_Q_make 140 = .ok (.aload_n 0, 1) := by decide +kernel
theorem d_Q_make_141 : decode b_Q_make 141 = .ok (.getfield 20, 3) := by decide +kernel
theorem d_Q_make_144 : decode b_Q_make 144 = .ok (.aload_n 0, 1) := by decide +kernel
theorem d_Q_make_145 : decode b_Q_make 145 = .ok (.getfield 118, 3) := by decide +kernel
theorem d_Q_make_148 : decode b_Q_make 148 = .ok (.iload 4, 2) := by decide +kernel
theorem d_Q_make_150 : decode b_Q_make 150 = .ok (.iastore, 1) := by decide +kernel
theorem d_Q_make_151 : decode b_Q_make 151 = .ok (.aload_n 0, 1) := by decide +kernel
theorem d_Q_make_152 : decode b_Q_make 152 = .ok (.getfield 23, 3) := by decide +kernel
theorem d_Q_make_155 : decode b_Q_make 155 = .ok (.aload_n 0, 1) := by decide +kernel
theorem d_Q_make_156 : decode b_Q_make 156 = .ok (.getfield 118, 3) := by decide +kernel
theorem d_Q_make_159 : decode b_Q_make 159 = .ok (.iload 5, 2) := by decide +kernel
theorem d_Q_make_161 : decode b_Q_make 161 = .ok (.iastore, 1) := by decide +kernel
theorem d_Q_make_162 : decode b_Q_make 162 = .ok (.aload_n 0, 1) := by decide +kernel
theorem d_Q_make_163 : decode b_Q_make 163 = .ok (.getfield 26, 3) := by decide +kernel
theorem d_Q_make_166 : decode b_Q_make 166 = .ok (.aload_n 0, 1) := by decide +kernel
theorem d_Q_make_167 : decode b_Q_make 167 = .ok (.getfield 118, 3) := by decide +kernel
theorem d_Q_make_170 : decode b_Q_make 170 = .ok (.aload_n 0, 1) := by decide +kernel
theorem d_Q_make_171 : decode b_Q_make 171 = .ok (.getfield 29, 3) := by decide +kernel
theorem d_Q_make_174 : decode b_Q_make 174 = .ok (.iload 7, 2) := by decide +kernel
theorem d_Q_make_176 : decode b_Q_make 176 = .ok (.iaload, 1) := by decide +kernel
theorem d_Q_make_177 : decode b_Q_make 177 = .ok (.iastore, 1) := by decide +kernel
theorem d_Q_make_178 : decode b_Q_make 178 = .ok (.aload_n 0, 1) := by decide +kernel
theorem d_Q_make_179 : decode b_Q_make 179 = .ok (.getfield 29, 3) := by decide +kernel
theorem d_Q_make_182 : decode b_Q_make 182 = .ok (.iload 7, 2) := by decide +kernel
theorem d_Q_make_184 : decode b_Q_make 184 = .ok (.aload_n 0, 1) := by decide +kernel
theorem d_Q_make_185 : decode b_Q_make 185 = .ok (.getfield 118, 3) := by decide +kernel
theorem d_Q_make_188 : decode b_Q_make 188 = .ok (.iastore, 1) := by decide +kernel
theorem d_Q_make_189 : decode b_Q_make 189 = .ok (.aload_n 0, 1) := by decide +kernel
theorem d_Q_make_190 : decode b_Q_make 190 = .ok (.getfield 118, 3) := by decide +kernel
theorem d_Q_make_193 : decode b_Q_make 193 = .ok (.bipush 100, 2) := by decide +kernel
theorem d_Q_make_195 : decode b_Q_make 195 = .ok (.if_icmp .ge 18, 3) := by decide +kernel
theorem d_Q_make_198 : decode b_Q_make 198 = .ok (.iload 6, 2) := by decide +kernel
theorem d_Q_make_200 : decode b_Q_make 200 = .ok (.bipush 100, 2) := by decide +kernel
theorem d_Q_make_202 : decode b_Q_make 202 = .ok (.if_icmp .ne 11, 3) := by decide +kernel
theorem d_Q_make_205 : decode b_Q_make 205 = .ok (.aload_n 0, 1) := by decide +kernel
theorem d_Q_make_206 : decode b_Q_make 206 = .ok (.aload_n 0, 1) := by decide +kernel
theorem d_Q_make_207 : decode b_Q_make 207 = .ok (.getfield 118, 3) := by decide +kernel
theorem d_Q_make_210 : decode b_Q_make 210 = .ok (.invokevirtual 125, 3) := by decide +kernel
theorem d_Q_make_213 : decode b_Q_make 213 = .ok (.aload_n 0, 1) := by decide +kernel
theorem d_Q_make_214 : decode b_Q_make 214 = .ok (.dup, 1) := by decide +kernel
theorem d_Q_make_215 : decode b_Q_make 215 = .ok (.getfield 118, 3) := by decide +kernel
theorem d_Q_make_218 : decode b_Q_make 218 = .ok (.iconst 1, 1) := by decide +kernel
theorem d_Q_make_219 : decode b_Q_make 219 = .ok (.iadd, 1) := by decide +kernel
theorem d_Q_make_220 : decode b_Q_make 220 = .ok (.putfield 118, 3) := by decide +kernel
theorem d_Q_make_223 : decode b_Q_make 223 = .ok (.aload_n 0, 1) := by decide +kernel
theorem d_Q_make_224 : decode b_Q_make 224 = .ok (.getfield 118, 3) := by decide +kernel
theorem d_Q_make_227 : decode b_Q_make 227 = .ok (.iconst 1, 1) := by decide +kernel
theorem d_Q_make_228 : decode b_Q_make 228 = .ok (.isub, 1) := by decide +kernel
theorem d_Q_make_229 : decode b_Q_make 229 = .ok (.ireturn, 1) := by decide +kernel
abbrev b_Q_made : ByteArray := prog_9_method_10_code
abbrev y_Q_made : MethodName := ⟨"ShapeSearchModel", "made", "(II)I"⟩
abbrev ws_Q_made : List Cond := .code y_Q_made b_Q_made 3 (some .int) :: BG
theorem hd_Q_made : y_Q_made.cls ≠ "java/lang/invoke/MethodHandle" ∧ y_Q_made.cls ≠ "java/lang/invoke/VarHandle" ∧ (parseMethodDescriptor y_Q_made.desc).map (fun d => d.parameters.length) = some 2 := by decide +kernel
theorem d_Q_made_0 : decode b_Q_made 0 = .ok (.aload_n 0, 1) := by decide +kernel
theorem d_Q_made_1 : decode b_Q_made 1 = .ok (.iload_n 1, 1) := by decide +kernel
theorem d_Q_made_2 : decode b_Q_made 2 = .ok (.iconst (-1), 1) := by decide +kernel
theorem d_Q_made_3 : decode b_Q_made 3 = .ok (.if_icmp .ne 7, 3) := by decide +kernel
theorem d_Q_made_6 : decode b_Q_made 6 = .ok (.iload_n 2, 1) := by decide +kernel
theorem d_Q_made_7 : decode b_Q_made 7 = .ok (.goto 4, 3) := by decide +kernel
theorem d_Q_made_10 : decode b_Q_made 10 = .ok (.iconst 0, 1) := by decide +kernel
theorem d_Q_made_11 : decode b_Q_made 11 = .ok (.putfield 115, 3) := by decide +kernel
theorem d_Q_made_14 : decode b_Q_made 14 = .ok (.iload_n 1, 1) := by decide +kernel
theorem d_Q_made_15 : decode b_Q_made 15 = .ok (.iconst (-1), 1) := by decide +kernel
theorem d_Q_made_16 : decode b_Q_made 16 = .ok (.if_icmp .ne 7, 3) := by decide +kernel
theorem d_Q_made_19 : decode b_Q_made 19 = .ok (.iconst 0, 1) := by decide +kernel
theorem d_Q_made_20 : decode b_Q_made 20 = .ok (.goto 4, 3) := by decide +kernel
theorem d_Q_made_23 : decode b_Q_made 23 = .ok (.iload_n 1, 1) := by decide +kernel
theorem d_Q_made_24 : decode b_Q_made 24 = .ok (.ireturn, 1) := by decide +kernel
abbrev b_Q_name : ByteArray := prog_9_method_11_code
abbrev y_Q_name : MethodName := ⟨"ShapeSearchModel", "name", "(IIII)I"⟩
abbrev ws_Q_name : List Cond := .code y_Q_name b_Q_name 8 (some .int) :: BG
theorem hd_Q_name : y_Q_name.cls ≠ "java/lang/invoke/MethodHandle" ∧ y_Q_name.cls ≠ "java/lang/invoke/VarHandle" ∧ (parseMethodDescriptor y_Q_name.desc).map (fun d => d.parameters.length) = some 4 := by decide +kernel
theorem d_Q_name_0 : decode b_Q_name 0 = .ok (.iload_n 2, 1) := by decide +kernel
theorem d_Q_name_1 : decode b_Q_name 1 = .ok (.iconst (-1), 1) := by decide +kernel
theorem d_Q_name_2 : decode b_Q_name 2 = .ok (.if_icmp .ne 7, 3) := by decide +kernel
theorem d_Q_name_5 : decode b_Q_name 5 = .ok (.iconst 0, 1) := by decide +kernel
theorem d_Q_name_6 : decode b_Q_name 6 = .ok (.goto 23, 3) := by decide +kernel
theorem d_Q_name_9 : decode b_Q_name 9 = .ok (.iload_n 3, 1) := by decide +kernel
theorem d_Q_name_10 : decode b_Q_name 10 = .ok (.iconst (-1), 1) := by decide +kernel
theorem d_Q_name_11 : decode b_Q_name 11 = .ok (.if_icmp .ne 7, 3) := by decide +kernel
theorem d_Q_name_14 : decode b_Q_name 14 = .ok (.iconst 1, 1) := by decide +kernel
theorem d_Q_name_15 : decode b_Q_name 15 = .ok (.goto 14, 3) := by decide +kernel
theorem d_Q_name_18 : decode b_Q_name 18 = .ok (.iload 4, 2) := by decide +kernel
theorem d_Q_name_20 : decode b_Q_name 20 = .ok (.iconst (-1), 1) := by decide +kernel
theorem d_Q_name_21 : decode b_Q_name 21 = .ok (.if_icmp .ne 7, 3) := by decide +kernel
theorem d_Q_name_24 : decode b_Q_name 24 = .ok (.iconst 2, 1) := by decide +kernel
theorem d_Q_name_25 : decode b_Q_name 25 = .ok (.goto 4, 3) := by decide +kernel
theorem d_Q_name_28 : decode b_Q_name 28 = .ok (.iconst 3, 1) := by decide +kernel
theorem d_Q_name_29 : decode b_Q_name 29 = .ok (.istore 5, 2) := by decide +kernel
theorem d_Q_name_31 : decode b_Q_name 31 = .ok (.iload_n 1, 1) := by decide +kernel
theorem d_Q_name_32 : decode b_Q_name 32 = .ok (.ifCond .lt 56, 3) := by decide +kernel
theorem d_Q_name_35 : decode b_Q_name 35 = .ok (.iload_n 1, 1) := by decide +kernel
theorem d_Q_name_36 : decode b_Q_name 36 = .ok (.bipush 30, 2) := by decide +kernel
theorem d_Q_name_38 : decode b_Q_name 38 = .ok (.if_icmp .ge 50, 3) := by decide +kernel
theorem d_Q_name_41 : decode b_Q_name 41 = .ok (.iload 5, 2) := by decide +kernel
theorem d_Q_name_43 : decode b_Q_name 43 = .ok (.iconst 1, 1) := by decide +kernel
theorem d_Q_name_44 : decode b_Q_name 44 = .ok (.if_icmp .lt 11, 3) := by decide +kernel
theorem d_Q_name_47 : decode b_Q_name 47 = .ok (.aload_n 0, 1) := by decide +kernel
theorem d_Q_name_48 : decode b_Q_name 48 = .ok (.iload_n 2, 1) := by decide +kernel
theorem d_Q_name_49 : decode b_Q_name 49 = .ok (.invokevirtual 134, 3) := by decide +kernel
theorem d_Q_name_52 : decode b_Q_name 52 = .ok (.ifCond .eq 36, 3) := by decide +kernel
theorem d_Q_name_55 : decode b_Q_name 55 = .ok (.iload 5, 2) := by decide +kernel
theorem d_Q_name_57 : decode b_Q_name 57 = .ok (.iconst 2, 1) := by decide +kernel
theorem d_Q_name_58 : decode b_Q_name 58 = .ok (.if_icmp .lt 11, 3) := by decide +kernel
theorem d_Q_name_61 : decode b_Q_name 61 = .ok (.aload_n 0, 1) := by decide +kernel
theorem d_Q_name_62 : decode b_Q_name 62 = .ok (.iload_n 3, 1) := by decide +kernel
theorem d_Q_name_63 : decode b_Q_name 63 = .ok (.invokevirtual 134, 3) := by decide +kernel
theorem d_Q_name_66 : decode b_Q_name 66 = .ok (.ifCond .eq 22, 3) := by decide +kernel
theorem d_Q_name_69 : decode b_Q_name 69 = .ok (.iload 5, 2) := by decide +kernel
theorem d_Q_name_71 : decode b_Q_name 71 = .ok (.iconst 3, 1) := by decide +kernel
theorem d_Q_name_72 : decode b_Q_name 72 = .ok (.if_icmp .lt 12, 3) := by decide +kernel
theorem d_Q_name_75 : decode b_Q_name 75 = .ok (.aload_n 0, 1) := by decide +kernel
theorem d_Q_name_76 : decode b_Q_name 76 = .ok (.iload 4, 2) := by decide +kernel
theorem d_Q_name_78 : decode b_Q_name 78 = .ok (.invokevirtual 134, 3) := by decide +kernel
theorem d_Q_name_81 : decode b_Q_name 81 = .ok (.ifCond .eq 7, 3) := by decide +kernel
theorem d_Q_name_84 : decode b_Q_name 84 = .ok (.iconst 1, 1) := by decide +kernel
theorem d_Q_name_85 : decode b_Q_name 85 = .ok (.goto 4, 3) := by decide +kernel
theorem d_Q_name_88 : decode b_Q_name 88 = .ok (.iconst 0, 1) := by decide +kernel
theorem d_Q_name_89 : decode b_Q_name 89 = .ok (.istore 6, 2) := by decide +kernel
theorem d_Q_name_91 : decode b_Q_name 91 = .ok (.aload_n 0, 1) := by decide +kernel
theorem d_Q_name_92 : decode b_Q_name 92 = .ok (.iload 6, 2) := by decide +kernel
theorem d_Q_name_94 : decode b_Q_name 94 = .ok (.ifCond .ne 7, 3) := by decide +kernel
theorem d_Q_name_97 : decode b_Q_name 97 = .ok (.iconst 1, 1) := by decide +kernel
theorem d_Q_name_98 : decode b_Q_name 98 = .ok (.goto 29, 3) := by decide +kernel
theorem d_Q_name_101 : decode b_Q_name 101 = .ok (.aload_n 0, 1) := by decide +kernel
theorem d_Q_name_102 : decode b_Q_name 102 = .ok (.getfield 44, 3) := by decide +kernel
theorem d_Q_name_105 : decode b_Q_name 105 = .ok (.iload_n 1, 1) := by decide +kernel
theorem d_Q_name_106 : decode b_Q_name 106 = .ok (.iaload, 1) := by decide +kernel
theorem d_Q_name_107 : decode b_Q_name 107 = .ok (.iconst (-1), 1) := by decide +kernel
theorem d_Q_name_108 : decode b_Q_name 108 = .ok (.if_icmp .eq 18, 3) := by decide +kernel
theorem d_Q_name_111 : decode b_Q_name 111 = .ok (.aload_n 0, 1) := by decide +kernel
theorem d_Q_name_112 : decode b_Q_name 112 = .ok (.getfield 44, 3) := by decide +kernel
theorem d_Q_name_115 : decode b_Q_name 115 = .ok (.iload_n 1, 1) := by decide +kernel
theorem d_Q_name_116 : decode b_Q_name 116 = .ok (.iaload, 1) := by decide +kernel
theorem d_Q_name_117 : decode b_Q_name 117 = .ok (.iload 5, 2) := by decide +kernel
theorem d_Q_name_119 : decode b_Q_name 119 = .ok (.if_icmp .eq 7, 3) := by decide +kernel
theorem d_Q_name_122 : decode b_Q_name 122 = .ok (.iconst 2, 1) := by decide +kernel
theorem d_Q_name_123 : decode b_Q_name 123 = .ok (.goto 4, 3) := by decide +kernel
theorem d_Q_name_126 : decode b_Q_name 126 = .ok (.iconst 0, 1) := by decide +kernel
theorem d_Q_name_127 : decode b_Q_name 127 = .ok (.invokevirtual 138, 3) := by decide +kernel
theorem d_Q_name_130 : decode b_Q_name 130 = .ok (.ifCond .eq 5, 3) := by decide +kernel
theorem d_Q_name_133 : decode b_Q_name 133 = .ok (.iconst 0, 1) := by decide +kernel
theorem d_Q_name_134 : decode b_Q_name 134 = .ok (.ireturn, 1) := by decide +kernel
theorem d_Q_name_135 : decode b_Q_name 135 = .ok (.aload_n 0, 1) := by decide +kernel
theorem d_Q_name_136 : decode b_Q_name 136 = .ok (.iconst 0, 1) := by decide +kernel
theorem d_Q_name_137 : decode b_Q_name 137 = .ok (.iload_n 1, 1) := by decide +kernel
theorem d_Q_name_138 : decode b_Q_name 138 = .ok (.iload 5, 2) := by decide +kernel
theorem d_Q_name_140 : decode b_Q_name 140 = .ok (.iconst 1, 1) := by decide +kernel
theorem d_Q_name_141 : decode b_Q_name 141 = .ok (.if_icmp .ge 7, 3) := by decide +kernel
theorem d_Q_name_144 : decode b_Q_name 144 = .ok (.iconst (-1), 1) := by decide +kernel
theorem d_Q_name_145 : decode b_Q_name 145 = .ok (.goto 4, 3) := by decide +kernel
theorem d_Q_name_148 : decode b_Q_name 148 = .ok (.iload_n 2, 1) := by decide +kernel
theorem d_Q_name_149 : decode b_Q_name 149 = .ok (.iload 5, 2) := by decide +kernel
theorem d_Q_name_151 : decode b_Q_name 151 = .ok (.iconst 2, 1) := by decide +kernel
theorem d_Q_name_152 : decode b_Q_name 152 = .ok (.if_icmp .ge 7, 3) := by decide +kernel
theorem d_Q_name_155 : decode b_Q_name 155 = .ok (.iconst (-1), 1) := by decide +kernel
theorem d_Q_name_156 : decode b_Q_name 156 = .ok (.goto 4, 3) := by decide +kernel
theorem d_Q_name_159 : decode b_Q_name 159 = .ok (.iload_n 3, 1) := by decide +kernel
theorem d_Q_name_160 : decode b_Q_name 160 = .ok (.iload 5, 2) := by decide +kernel
theorem d_Q_name_162 : decode b_Q_name 162 = .ok (.iconst 3, 1) := by decide +kernel
theorem d_Q_name_163 : decode b_Q_name 163 = .ok (.if_icmp .ge 7, 3) := by decide +kernel
theorem d_Q_name_166 : decode b_Q_name 166 = .ok (.iconst (-1), 1) := by decide +kernel
theorem d_Q_name_167 : decode b_Q_name 167 = .ok (.goto 5, 3) := by decide +kernel
theorem d_Q_name_170 : decode b_Q_name 170 = .ok (.iload 4, 2) := by decide +kernel
theorem d_Q_name_172 : decode b_Q_name 172 = .ok (.bipush 100, 2) := by decide +kernel
theorem d_Q_name_174 : decode b_Q_name 174 = .ok (.invokevirtual 141, 3) := by decide +kernel
theorem d_Q_name_177 : decode b_Q_name 177 = .ok (.istore 7, 2) := by decide +kernel
theorem d_Q_name_179 : decode b_Q_name 179 = .ok (.iload 7, 2) := by decide +kernel
theorem d_Q_name_181 : decode b_Q_name 181 = .ok (.iconst (-1), 1) := by decide +kernel
theorem d_Q_name_182 : decode b_Q_name 182 = .ok (.if_icmp .eq 11, 3) := by decide +kernel
theorem d_Q_name_185 : decode b_Q_name 185 = .ok (.aload_n 0, 1) := by decide +kernel
theorem d_Q_name_186 : decode b_Q_name 186 = .ok (.getfield 44, 3) := by decide +kernel
theorem d_Q_name_189 : decode b_Q_name 189 = .ok (.iload_n 1, 1) := by decide +kernel
theorem d_Q_name_190 : decode b_Q_name 190 = .ok (.iload 5, 2) := by decide +kernel
theorem d_Q_name_192 : decode b_Q_name 192 = .ok (.iastore, 1) := by decide +kernel
theorem d_Q_name_193 : decode b_Q_name 193 = .ok (.aload_n 0, 1) := by decide +kernel
theorem d_Q_name_194 : decode b_Q_name 194 = .ok (.iload 7, 2) := by decide +kernel
theorem d_Q_name_196 : decode b_Q_name 196 = .ok (.iconst 3, 1) := by decide +kernel
theorem d_Q_name_197 : decode b_Q_name 197 = .ok (.invokevirtual 145, 3) := by decide +kernel
theorem d_Q_name_200 : decode b_Q_name 200 = .ok (.ireturn, 1) := by decide +kernel
abbrev b_Q_leaf : ByteArray := prog_9_method_12_code
abbrev y_Q_leaf : MethodName := ⟨"ShapeSearchModel", "leaf", "(IZ)I"⟩
abbrev ws_Q_leaf : List Cond := .code y_Q_leaf b_Q_leaf 3 (some .int) :: BG
theorem hd_Q_leaf : y_Q_leaf.cls ≠ "java/lang/invoke/MethodHandle" ∧ y_Q_leaf.cls ≠ "java/lang/invoke/VarHandle" ∧ (parseMethodDescriptor y_Q_leaf.desc).map (fun d => d.parameters.length) = some 2 := by decide +kernel
theorem d_Q_leaf_0 : decode b_Q_leaf 0 = .ok (.aload_n 0, 1) := by decide +kernel
theorem d_Q_leaf_1 : decode b_Q_leaf 1 = .ok (.iload_n 1, 1) := by decide +kernel
theorem d_Q_leaf_2 : decode b_Q_leaf 2 = .ok (.ifCond .lt 17, 3) := by decide +kernel
theorem d_Q_leaf_5 : decode b_Q_leaf 5 = .ok (.iload_n 1, 1) := by decide +kernel
theorem d_Q_leaf_6 : decode b_Q_leaf 6 = .ok (.iload_n 2, 1) := by decide +kernel
theorem d_Q_leaf_7 : decode b_Q_leaf 7 = .ok (.ifCond .eq 7, 3) := by decide +kernel
theorem d_Q_leaf_10 : decode b_Q_leaf 10 = .ok (.iconst 4, 1) := by decide +kernel
theorem d_Q_leaf_11 : decode b_Q_leaf 11 = .ok (.goto 5, 3) := by decide +kernel
theorem d_Q_leaf_14 : decode b_Q_leaf 14 = .ok (.bipush 8, 2) := by decide +kernel
theorem d_Q_leaf_16 : decode b_Q_leaf 16 = .ok (.if_icmp .lt 7, 3) := by decide +kernel
theorem d_Q_leaf_19 : decode b_Q_leaf 19 = .ok (.iconst 1, 1) := by decide +kernel
theorem d_Q_leaf_20 : decode b_Q_leaf 20 = .ok (.goto 4, 3) := by decide +kernel
theorem d_Q_leaf_23 : decode b_Q_leaf 23 = .ok (.iconst 0, 1) := by decide +kernel
theorem d_Q_leaf_24 : decode b_Q_leaf 24 = .ok (.invokevirtual 138, 3) := by decide +kernel
theorem d_Q_leaf_27 : decode b_Q_leaf 27 = .ok (.ifCond .eq 5, 3) := by decide +kernel
theorem d_Q_leaf_30 : decode b_Q_leaf 30 = .ok (.iconst 0, 1) := by decide +kernel
theorem d_Q_leaf_31 : decode b_Q_leaf 31 = .ok (.ireturn, 1) := by decide +kernel
theorem d_Q_leaf_32 : decode b_Q_leaf 32 = .ok (.aload_n 0, 1) := by decide +kernel
theorem d_Q_leaf_33 : decode b_Q_leaf 33 = .ok (.aload_n 0, 1) := by decide +kernel
theorem d_Q_leaf_34 : decode b_Q_leaf 34 = .ok (.iload_n 2, 1) := by decide +kernel
theorem d_Q_leaf_35 : decode b_Q_leaf 35 = .ok (.ifCond .eq 7, 3) := by decide +kernel
theorem d_Q_leaf_38 : decode b_Q_leaf 38 = .ok (.iconst 2, 1) := by decide +kernel
theorem d_Q_leaf_39 : decode b_Q_leaf 39 = .ok (.goto 4, 3) := by decide +kernel
theorem d_Q_leaf_42 : decode b_Q_leaf 42 = .ok (.iconst 1, 1) := by decide +kernel
theorem d_Q_leaf_43 : decode b_Q_leaf 43 = .ok (.iload_n 1, 1) := by decide +kernel
theorem d_Q_leaf_44 : decode b_Q_leaf 44 = .ok (.iconst (-1), 1) := by decide +kernel
theorem d_Q_leaf_45 : decode b_Q_leaf 45 = .ok (.iconst (-1), 1) := by decide +kernel
theorem d_Q_leaf_46 : decode b_Q_leaf 46 = .ok (.iconst (-1), 1) := by decide +kernel
theorem d_Q_leaf_47 : decode b_Q_leaf 47 = .ok (.bipush 100, 2) := by decide +kernel
theorem d_Q_leaf_49 : decode b_Q_leaf 49 = .ok (.invokevirtual 141, 3) := by decide +kernel
theorem d_Q_leaf_52 : decode b_Q_leaf 52 = .ok (.iconst 2, 1) := by decide +kernel
theorem d_Q_leaf_53 : decode b_Q_leaf 53 = .ok (.invokevirtual 145, 3) := by decide +kernel
theorem d_Q_leaf_56 : decode b_Q_leaf 56 = .ok (.ireturn, 1) := by decide +kernel
abbrev b_Q_term : ByteArray := prog_9_method_13_code
abbrev y_Q_term : MethodName := ⟨"ShapeSearchModel", "term", "(II)I"⟩
abbrev ws_Q_term : List Cond := .code y_Q_term b_Q_term 3 (some .int) :: BG
theorem hd_Q_term : y_Q_term.cls ≠ "java/lang/invoke/MethodHandle" ∧ y_Q_term.cls ≠ "java/lang/invoke/VarHandle" ∧ (parseMethodDescriptor y_Q_term.desc).map (fun d => d.parameters.length) = some 2 := by decide +kernel
theorem d_Q_term_0 : decode b_Q_term 0 = .ok (.aload_n 0, 1) := by decide +kernel
theorem d_Q_term_1 : decode b_Q_term 1 = .ok (.iconst 0, 1) := by decide +kernel
theorem d_Q_term_2 : decode b_Q_term 2 = .ok (.putfield 115, 3) := by decide +kernel
theorem d_Q_term_5 : decode b_Q_term 5 = .ok (.aload_n 0, 1) := by decide +kernel
theorem d_Q_term_6 : decode b_Q_term 6 = .ok (.iload_n 1, 1) := by decide +kernel
theorem d_Q_term_7 : decode b_Q_term 7 = .ok (.invokevirtual 134, 3) := by decide +kernel
theorem d_Q_term_10 : decode b_Q_term 10 = .ok (.ifCond .ne 5, 3) := by decide +kernel
theorem d_Q_term_13 : decode b_Q_term 13 = .ok (.iconst (-1), 1) := by decide +kernel
theorem d_Q_term_14 : decode b_Q_term 14 = .ok (.ireturn, 1) := by decide +kernel
theorem d_Q_term_15 : decode b_Q_term 15 = .ok (.iload_n 2, 1) := by decide +kernel
theorem d_Q_term_16 : decode b_Q_term 16 = .ok (.tableswitch 70 0 5 #[40, 47, 54, 54, 54, 63], 40) := by decide +kernel
theorem d_Q_term_56 : decode b_Q_term 56 = .ok (.aload_n 0, 1) := by decide +kernel
theorem d_Q_term_57 : decode b_Q_term 57 = .ok (.getfield 8, 3) := by decide +kernel
theorem d_Q_term_60 : decode b_Q_term 60 = .ok (.iload_n 1, 1) := by decide +kernel
theorem d_Q_term_61 : decode b_Q_term 61 = .ok (.iaload, 1) := by decide +kernel
theorem d_Q_term_62 : decode b_Q_term 62 = .ok (.ireturn, 1) := by decide +kernel
theorem d_Q_term_63 : decode b_Q_term 63 = .ok (.aload_n 0, 1) := by decide +kernel
theorem d_Q_term_64 : decode b_Q_term 64 = .ok (.getfield 14, 3) := by decide +kernel
theorem d_Q_term_67 : decode b_Q_term 67 = .ok (.iload_n 1, 1) := by decide +kernel
theorem d_Q_term_68 : decode b_Q_term 68 = .ok (.iaload, 1) := by decide +kernel
theorem d_Q_term_69 : decode b_Q_term 69 = .ok (.ireturn, 1) := by decide +kernel
theorem d_Q_term_70 : decode b_Q_term 70 = .ok (.aload_n 0, 1) := by decide +kernel
theorem d_Q_term_71 : decode b_Q_term 71 = .ok (.iload_n 1, 1) := by decide +kernel
theorem d_Q_term_72 : decode b_Q_term 72 = .ok (.iload_n 2, 1) := by decide +kernel
theorem d_Q_term_73 : decode b_Q_term 73 = .ok (.iconst 2, 1) := by decide +kernel
theorem d_Q_term_74 : decode b_Q_term 74 = .ok (.isub, 1) := by decide +kernel
theorem d_Q_term_75 : decode b_Q_term 75 = .ok (.invokevirtual 129, 3) := by decide +kernel
theorem d_Q_term_78 : decode b_Q_term 78 = .ok (.ireturn, 1) := by decide +kernel
theorem d_Q_term_79 : decode b_Q_term 79 = .ok (.aload_n 0, 1) := by decide +kernel
theorem d_Q_term_80 : decode b_Q_term 80 = .ok (.getfield 41, 3) := by decide +kernel
theorem d_Q_term_83 : decode b_Q_term 83 = .ok (.iload_n 1, 1) := by decide +kernel
theorem d_Q_term_84 : decode b_Q_term 84 = .ok (.iaload, 1) := by decide +kernel
theorem d_Q_term_85 : decode b_Q_term 85 = .ok (.ireturn, 1) := by decide +kernel
theorem d_Q_term_86 : decode b_Q_term 86 = .ok (.iconst (-1), 1) := by decide +kernel
theorem d_Q_term_87 : decode b_Q_term 87 = .ok (.ireturn, 1) := by decide +kernel
abbrev b_Q_state : ByteArray := prog_9_method_14_code
abbrev y_Q_state : MethodName := ⟨"ShapeSearchModel", "state", "(IIIII)I"⟩
abbrev ws_Q_state : List Cond := .code y_Q_state b_Q_state 11 (some .int) :: BG
theorem hd_Q_state : y_Q_state.cls ≠ "java/lang/invoke/MethodHandle" ∧ y_Q_state.cls ≠ "java/lang/invoke/VarHandle" ∧ (parseMethodDescriptor y_Q_state.desc).map (fun d => d.parameters.length) = some 5 := by decide +kernel
theorem d_Q_state_0 : decode b_Q_state 0 = .ok (.iload_n 1, 1) := by decide +kernel
theorem d_Q_state_1 : decode b_Q_state 1 = .ok (.iconst (-1), 1) := by decide +kernel
theorem d_Q_state_2 : decode b_Q_state 2 = .ok (.if_icmp .ne 7, 3) := by decide +kernel
theorem d_Q_state_5 : decode b_Q_state 5 = .ok (.iconst 0, 1) := by decide +kernel
theorem d_Q_state_6 : decode b_Q_state 6 = .ok (.goto 32, 3) := by decide +kernel
theorem d_Q_state_9 : decode b_Q_state 9 = .ok (.iload_n 2, 1) := by decide +kernel
theorem d_Q_state_10 : decode b_Q_state 10 = .ok (.iconst (-1), 1) := by decide +kernel
theorem d_Q_state_11 : decode b_Q_state 11 = .ok (.if_icmp .ne 7, 3) := by decide +kernel
theorem d_Q_state_14 : decode b_Q_state 14 = .ok (.iconst 1, 1) := by decide +kernel
theorem d_Q_state_15 : decode b_Q_state 15 = .ok (.goto 23, 3) := by decide +kernel
theorem d_Q_state_18 : decode b_Q_state 18 = .ok (.iload_n 3, 1) := by decide +kernel
theorem d_Q_state_19 : decode b_Q_state 19 = .ok (.iconst (-1), 1) := by decide +kernel
theorem d_Q_state_20 : decode b_Q_state 20 = .ok (.if_icmp .ne 7, 3) := by decide +kernel
theorem d_Q_state_23 : decode b_Q_state 23 = .ok (.iconst 2, 1) := by decide +kernel
theorem d_Q_state_24 : decode b_Q_state 24 = .ok (.goto 14, 3) := by decide +kernel
theorem d_Q_state_27 : decode b_Q_state 27 = .ok (.iload 4, 2) := by decide +kernel
theorem d_Q_state_29 : decode b_Q_state 29 = .ok (.iconst (-1), 1) := by decide +kernel
theorem d_Q_state_30 : decode b_Q_state 30 = .ok (.if_icmp .ne 7, 3) := by decide +kernel
theorem d_Q_state_33 : decode b_Q_state 33 = .ok (.iconst 3, 1) := by decide +kernel
theorem d_Q_state_34 : decode b_Q_state 34 = .ok (.goto 4, 3) := by decide +kernel
theorem d_Q_state_37 : decode b_Q_state 37 = .ok (.iconst 4, 1) := by decide +kernel
theorem d_Q_state_38 : decode b_Q_state 38 = .ok (.istore 6, 2) := by decide +kernel
theorem d_Q_state_40 : decode b_Q_state 40 = .ok (.aload_n 0, 1) := by decide +kernel
theorem d_Q_state_41 : decode b_Q_state 41 = .ok (.iload 5, 2) := by decide +kernel
theorem d_Q_state_43 : decode b_Q_state 43 = .ok (.invokevirtual 134, 3) := by decide +kernel
theorem d_Q_state_46 : decode b_Q_state 46 = .ok (.istore 7, 2) := by decide +kernel
theorem d_Q_state_48 : decode b_Q_state 48 = .ok (.iload 7, 2) := by decide +kernel
theorem d_Q_state_50 : decode b_Q_state 50 = .ok (.ifCond .eq 17, 3) := by decide +kernel
theorem d_Q_state_53 : decode b_Q_state 53 = .ok (.aload_n 0, 1) := by decide +kernel
theorem d_Q_state_54 : decode b_Q_state 54 = .ok (.getfield 38, 3) := by decide +kernel
theorem d_Q_state_57 : decode b_Q_state 57 = .ok (.iload 5, 2) := by decide +kernel
theorem d_Q_state_59 : decode b_Q_state 59 = .ok (.iaload, 1) := by decide +kernel
theorem d_Q_state_60 : decode b_Q_state 60 = .ok (.ifCond .ne 7, 3) := by decide +kernel
theorem d_Q_state_63 : decode b_Q_state 63 = .ok (.iconst 1, 1) := by decide +kernel
theorem d_Q_state_64 : decode b_Q_state 64 = .ok (.goto 4, 3) := by decide +kernel
theorem d_Q_state_67 : decode b_Q_state 67 = .ok (.iconst 0, 1) := by decide +kernel
theorem d_Q_state_68 : decode b_Q_state 68 = .ok (.istore 8, 2) := by decide +kernel
theorem d_Q_state_70 : decode b_Q_state 70 = .ok (.iconst 0, 1) := by decide +kernel
theorem d_Q_state_71 : decode b_Q_state 71 = .ok (.istore 9, 2) := by decide +kernel
theorem d_Q_state_73 : decode b_Q_state 73 = .ok (.iload 9, 2) := by decide +kernel
theorem d_Q_state_75 : decode b_Q_state 75 = .ok (.iload 6, 2) := by decide +kernel
theorem d_Q_state_77 : decode b_Q_state 77 = .ok (.if_icmp .ge 90, 3) := by decide +kernel
theorem d_Q_state_80 : decode b_Q_state 80 = .ok (.iload 9, 2) := by decide +kernel
theorem d_Q_state_82 : decode b_Q_state 82 = .ok (.ifCond .ne 7, 3) := by decide +kernel
theorem d_Q_state_85 : decode b_Q_state 85 = .ok (.iload_n 1, 1) := by decide +kernel
theorem d_Q_state_86 : decode b_Q_state 86 = .ok (.goto 25, 3) := by decide +kernel
theorem d_Q_state_89 : decode b_Q_state 89 = .ok (.iload 9, 2) := by decide +kernel
theorem d_Q_state_91 : decode b_Q_state 91 = .ok (.iconst 1, 1) := by decide +kernel
theorem d_Q_state_92 : decode b_Q_state 92 = .ok (.if_icmp .ne 7, 3) := by decide +kernel
theorem d_Q_state_95 : decode b_Q_state 95 = .ok (.iload_n 2, 1) := by decide +kernel
theorem d_Q_state_96 : decode b_Q_state 96 = .ok (.goto 15, 3) := by decide +kernel
theorem d_Q_state_99 : decode b_Q_state 99 = .ok (.iload 9, 2) := by decide +kernel
theorem d_Q_state_101 : decode b_Q_state 101 = .ok (.iconst 2, 1) := by decide +kernel
theorem d_Q_state_102 : decode b_Q_state 102 = .ok (.if_icmp .ne 7, 3) := by decide +kernel
theorem d_Q_state_105 : decode b_Q_state 105 = .ok (.iload_n 3, 1) := by decide +kernel
theorem d_Q_state_106 : decode b_Q_state 106 = .ok (.goto 5, 3) := by decide +kernel
theorem d_Q_state_109 : decode b_Q_state 109 = .ok (.iload 4, 2) := by decide +kernel
theorem d_Q_state_111 : decode b_Q_state 111 = .ok (.istore 10, 2) := by decide +kernel
theorem d_Q_state_113 : decode b_Q_state 113 = .ok (.iload 7, 2) := by decide +kernel
theorem d_Q_state_115 : decode b_Q_state 115 = .ok (.ifCond .eq 16, 3) := by decide +kernel
theorem d_Q_state_118 : decode b_Q_state 118 = .ok (.aload_n 0, 1) := by decide +kernel
theorem d_Q_state_119 : decode b_Q_state 119 = .ok (.iload 10, 2) := by decide +kernel
theorem d_Q_state_121 : decode b_Q_state 121 = .ok (.invokevirtual 134, 3) := by decide +kernel
theorem d_Q_state_124 : decode b_Q_state 124 = .ok (.ifCond .eq 7, 3) := by decide +kernel
theorem d_Q_state_127 : decode b_Q_state 127 = .ok (.iconst 1, 1) := by decide +kernel
theorem d_Q_state_128 : decode b_Q_state 128 = .ok (.goto 4, 3) := by decide +kernel
theorem d_Q_state_131 : decode b_Q_state 131 = .ok (.iconst 0, 1) := by decide +kernel
theorem d_Q_state_132 : decode b_Q_state 132 = .ok (.istore 7, 2) := by decide +kernel
theorem d_Q_state_134 : decode b_Q_state 134 = .ok (.iload 8, 2) := by decide +kernel
theorem d_Q_state_136 : decode b_Q_state 136 = .ok (.ifCond .eq 22, 3) := by decide +kernel
theorem d_Q_state_139 : decode b_Q_state 139 = .ok (.iload 7, 2) := by decide +kernel
theorem d_Q_state_141 : decode b_Q_state 141 = .ok (.ifCond .eq 17, 3) := by decide +kernel
theorem d_Q_state_144 : decode b_Q_state 144 = .ok (.aload_n 0, 1) := by decide +kernel
theorem d_Q_state_145 : decode b_Q_state 145 = .ok (.getfield 38, 3) := by decide +kernel
theorem d_Q_state_148 : decode b_Q_state 148 = .ok (.iload 10, 2) := by decide +kernel
theorem d_Q_state_150 : decode b_Q_state 150 = .ok (.iaload, 1) := by decide +kernel
theorem d_Q_state_151 : decode b_Q_state 151 = .ok (.ifCond .ne 7, 3) := by decide +kernel
theorem d_Q_state_154 : decode b_Q_state 154 = .ok (.iconst 1, 1) := by decide +kernel
theorem d_Q_state_155 : decode b_Q_state 155 = .ok (.goto 4, 3) := by decide +kernel
theorem d_Q_state_158 : decode b_Q_state 158 = .ok (.iconst 0, 1) := by decide +kernel
theorem d_Q_state_159 : decode b_Q_state 159 = .ok (.istore 8, 2) := by decide +kernel
theorem d_Q_state_161 : decode b_Q_state 161 = .ok (.iinc 9 1, 3) := by decide +kernel
theorem d_Q_state_164 : decode b_Q_state 164 = .ok (.goto (-91), 3) := by decide +kernel
theorem d_Q_state_167 : decode b_Q_state 167 = .ok (.aload_n 0, 1) := by decide +kernel
theorem d_Q_state_168 : decode b_Q_state 168 = .ok (.iload 7, 2) := by decide +kernel
theorem d_Q_state_170 : decode b_Q_state 170 = .ok (.ifCond .ne 7, 3) := by decide +kernel
theorem d_Q_state_173 : decode b_Q_state 173 = .ok (.iconst 1, 1) := by decide +kernel
theorem d_Q_state_174 : decode b_Q_state 174 = .ok (.goto 26, 3) := by decide +kernel
theorem d_Q_state_177 : decode b_Q_state 177 = .ok (.iload 8, 2) := by decide +kernel
theorem d_Q_state_179 : decode b_Q_state 179 = .ok (.ifCond .ne 7, 3) := by decide +kernel
theorem d_Q_state_182 : decode b_Q_state 182 = .ok (.iconst 2, 1) := by decide +kernel
theorem d_Q_state_183 : decode b_Q_state 183 = .ok (.goto 17, 3) := by decide +kernel
theorem d_Q_state_186 : decode b_Q_state 186 = .ok (.aload_n 0, 1) := by decide +kernel
theorem d_Q_state_187 : decode b_Q_state 187 = .ok (.getfield 148, 3) := by decide +kernel
theorem d_Q_state_190 : decode b_Q_state 190 = .ok (.bipush 30, 2) := by decide +kernel
theorem d_Q_state_192 : decode b_Q_state 192 = .ok (.if_icmp .ne 7, 3) := by decide +kernel
theorem d_Q_state_195 : decode b_Q_state 195 = .ok (.iconst 3, 1) := by decide +kernel
theorem d_Q_state_196 : decode b_Q_state 196 = .ok (.goto 4, 3) := by decide +kernel
theorem d_Q_state_199 : decode b_Q_state 199 = .ok (.iconst 0, 1) := by decide +kernel
theorem d_Q_state_200 : decode b_Q_state 200 = .ok (.invokevirtual 138, 3) := by decide +kernel
theorem d_Q_state_203 : decode b_Q_state 203 = .ok (.ifCond .eq 5, 3) := by decide +kernel
theorem d_Q_state_206 : decode b_Q_state 206 = .ok (.iconst 0, 1) := by decide +kernel
theorem d_Q_state_207 : decode b_Q_state 207 = .ok (.ireturn, 1) := by decide +kernel
theorem d_Q_state_208 : decode b_Q_state 208 = .ok (.aload_n 0, 1) := by decide +kernel
theorem d_Q_state_209 : decode b_Q_state 209 = .ok (.getfield 47, 3) := by decide +kernel
theorem d_Q_state_212 : decode b_Q_state 212 = .ok (.aload_n 0, 1) := by decide +kernel
theorem d_Q_state_213 : decode b_Q_state 213 = .ok (.getfield 148, 3) := by decide +kernel
theorem d_Q_state_216 : decode b_Q_state 216 = .ok (.iload 5, 2) := by decide +kernel
theorem d_Q_state_218 : decode b_Q_state 218 = .ok (.iastore, 1) := by decide +kernel
theorem d_Q_state_219 : decode b_Q_state 219 = .ok (.aload_n 0, 1) := by decide +kernel
theorem d_Q_state_220 : decode b_Q_state 220 = .ok (.getfield 53, 3) := by decide +kernel
theorem d_Q_state_223 : decode b_Q_state 223 = .ok (.aload_n 0, 1) := by decide +kernel
theorem d_Q_state_224 : decode b_Q_state 224 = .ok (.getfield 148, 3) := by decide +kernel
theorem d_Q_state_227 : decode b_Q_state 227 = .ok (.iload 6, 2) := by decide +kernel
theorem d_Q_state_229 : decode b_Q_state 229 = .ok (.iastore, 1) := by decide +kernel
theorem d_Q_state_230 : decode b_Q_state 230 = .ok (.iconst 0, 1) := by decide +kernel
theorem d_Q_state_231 : decode b_Q_state 231 = .ok (.istore 9, 2) := by decide +kernel
theorem d_Q_state_233 : decode b_Q_state 233 = .ok (.iload 9, 2) := by decide +kernel
theorem d_Q_state_235 : decode b_Q_state 235 = .ok (.iload 6, 2) := by decide +kernel
theorem d_Q_state_237 : decode b_Q_state 237 = .ok (.if_icmp .ge 54, 3) := by decide +kernel
theorem d_Q_state_240 : decode b_Q_state 240 = .ok (.aload_n 0, 1) := by decide +kernel
theorem d_Q_state_241 : decode b_Q_state 241 = .ok (.getfield 50, 3) := by decide +kernel
theorem d_Q_state_244 : decode b_Q_state 244 = .ok (.iconst 4, 1) := by decide +kernel
theorem d_Q_state_245 : decode b_Q_state 245 = .ok (.aload_n 0, 1) := by decide +kernel
theorem d_Q_state_246 : decode b_Q_state 246 = .ok (.getfield 148, 3) := by decide +kernel
theorem d_Q_state_249 : decode b_Q_state 249 = .ok (.imul, 1) := by decide +kernel
theorem d_Q_state_250 : decode b_Q_state 250 = .ok (.iload 9, 2) := by decide +kernel
theorem d_Q_state_252 : decode b_Q_state 252 = .ok (.iadd, 1) := by decide +kernel
theorem d_Q_state_253 : decode b_Q_state 253 = .ok (.iload 9, 2) := by decide +kernel
theorem d_Q_state_255 : decode b_Q_state 255 = .ok (.ifCond .ne 7, 3) := by decide +kernel
theorem d_Q_state_258 : decode b_Q_state 258 = .ok (.iload_n 1, 1) := by decide +kernel
theorem d_Q_state_259 : decode b_Q_state 259 = .ok (.goto 25, 3) := by decide +kernel
theorem d_Q_state_262 : decode b_Q_state 262 = .ok (.iload 9, 2) := by decide +kernel
theorem d_Q_state_264 : decode b_Q_state 264 = .ok (.iconst 1, 1) := by decide +kernel
theorem d_Q_state_265 : decode b_Q_state 265 = .ok (.if_icmp .ne 7, 3) := by decide +kernel
theorem d_Q_state_268 : decode b_Q_state 268 = .ok (.iload_n 2, 1) := by decide +kernel
theorem d_Q_state_269 : decode b_Q_state 269 = .ok (.goto 15, 3) := by decide +kernel
theorem d_Q_state_272 : decode b_Q_state 272 = .ok (.iload 9, 2) := by decide +kernel
theorem d_Q_state_274 : decode b_Q_state 274 = .ok (.iconst 2, 1) := by decide +kernel
theorem d_Q_state_275 : decode b_Q_state 275 = .ok (.if_icmp .ne 7, 3) := by decide +kernel
theorem d_Q_state_278 : decode b_Q_state 278 = .ok (.iload_n 3, 1) := by decide +kernel
theorem d_Q_state_279 : decode b_Q_state 279 = .ok (.goto 5, 3) := by decide +kernel
theorem d_Q_state_282 : decode b_Q_state 282 = .ok (.iload 4, 2) := by decide +kernel
theorem d_Q_state_284 : decode b_Q_state 284 = .ok (.iastore, 1) := by decide +kernel
theorem d_Q_state_285 : decode b_Q_state 285 = .ok (.iinc 9 1, 3) := by decide +kernel
theorem d_Q_state_288 : decode b_Q_state 288 = .ok (.goto (-55), 3) := by decide +kernel
theorem d_Q_state_291 : decode b_Q_state 291 = .ok (.aload_n 0, 1) := by decide +kernel
theorem d_Q_state_292 : decode b_Q_state 292 = .ok (.dup, 1) := by decide +kernel
theorem d_Q_state_293 : decode b_Q_state 293 = .ok (.getfield 148, 3) := by decide +kernel
theorem d_Q_state_296 : decode b_Q_state 296 = .ok (.iconst 1, 1) := by decide +kernel
theorem d_Q_state_297 : decode b_Q_state 297 = .ok (.iadd, 1) := by decide +kernel
theorem d_Q_state_298 : decode b_Q_state 298 = .ok (.putfield 148, 3) := by decide +kernel
theorem d_Q_state_301 : decode b_Q_state 301 = .ok (.aload_n 0, 1) := by decide +kernel
theorem d_Q_state_302 : decode b_Q_state 302 = .ok (.iconst 0, 1) := by decide +kernel
theorem d_Q_state_303 : decode b_Q_state 303 = .ok (.putfield 151, 3) := by decide +kernel
theorem d_Q_state_306 : decode b_Q_state 306 = .ok (.aload_n 0, 1) := by decide +kernel
theorem d_Q_state_307 : decode b_Q_state 307 = .ok (.iconst 0, 1) := by decide +kernel
theorem d_Q_state_308 : decode b_Q_state 308 = .ok (.putfield 154, 3) := by decide +kernel
theorem d_Q_state_311 : decode b_Q_state 311 = .ok (.aload_n 0, 1) := by decide +kernel
theorem d_Q_state_312 : decode b_Q_state 312 = .ok (.getfield 148, 3) := by decide +kernel
theorem d_Q_state_315 : decode b_Q_state 315 = .ok (.iconst 1, 1) := by decide +kernel
theorem d_Q_state_316 : decode b_Q_state 316 = .ok (.isub, 1) := by decide +kernel
theorem d_Q_state_317 : decode b_Q_state 317 = .ok (.ireturn, 1) := by decide +kernel
abbrev b_Q_forget : ByteArray := prog_9_method_15_code
abbrev y_Q_forget : MethodName := ⟨"ShapeSearchModel", "forget", "()Z"⟩
abbrev ws_Q_forget : List Cond := .code y_Q_forget b_Q_forget 2 (some .boolean) :: BG
theorem hd_Q_forget : y_Q_forget.cls ≠ "java/lang/invoke/MethodHandle" ∧ y_Q_forget.cls ≠ "java/lang/invoke/VarHandle" ∧ (parseMethodDescriptor y_Q_forget.desc).map (fun d => d.parameters.length) = some 0 := by decide +kernel
theorem d_Q_forget_0 : decode b_Q_forget 0 = .ok (.aload_n 0, 1) := by decide +kernel
theorem d_Q_forget_1 : decode b_Q_forget 1 = .ok (.iconst 0, 1) := by decide +kernel
theorem d_Q_forget_2 : decode b_Q_forget 2 = .ok (.putfield 115, 3) := by decide +kernel
theorem d_Q_forget_5 : decode b_Q_forget 5 = .ok (.aload_n 0, 1) := by decide +kernel
theorem d_Q_forget_6 : decode b_Q_forget 6 = .ok (.getfield 148, 3) := by decide +kernel
theorem d_Q_forget_9 : decode b_Q_forget 9 = .ok (.ifCond .le 7, 3) := by decide +kernel
theorem d_Q_forget_12 : decode b_Q_forget 12 = .ok (.iconst 1, 1) := by decide +kernel
theorem d_Q_forget_13 : decode b_Q_forget 13 = .ok (.goto 4, 3) := by decide +kernel
theorem d_Q_forget_16 : decode b_Q_forget 16 = .ok (.iconst 0, 1) := by decide +kernel
theorem d_Q_forget_17 : decode b_Q_forget 17 = .ok (.istore_n 1, 1) := by decide +kernel
theorem d_Q_forget_18 : decode b_Q_forget 18 = .ok (.aload_n 0, 1) := by decide +kernel
theorem d_Q_forget_19 : decode b_Q_forget 19 = .ok (.dup, 1) := by decide +kernel
theorem d_Q_forget_20 : decode b_Q_forget 20 = .ok (.getfield 148, 3) := by decide +kernel
theorem d_Q_forget_23 : decode b_Q_forget 23 = .ok (.iload_n 1, 1) := by decide +kernel
theorem d_Q_forget_24 : decode b_Q_forget 24 = .ok (.ifCond .eq 7, 3) := by decide +kernel
theorem d_Q_forget_27 : decode b_Q_forget 27 = .ok (.iconst 1, 1) := by decide +kernel
theorem d_Q_forget_28 : decode b_Q_forget 28 = .ok (.goto 4, 3) := by decide +kernel
theorem d_Q_forget_31 : decode b_Q_forget 31 = .ok (.iconst 0, 1) := by decide +kernel
theorem d_Q_forget_32 : decode b_Q_forget 32 = .ok (.isub, 1) := by decide +kernel
theorem d_Q_forget_33 : decode b_Q_forget 33 = .ok (.putfield 148, 3) := by decide +kernel
theorem d_Q_forget_36 : decode b_Q_forget 36 = .ok (.aload_n 0, 1) := by decide +kernel
theorem d_Q_forget_37 : decode b_Q_forget 37 = .ok (.iconst 0, 1) := by decide +kernel
theorem d_Q_forget_38 : decode b_Q_forget 38 = .ok (.putfield 151, 3) := by decide +kernel
theorem d_Q_forget_41 : decode b_Q_forget 41 = .ok (.aload_n 0, 1) := by decide +kernel
theorem d_Q_forget_42 : decode b_Q_forget 42 = .ok (.iconst 0, 1) := by decide +kernel
theorem d_Q_forget_43 : decode b_Q_forget 43 = .ok (.putfield 154, 3) := by decide +kernel
theorem d_Q_forget_46 : decode b_Q_forget 46 = .ok (.iload_n 1, 1) := by decide +kernel
theorem d_Q_forget_47 : decode b_Q_forget 47 = .ok (.ireturn, 1) := by decide +kernel
abbrev b_Q_premise : ByteArray := prog_9_method_16_code
abbrev y_Q_premise : MethodName := ⟨"ShapeSearchModel", "premise", "(II)I"⟩
abbrev ws_Q_premise : List Cond := .code y_Q_premise b_Q_premise 3 (some .int) :: BG
theorem hd_Q_premise : y_Q_premise.cls ≠ "java/lang/invoke/MethodHandle" ∧ y_Q_premise.cls ≠ "java/lang/invoke/VarHandle" ∧ (parseMethodDescriptor y_Q_premise.desc).map (fun d => d.parameters.length) = some 2 := by decide +kernel
theorem d_Q_premise_0 : decode b_Q_premise 0 = .ok (.aload_n 0, 1) := by decide +kernel
theorem d_Q_premise_1 : decode b_Q_premise 1 = .ok (.getfield 50, 3) := by decide +kernel
theorem d_Q_premise_4 : decode b_Q_premise 4 = .ok (.iconst 4, 1) := by decide +kernel
theorem d_Q_premise_5 : decode b_Q_premise 5 = .ok (.iload_n 1, 1) := by decide +kernel
theorem d_Q_premise_6 : decode b_Q_premise 6 = .ok (.imul, 1) := by decide +kernel
theorem d_Q_premise_7 : decode b_Q_premise 7 = .ok (.iload_n 2, 1) := by decide +kernel
theorem d_Q_premise_8 : decode b_Q_premise 8 = .ok (.iadd, 1) := by decide +kernel
theorem d_Q_premise_9 : decode b_Q_premise 9 = .ok (.iaload, 1) := by decide +kernel
theorem d_Q_premise_10 : decode b_Q_premise 10 = .ok (.ireturn, 1) := by decide +kernel
abbrev b_Q_open : ByteArray := prog_9_method_17_code
abbrev y_Q_open : MethodName := ⟨"ShapeSearchModel", "open", "(I)I"⟩
abbrev ws_Q_open : List Cond := .code y_Q_open b_Q_open 4 (some .int) :: BG
theorem hd_Q_open : y_Q_open.cls ≠ "java/lang/invoke/MethodHandle" ∧ y_Q_open.cls ≠ "java/lang/invoke/VarHandle" ∧ (parseMethodDescriptor y_Q_open.desc).map (fun d => d.parameters.length) = some 1 := by decide +kernel
theorem d_Q_open_0 : decode b_Q_open 0 = .ok (.iconst 0, 1) := by decide +kernel
theorem d_Q_open_1 : decode b_Q_open 1 = .ok (.istore_n 2, 1) := by decide +kernel
theorem d_Q_open_2 : decode b_Q_open 2 = .ok (.iconst 0, 1) := by decide +kernel
theorem d_Q_open_3 : decode b_Q_open 3 = .ok (.istore_n 3, 1) := by decide +kernel
theorem d_Q_open_4 : decode b_Q_open 4 = .ok (.iload_n 3, 1) := by decide +kernel
theorem d_Q_open_5 : decode b_Q_open 5 = .ok (.aload_n 0, 1) := by decide +kernel
theorem d_Q_open_6 : decode b_Q_open 6 = .ok (.getfield 53, 3) := by decide +kernel
theorem d_Q_open_9 : decode b_Q_open 9 = .ok (.iload_n 1, 1) := by decide +kernel
theorem d_Q_open_10 : decode b_Q_open 10 = .ok (.iaload, 1) := by decide +kernel
theorem d_Q_open_11 : decode b_Q_open 11 = .ok (.if_icmp .ge 23, 3) := by decide +kernel
theorem d_Q_open_14 : decode b_Q_open 14 = .ok (.iload_n 2, 1) := by decide +kernel
theorem d_Q_open_15 : decode b_Q_open 15 = .ok (.aload_n 0, 1) := by decide +kernel
theorem d_Q_open_16 : decode b_Q_open 16 = .ok (.getfield 35, 3) := by decide +kernel
theorem d_Q_open_19 : decode b_Q_open 19 = .ok (.aload_n 0, 1) := by decide +kernel
theorem d_Q_open_20 : decode b_Q_open 20 = .ok (.iload_n 1, 1) := by decide +kernel
theorem d_Q_open_21 : decode b_Q_open 21 = .ok (.iload_n 3, 1) := by decide +kernel
theorem d_Q_open_22 : decode b_Q_open 22 = .ok (.invokevirtual 157, 3) := by decide +kernel
theorem d_Q_open_25 : decode b_Q_open 25 = .ok (.iaload, 1) := by decide +kernel
theorem d_Q_open_26 : decode b_Q_open 26 = .ok (.ior, 1) := by decide +kernel
theorem d_Q_open_27 : decode b_Q_open 27 = .ok (.istore_n 2, 1) := by decide +kernel
theorem d_Q_open_28 : decode b_Q_open 28 = .ok (.iinc 3 1, 3) := by decide +kernel
theorem d_Q_open_31 : decode b_Q_open 31 = .ok (.goto (-27), 3) := by decide +kernel
theorem d_Q_open_34 : decode b_Q_open 34 = .ok (.iload_n 2, 1) := by decide +kernel
theorem d_Q_open_35 : decode b_Q_open 35 = .ok (.aload_n 0, 1) := by decide +kernel
theorem d_Q_open_36 : decode b_Q_open 36 = .ok (.getfield 35, 3) := by decide +kernel
theorem d_Q_open_39 : decode b_Q_open 39 = .ok (.aload_n 0, 1) := by decide +kernel
theorem d_Q_open_40 : decode b_Q_open 40 = .ok (.getfield 47, 3) := by decide +kernel
theorem d_Q_open_43 : decode b_Q_open 43 = .ok (.iload_n 1, 1) := by decide +kernel
theorem d_Q_open_44 : decode b_Q_open 44 = .ok (.iaload, 1) := by decide +kernel
theorem d_Q_open_45 : decode b_Q_open 45 = .ok (.iaload, 1) := by decide +kernel
theorem d_Q_open_46 : decode b_Q_open 46 = .ok (.iconst (-1), 1) := by decide +kernel
theorem d_Q_open_47 : decode b_Q_open 47 = .ok (.ixor, 1) := by decide +kernel
theorem d_Q_open_48 : decode b_Q_open 48 = .ok (.iand, 1) := by decide +kernel
theorem d_Q_open_49 : decode b_Q_open 49 = .ok (.ireturn, 1) := by decide +kernel
abbrev b_Q_many : ByteArray := prog_9_method_18_code
abbrev y_Q_many : MethodName := ⟨"ShapeSearchModel", "many", "(I)I"⟩
abbrev ws_Q_many : List Cond := .code y_Q_many b_Q_many 3 (some .int) :: BG
theorem hd_Q_many : y_Q_many.cls ≠ "java/lang/invoke/MethodHandle" ∧ y_Q_many.cls ≠ "java/lang/invoke/VarHandle" ∧ (parseMethodDescriptor y_Q_many.desc).map (fun d => d.parameters.length) = some 1 := by decide +kernel
theorem d_Q_many_0 : decode b_Q_many 0 = .ok (.iconst 0, 1) := by decide +kernel
theorem d_Q_many_1 : decode b_Q_many 1 = .ok (.istore_n 1, 1) := by decide +kernel
theorem d_Q_many_2 : decode b_Q_many 2 = .ok (.iconst 0, 1) := by decide +kernel
theorem d_Q_many_3 : decode b_Q_many 3 = .ok (.istore_n 2, 1) := by decide +kernel
theorem d_Q_many_4 : decode b_Q_many 4 = .ok (.iload_n 2, 1) := by decide +kernel
theorem d_Q_many_5 : decode b_Q_many 5 = .ok (.bipush 30, 2) := by decide +kernel
theorem d_Q_many_7 : decode b_Q_many 7 = .ok (.if_icmp .ge 17, 3) := by decide +kernel
theorem d_Q_many_10 : decode b_Q_many 10 = .ok (.iload_n 1, 1) := by decide +kernel
theorem d_Q_many_11 : decode b_Q_many 11 = .ok (.iload_n 0, 1) := by decide +kernel
theorem d_Q_many_12 : decode b_Q_many 12 = .ok (.iload_n 2, 1) := by decide +kernel
theorem d_Q_many_13 : decode b_Q_many 13 = .ok (.ishr, 1) := by decide +kernel
theorem d_Q_many_14 : decode b_Q_many 14 = .ok (.iconst 1, 1) := by decide +kernel
theorem d_Q_many_15 : decode b_Q_many 15 = .ok (.iand, 1) := by decide +kernel
theorem d_Q_many_16 : decode b_Q_many 16 = .ok (.iadd, 1) := by decide +kernel
theorem d_Q_many_17 : decode b_Q_many 17 = .ok (.istore_n 1, 1) := by decide +kernel
theorem d_Q_many_18 : decode b_Q_many 18 = .ok (.iinc 2 1, 3) := by decide +kernel
theorem d_Q_many_21 : decode b_Q_many 21 = .ok (.goto (-17), 3) := by decide +kernel
theorem d_Q_many_24 : decode b_Q_many 24 = .ok (.iload_n 1, 1) := by decide +kernel
theorem d_Q_many_25 : decode b_Q_many 25 = .ok (.ireturn, 1) := by decide +kernel
theorem k4_67 : Cond.fieldLink "ShapeSearchModel" 115 "ShapeSearchModel" "thrown" "I" ∈ BG := List.mem_filter.mpr ⟨in_4 (List.mem_of_getElem? (i := 67) rfl), rfl⟩
theorem k4_75 : Cond.fieldLink "ShapeSearchModel" 118 "ShapeSearchModel" "all" "I" ∈ BG := List.mem_filter.mpr ⟨in_4 (List.mem_of_getElem? (i := 75) rfl), rfl⟩
theorem k4_68 : Cond.fieldLink "ShapeSearchModel" 8 "ShapeSearchModel" "kinds" "[I" ∈ BG := List.mem_filter.mpr ⟨in_4 (List.mem_of_getElem? (i := 68) rfl), rfl⟩
theorem k4_69 : Cond.fieldLink "ShapeSearchModel" 14 "ShapeSearchModel" "which" "[I" ∈ BG := List.mem_filter.mpr ⟨in_4 (List.mem_of_getElem? (i := 69) rfl), rfl⟩
theorem k4_70 : Cond.fieldLink "ShapeSearchModel" 17 "ShapeSearchModel" "firsts" "[I" ∈ BG := List.mem_filter.mpr ⟨in_4 (List.mem_of_getElem? (i := 70) rfl), rfl⟩
theorem k4_71 : Cond.fieldLink "ShapeSearchModel" 20 "ShapeSearchModel" "seconds" "[I" ∈ BG := List.mem_filter.mpr ⟨in_4 (List.mem_of_getElem? (i := 71) rfl), rfl⟩
theorem k4_72 : Cond.fieldLink "ShapeSearchModel" 23 "ShapeSearchModel" "thirds" "[I" ∈ BG := List.mem_filter.mpr ⟨in_4 (List.mem_of_getElem? (i := 72) rfl), rfl⟩
theorem k4_211 : Cond.methodLink "ShapeSearchModel" 121 ⟨"ShapeSearchModel", "headOf", "(IIIII)I"⟩ ∈ BG := List.mem_filter.mpr ⟨in_4 (List.mem_of_getElem? (i := 211) rfl), rfl⟩
theorem k4_213 : Cond.code ⟨"ShapeSearchModel", "headOf", "(IIIII)I"⟩ prog_9_method_5_code 5 (some .int) ∈ BG := List.mem_filter.mpr ⟨in_4 (List.mem_of_getElem? (i := 213) rfl), rfl⟩
theorem k1_9 : Cond.initialized "ShapeSearchModel" ∈ BG := List.mem_filter.mpr ⟨in_1 (List.mem_of_getElem? (i := 9) rfl), rfl⟩
theorem k4_212 : Cond.static ⟨"ShapeSearchModel", "headOf", "(IIIII)I"⟩ ∈ BG := List.mem_filter.mpr ⟨in_4 (List.mem_of_getElem? (i := 212) rfl), rfl⟩
theorem k4_76 : Cond.fieldLink "ShapeSearchModel" 32 "ShapeSearchModel" "names" "[I" ∈ BG := List.mem_filter.mpr ⟨in_4 (List.mem_of_getElem? (i := 76) rfl), rfl⟩
theorem k4_77 : Cond.fieldLink "ShapeSearchModel" 35 "ShapeSearchModel" "variables" "[I" ∈ BG := List.mem_filter.mpr ⟨in_4 (List.mem_of_getElem? (i := 77) rfl), rfl⟩
theorem k4_78 : Cond.fieldLink "ShapeSearchModel" 38 "ShapeSearchModel" "holes" "[I" ∈ BG := List.mem_filter.mpr ⟨in_4 (List.mem_of_getElem? (i := 78) rfl), rfl⟩
theorem k4_79 : Cond.fieldLink "ShapeSearchModel" 41 "ShapeSearchModel" "sizes" "[I" ∈ BG := List.mem_filter.mpr ⟨in_4 (List.mem_of_getElem? (i := 79) rfl), rfl⟩
theorem k4_218 : Cond.methodLink "ShapeSearchModel" 129 ⟨"ShapeSearchModel", "part", "(II)I"⟩ ∈ BG := List.mem_filter.mpr ⟨in_4 (List.mem_of_getElem? (i := 218) rfl), rfl⟩
theorem k4_221 : Cond.code ⟨"ShapeSearchModel", "part", "(II)I"⟩ prog_9_method_8_code 3 (some .int) ∈ BG := List.mem_filter.mpr ⟨in_4 (List.mem_of_getElem? (i := 221) rfl), rfl⟩
theorem k4_220 : Cond.instanceMethod ⟨"ShapeSearchModel", "part", "(II)I"⟩ ∈ BG := List.mem_filter.mpr ⟨in_4 (List.mem_of_getElem? (i := 220) rfl), rfl⟩
theorem k4_222 : Cond.constant "ShapeSearchModel" 133 1000000 ∈ BG := List.mem_filter.mpr ⟨in_4 (List.mem_of_getElem? (i := 222) rfl), rfl⟩
theorem k4_74 : Cond.fieldLink "ShapeSearchModel" 29 "ShapeSearchModel" "heads" "[I" ∈ BG := List.mem_filter.mpr ⟨in_4 (List.mem_of_getElem? (i := 74) rfl), rfl⟩
theorem k4_73 : Cond.fieldLink "ShapeSearchModel" 26 "ShapeSearchModel" "nexts" "[I" ∈ BG := List.mem_filter.mpr ⟨in_4 (List.mem_of_getElem? (i := 73) rfl), rfl⟩
theorem k4_214 : Cond.methodLink "ShapeSearchModel" 125 ⟨"ShapeSearchModel", "tell", "(I)V"⟩ ∈ BG := List.mem_filter.mpr ⟨in_4 (List.mem_of_getElem? (i := 214) rfl), rfl⟩
theorem k4_217 : Cond.code ⟨"ShapeSearchModel", "tell", "(I)V"⟩ prog_9_method_9_code 4 (none : Option Jvm.ClassFile.FieldType) ∈ BG := List.mem_filter.mpr ⟨in_4 (List.mem_of_getElem? (i := 217) rfl), rfl⟩
theorem k4_216 : Cond.instanceMethod ⟨"ShapeSearchModel", "tell", "(I)V"⟩ ∈ BG := List.mem_filter.mpr ⟨in_4 (List.mem_of_getElem? (i := 216) rfl), rfl⟩
theorem k4_199 : Cond.methodLink "ShapeSearchModel" 134 ⟨"ShapeSearchModel", "isTerm", "(I)Z"⟩ ∈ BG := List.mem_filter.mpr ⟨in_4 (List.mem_of_getElem? (i := 199) rfl), rfl⟩
theorem k4_202 : Cond.code ⟨"ShapeSearchModel", "isTerm", "(I)Z"⟩ prog_9_method_4_code 2 (some .boolean) ∈ BG := List.mem_filter.mpr ⟨in_4 (List.mem_of_getElem? (i := 202) rfl), rfl⟩
theorem k4_201 : Cond.instanceMethod ⟨"ShapeSearchModel", "isTerm", "(I)Z"⟩ ∈ BG := List.mem_filter.mpr ⟨in_4 (List.mem_of_getElem? (i := 201) rfl), rfl⟩
theorem k4_80 : Cond.fieldLink "ShapeSearchModel" 44 "ShapeSearchModel" "places" "[I" ∈ BG := List.mem_filter.mpr ⟨in_4 (List.mem_of_getElem? (i := 80) rfl), rfl⟩
theorem k4_203 : Cond.methodLink "ShapeSearchModel" 138 ⟨"ShapeSearchModel", "refuses", "(I)Z"⟩ ∈ BG := List.mem_filter.mpr ⟨in_4 (List.mem_of_getElem? (i := 203) rfl), rfl⟩
theorem k4_206 : Cond.code ⟨"ShapeSearchModel", "refuses", "(I)Z"⟩ prog_9_method_3_code 2 (some .boolean) ∈ BG := List.mem_filter.mpr ⟨in_4 (List.mem_of_getElem? (i := 206) rfl), rfl⟩
theorem k4_205 : Cond.instanceMethod ⟨"ShapeSearchModel", "refuses", "(I)Z"⟩ ∈ BG := List.mem_filter.mpr ⟨in_4 (List.mem_of_getElem? (i := 205) rfl), rfl⟩
theorem k4_207 : Cond.methodLink "ShapeSearchModel" 141 ⟨"ShapeSearchModel", "make", "(IIIIII)I"⟩ ∈ BG := List.mem_filter.mpr ⟨in_4 (List.mem_of_getElem? (i := 207) rfl), rfl⟩
theorem k4_210 : Cond.code ⟨"ShapeSearchModel", "make", "(IIIIII)I"⟩ prog_9_method_7_code 9 (some .int) ∈ BG := List.mem_filter.mpr ⟨in_4 (List.mem_of_getElem? (i := 210) rfl), rfl⟩
theorem k4_209 : Cond.instanceMethod ⟨"ShapeSearchModel", "make", "(IIIIII)I"⟩ ∈ BG := List.mem_filter.mpr ⟨in_4 (List.mem_of_getElem? (i := 209) rfl), rfl⟩
theorem k4_223 : Cond.methodLink "ShapeSearchModel" 145 ⟨"ShapeSearchModel", "made", "(II)I"⟩ ∈ BG := List.mem_filter.mpr ⟨in_4 (List.mem_of_getElem? (i := 223) rfl), rfl⟩
theorem k4_226 : Cond.code ⟨"ShapeSearchModel", "made", "(II)I"⟩ prog_9_method_10_code 3 (some .int) ∈ BG := List.mem_filter.mpr ⟨in_4 (List.mem_of_getElem? (i := 226) rfl), rfl⟩
theorem k4_225 : Cond.instanceMethod ⟨"ShapeSearchModel", "made", "(II)I"⟩ ∈ BG := List.mem_filter.mpr ⟨in_4 (List.mem_of_getElem? (i := 225) rfl), rfl⟩
theorem k4_84 : Cond.fieldLink "ShapeSearchModel" 148 "ShapeSearchModel" "statements" "I" ∈ BG := List.mem_filter.mpr ⟨in_4 (List.mem_of_getElem? (i := 84) rfl), rfl⟩
theorem k4_81 : Cond.fieldLink "ShapeSearchModel" 47 "ShapeSearchModel" "conclusions" "[I" ∈ BG := List.mem_filter.mpr ⟨in_4 (List.mem_of_getElem? (i := 81) rfl), rfl⟩
theorem k4_83 : Cond.fieldLink "ShapeSearchModel" 53 "ShapeSearchModel" "counts" "[I" ∈ BG := List.mem_filter.mpr ⟨in_4 (List.mem_of_getElem? (i := 83) rfl), rfl⟩
theorem k4_86 : Cond.fieldLink "ShapeSearchModel" 151 "ShapeSearchModel" "hits" "I" ∈ BG := List.mem_filter.mpr ⟨in_4 (List.mem_of_getElem? (i := 86) rfl), rfl⟩
theorem k4_85 : Cond.fieldLink "ShapeSearchModel" 154 "ShapeSearchModel" "hitKind" "I" ∈ BG := List.mem_filter.mpr ⟨in_4 (List.mem_of_getElem? (i := 85) rfl), rfl⟩
theorem k4_82 : Cond.fieldLink "ShapeSearchModel" 50 "ShapeSearchModel" "premises" "[I" ∈ BG := List.mem_filter.mpr ⟨in_4 (List.mem_of_getElem? (i := 82) rfl), rfl⟩
theorem k5_15 : Cond.methodLink "ShapeSearchModel" 157 ⟨"ShapeSearchModel", "premise", "(II)I"⟩ ∈ BG := List.mem_filter.mpr ⟨in_5 (List.mem_of_getElem? (i := 15) rfl), rfl⟩
theorem k5_18 : Cond.code ⟨"ShapeSearchModel", "premise", "(II)I"⟩ prog_9_method_16_code 3 (some .int) ∈ BG := List.mem_filter.mpr ⟨in_5 (List.mem_of_getElem? (i := 18) rfl), rfl⟩
theorem k5_17 : Cond.instanceMethod ⟨"ShapeSearchModel", "premise", "(II)I"⟩ ∈ BG := List.mem_filter.mpr ⟨in_5 (List.mem_of_getElem? (i := 17) rfl), rfl⟩
abbrev wv_39 (cI cJ cZ : ClassId) (aQ aQ_kinds aQ_which aQ_firsts aQ_seconds aQ_thirds aQ_nexts aQ_heads aQ_names aQ_variables aQ_holes aQ_sizes aQ_places aQ_conclusions aQ_premises aQ_counts aQ_hitOf aQ_hitOne aQ_hitTwo aQ_hitTerms aQ_image aQ_bound aQ_waits aQ_waitsFor aQ_seen aQ_goals aQ_steps aQ_looked aQ_under aQ_taken aQ_news aQ_order aQ_there aQ_back : Nat) (Q_thrown : Int32) (Q_all : Int32) (Q_statements : Int32) (Q_hitKind : Int32) (Q_hits : Int32) (Q_tries : Int32) (Q_takenAll : Int32) (Q_takenFirst : Int32) : va_W := [(aQ, .inr (7, [.int Q_thrown, .ref aQ_kinds, .ref aQ_which, .ref aQ_firsts, .ref aQ_seconds, .ref aQ_thirds, .ref aQ_nexts, .ref aQ_heads, .int Q_all, .ref aQ_names, .ref aQ_variables, .ref aQ_holes, .ref aQ_sizes, .ref aQ_places, .ref aQ_conclusions, .ref aQ_premises, .ref aQ_counts, .int Q_statements, .int Q_hitKind, .int Q_hits, .ref aQ_hitOf, .ref aQ_hitOne, .ref aQ_hitTwo, .ref aQ_hitTerms, .ref aQ_image, .ref aQ_bound, .ref aQ_waits, .ref aQ_waitsFor, .ref aQ_seen, .ref aQ_goals, .ref aQ_steps, .ref aQ_looked, .ref aQ_under, .ref aQ_taken, .ref aQ_news, .ref aQ_order, .int Q_tries, .int Q_takenAll, .int Q_takenFirst, .ref aQ_there, .ref aQ_back]))]
abbrev wv_40 (cI cJ cZ : ClassId) (aQ aQ_kinds aQ_which aQ_firsts aQ_seconds aQ_thirds aQ_nexts aQ_heads aQ_names aQ_variables aQ_holes aQ_sizes aQ_places aQ_conclusions aQ_premises aQ_counts aQ_hitOf aQ_hitOne aQ_hitTwo aQ_hitTerms aQ_image aQ_bound aQ_waits aQ_waitsFor aQ_seen aQ_goals aQ_steps aQ_looked aQ_under aQ_taken aQ_news aQ_order aQ_there aQ_back : Nat) (Q_thrown : Int32) (Q_all : Int32) (Q_statements : Int32) (Q_hitKind : Int32) (Q_hits : Int32) (Q_tries : Int32) (Q_takenAll : Int32) (Q_takenFirst : Int32) (Q_kinds : (Nat → Int32)) (Q_which : (Nat → Int32)) (Q_firsts : (Nat → Int32)) (Q_seconds : (Nat → Int32)) (Q_thirds : (Nat → Int32)) : va_W := [(aQ, .inr (7, [.int Q_thrown, .ref aQ_kinds, .ref aQ_which, .ref aQ_firsts, .ref aQ_seconds, .ref aQ_thirds, .ref aQ_nexts, .ref aQ_heads, .int Q_all, .ref aQ_names, .ref aQ_variables, .ref aQ_holes, .ref aQ_sizes, .ref aQ_places, .ref aQ_conclusions, .ref aQ_premises, .ref aQ_counts, .int Q_statements, .int Q_hitKind, .int Q_hits, .ref aQ_hitOf, .ref aQ_hitOne, .ref aQ_hitTwo, .ref aQ_hitTerms, .ref aQ_image, .ref aQ_bound, .ref aQ_waits, .ref aQ_waitsFor, .ref aQ_seen, .ref aQ_goals, .ref aQ_steps, .ref aQ_looked, .ref aQ_under, .ref aQ_taken, .ref aQ_news, .ref aQ_order, .int Q_tries, .int Q_takenAll, .int Q_takenFirst, .ref aQ_there, .ref aQ_back])), (aQ_kinds, .inl (cI, 101100, .inl Q_kinds)), (aQ_which, .inl (cI, 101100, .inl Q_which)), (aQ_firsts, .inl (cI, 101100, .inl Q_firsts)), (aQ_seconds, .inl (cI, 101100, .inl Q_seconds)), (aQ_thirds, .inl (cI, 101100, .inl Q_thirds))]
abbrev wv_41 (cI cJ cZ : ClassId) (aQ aQ_kinds aQ_which aQ_firsts aQ_seconds aQ_thirds aQ_nexts aQ_heads aQ_names aQ_variables aQ_holes aQ_sizes aQ_places aQ_conclusions aQ_premises aQ_counts aQ_hitOf aQ_hitOne aQ_hitTwo aQ_hitTerms aQ_image aQ_bound aQ_waits aQ_waitsFor aQ_seen aQ_goals aQ_steps aQ_looked aQ_under aQ_taken aQ_news aQ_order aQ_there aQ_back : Nat) (Q_thrown : Int32) (Q_all : Int32) (Q_statements : Int32) (Q_hitKind : Int32) (Q_hits : Int32) (Q_tries : Int32) (Q_takenAll : Int32) (Q_takenFirst : Int32) (Q_firsts : (Nat → Int32)) (Q_seconds : (Nat → Int32)) (Q_thirds : (Nat → Int32)) : va_W := [(aQ, .inr (7, [.int Q_thrown, .ref aQ_kinds, .ref aQ_which, .ref aQ_firsts, .ref aQ_seconds, .ref aQ_thirds, .ref aQ_nexts, .ref aQ_heads, .int Q_all, .ref aQ_names, .ref aQ_variables, .ref aQ_holes, .ref aQ_sizes, .ref aQ_places, .ref aQ_conclusions, .ref aQ_premises, .ref aQ_counts, .int Q_statements, .int Q_hitKind, .int Q_hits, .ref aQ_hitOf, .ref aQ_hitOne, .ref aQ_hitTwo, .ref aQ_hitTerms, .ref aQ_image, .ref aQ_bound, .ref aQ_waits, .ref aQ_waitsFor, .ref aQ_seen, .ref aQ_goals, .ref aQ_steps, .ref aQ_looked, .ref aQ_under, .ref aQ_taken, .ref aQ_news, .ref aQ_order, .int Q_tries, .int Q_takenAll, .int Q_takenFirst, .ref aQ_there, .ref aQ_back])), (aQ_firsts, .inl (cI, 101100, .inl Q_firsts)), (aQ_seconds, .inl (cI, 101100, .inl Q_seconds)), (aQ_thirds, .inl (cI, 101100, .inl Q_thirds))]
abbrev wv_42 (cI cJ cZ : ClassId) (aQ aQ_kinds aQ_which aQ_firsts aQ_seconds aQ_thirds aQ_nexts aQ_heads aQ_names aQ_variables aQ_holes aQ_sizes aQ_places aQ_conclusions aQ_premises aQ_counts aQ_hitOf aQ_hitOne aQ_hitTwo aQ_hitTerms aQ_image aQ_bound aQ_waits aQ_waitsFor aQ_seen aQ_goals aQ_steps aQ_looked aQ_under aQ_taken aQ_news aQ_order aQ_there aQ_back : Nat) (Q_thrown : Int32) (Q_all : Int32) (Q_statements : Int32) (Q_hitKind : Int32) (Q_hits : Int32) (Q_tries : Int32) (Q_takenAll : Int32) (Q_takenFirst : Int32) (Q_kinds : (Nat → Int32)) (Q_which : (Nat → Int32)) (Q_firsts : (Nat → Int32)) (Q_seconds : (Nat → Int32)) (Q_thirds : (Nat → Int32)) (Q_names : (Nat → Int32)) (Q_variables : (Nat → Int32)) (Q_holes : (Nat → Int32)) (Q_sizes : (Nat → Int32)) : va_W := [(aQ, .inr (7, [.int Q_thrown, .ref aQ_kinds, .ref aQ_which, .ref aQ_firsts, .ref aQ_seconds, .ref aQ_thirds, .ref aQ_nexts, .ref aQ_heads, .int Q_all, .ref aQ_names, .ref aQ_variables, .ref aQ_holes, .ref aQ_sizes, .ref aQ_places, .ref aQ_conclusions, .ref aQ_premises, .ref aQ_counts, .int Q_statements, .int Q_hitKind, .int Q_hits, .ref aQ_hitOf, .ref aQ_hitOne, .ref aQ_hitTwo, .ref aQ_hitTerms, .ref aQ_image, .ref aQ_bound, .ref aQ_waits, .ref aQ_waitsFor, .ref aQ_seen, .ref aQ_goals, .ref aQ_steps, .ref aQ_looked, .ref aQ_under, .ref aQ_taken, .ref aQ_news, .ref aQ_order, .int Q_tries, .int Q_takenAll, .int Q_takenFirst, .ref aQ_there, .ref aQ_back])), (aQ_kinds, .inl (cI, 101100, .inl Q_kinds)), (aQ_which, .inl (cI, 101100, .inl Q_which)), (aQ_firsts, .inl (cI, 101100, .inl Q_firsts)), (aQ_seconds, .inl (cI, 101100, .inl Q_seconds)), (aQ_thirds, .inl (cI, 101100, .inl Q_thirds)), (aQ_names, .inl (cI, 100, .inl Q_names)), (aQ_variables, .inl (cI, 100, .inl Q_variables)), (aQ_holes, .inl (cI, 100, .inl Q_holes)), (aQ_sizes, .inl (cI, 100, .inl Q_sizes))]
abbrev wv_43 (cI cJ cZ : ClassId) (aQ aQ_kinds aQ_which aQ_firsts aQ_seconds aQ_thirds aQ_nexts aQ_heads aQ_names aQ_variables aQ_holes aQ_sizes aQ_places aQ_conclusions aQ_premises aQ_counts aQ_hitOf aQ_hitOne aQ_hitTwo aQ_hitTerms aQ_image aQ_bound aQ_waits aQ_waitsFor aQ_seen aQ_goals aQ_steps aQ_looked aQ_under aQ_taken aQ_news aQ_order aQ_there aQ_back : Nat) (Q_thrown : Int32) (Q_all : Int32) (Q_statements : Int32) (Q_hitKind : Int32) (Q_hits : Int32) (Q_tries : Int32) (Q_takenAll : Int32) (Q_takenFirst : Int32) (Q_kinds : (Nat → Int32)) (Q_which : (Nat → Int32)) (Q_firsts : (Nat → Int32)) (Q_seconds : (Nat → Int32)) (Q_thirds : (Nat → Int32)) (Q_nexts : (Nat → Int32)) (Q_heads : (Nat → Int32)) (Q_names : (Nat → Int32)) (Q_variables : (Nat → Int32)) (Q_holes : (Nat → Int32)) (Q_sizes : (Nat → Int32)) : va_W := [(aQ, .inr (7, [.int Q_thrown, .ref aQ_kinds, .ref aQ_which, .ref aQ_firsts, .ref aQ_seconds, .ref aQ_thirds, .ref aQ_nexts, .ref aQ_heads, .int Q_all, .ref aQ_names, .ref aQ_variables, .ref aQ_holes, .ref aQ_sizes, .ref aQ_places, .ref aQ_conclusions, .ref aQ_premises, .ref aQ_counts, .int Q_statements, .int Q_hitKind, .int Q_hits, .ref aQ_hitOf, .ref aQ_hitOne, .ref aQ_hitTwo, .ref aQ_hitTerms, .ref aQ_image, .ref aQ_bound, .ref aQ_waits, .ref aQ_waitsFor, .ref aQ_seen, .ref aQ_goals, .ref aQ_steps, .ref aQ_looked, .ref aQ_under, .ref aQ_taken, .ref aQ_news, .ref aQ_order, .int Q_tries, .int Q_takenAll, .int Q_takenFirst, .ref aQ_there, .ref aQ_back])), (aQ_kinds, .inl (cI, 101100, .inl Q_kinds)), (aQ_which, .inl (cI, 101100, .inl Q_which)), (aQ_firsts, .inl (cI, 101100, .inl Q_firsts)), (aQ_seconds, .inl (cI, 101100, .inl Q_seconds)), (aQ_thirds, .inl (cI, 101100, .inl Q_thirds)), (aQ_nexts, .inl (cI, 101100, .inl Q_nexts)), (aQ_heads, .inl (cI, 4096, .inl Q_heads)), (aQ_names, .inl (cI, 100, .inl Q_names)), (aQ_variables, .inl (cI, 100, .inl Q_variables)), (aQ_holes, .inl (cI, 100, .inl Q_holes)), (aQ_sizes, .inl (cI, 100, .inl Q_sizes))]
abbrev wv_44 (cI cJ cZ : ClassId) (aQ aQ_kinds aQ_which aQ_firsts aQ_seconds aQ_thirds aQ_nexts aQ_heads aQ_names aQ_variables aQ_holes aQ_sizes aQ_places aQ_conclusions aQ_premises aQ_counts aQ_hitOf aQ_hitOne aQ_hitTwo aQ_hitTerms aQ_image aQ_bound aQ_waits aQ_waitsFor aQ_seen aQ_goals aQ_steps aQ_looked aQ_under aQ_taken aQ_news aQ_order aQ_there aQ_back : Nat) (Q_thrown : Int32) (Q_all : Int32) (Q_statements : Int32) (Q_hitKind : Int32) (Q_hits : Int32) (Q_tries : Int32) (Q_takenAll : Int32) (Q_takenFirst : Int32) (Q_kinds : (Nat → Int32)) (Q_which : (Nat → Int32)) (Q_firsts : (Nat → Int32)) (Q_seconds : (Nat → Int32)) (Q_thirds : (Nat → Int32)) (Q_nexts : (Nat → Int32)) (Q_heads : (Nat → Int32)) (Q_names : (Nat → Int32)) (Q_variables : (Nat → Int32)) (Q_holes : (Nat → Int32)) (Q_sizes : (Nat → Int32)) (Q_places : (Nat → Int32)) : va_W := [(aQ, .inr (7, [.int Q_thrown, .ref aQ_kinds, .ref aQ_which, .ref aQ_firsts, .ref aQ_seconds, .ref aQ_thirds, .ref aQ_nexts, .ref aQ_heads, .int Q_all, .ref aQ_names, .ref aQ_variables, .ref aQ_holes, .ref aQ_sizes, .ref aQ_places, .ref aQ_conclusions, .ref aQ_premises, .ref aQ_counts, .int Q_statements, .int Q_hitKind, .int Q_hits, .ref aQ_hitOf, .ref aQ_hitOne, .ref aQ_hitTwo, .ref aQ_hitTerms, .ref aQ_image, .ref aQ_bound, .ref aQ_waits, .ref aQ_waitsFor, .ref aQ_seen, .ref aQ_goals, .ref aQ_steps, .ref aQ_looked, .ref aQ_under, .ref aQ_taken, .ref aQ_news, .ref aQ_order, .int Q_tries, .int Q_takenAll, .int Q_takenFirst, .ref aQ_there, .ref aQ_back])), (aQ_kinds, .inl (cI, 101100, .inl Q_kinds)), (aQ_which, .inl (cI, 101100, .inl Q_which)), (aQ_firsts, .inl (cI, 101100, .inl Q_firsts)), (aQ_seconds, .inl (cI, 101100, .inl Q_seconds)), (aQ_thirds, .inl (cI, 101100, .inl Q_thirds)), (aQ_nexts, .inl (cI, 101100, .inl Q_nexts)), (aQ_heads, .inl (cI, 4096, .inl Q_heads)), (aQ_names, .inl (cI, 100, .inl Q_names)), (aQ_variables, .inl (cI, 100, .inl Q_variables)), (aQ_holes, .inl (cI, 100, .inl Q_holes)), (aQ_sizes, .inl (cI, 100, .inl Q_sizes)), (aQ_places, .inl (cI, 30, .inl Q_places))]
abbrev wv_45 (cI cJ cZ : ClassId) (aQ aQ_kinds aQ_which aQ_firsts aQ_seconds aQ_thirds aQ_nexts aQ_heads aQ_names aQ_variables aQ_holes aQ_sizes aQ_places aQ_conclusions aQ_premises aQ_counts aQ_hitOf aQ_hitOne aQ_hitTwo aQ_hitTerms aQ_image aQ_bound aQ_waits aQ_waitsFor aQ_seen aQ_goals aQ_steps aQ_looked aQ_under aQ_taken aQ_news aQ_order aQ_there aQ_back : Nat) (Q_thrown : Int32) (Q_all : Int32) (Q_statements : Int32) (Q_hitKind : Int32) (Q_hits : Int32) (Q_tries : Int32) (Q_takenAll : Int32) (Q_takenFirst : Int32) (Q_kinds : (Nat → Int32)) (Q_which : (Nat → Int32)) (Q_firsts : (Nat → Int32)) (Q_seconds : (Nat → Int32)) (Q_thirds : (Nat → Int32)) (Q_sizes : (Nat → Int32)) : va_W := [(aQ, .inr (7, [.int Q_thrown, .ref aQ_kinds, .ref aQ_which, .ref aQ_firsts, .ref aQ_seconds, .ref aQ_thirds, .ref aQ_nexts, .ref aQ_heads, .int Q_all, .ref aQ_names, .ref aQ_variables, .ref aQ_holes, .ref aQ_sizes, .ref aQ_places, .ref aQ_conclusions, .ref aQ_premises, .ref aQ_counts, .int Q_statements, .int Q_hitKind, .int Q_hits, .ref aQ_hitOf, .ref aQ_hitOne, .ref aQ_hitTwo, .ref aQ_hitTerms, .ref aQ_image, .ref aQ_bound, .ref aQ_waits, .ref aQ_waitsFor, .ref aQ_seen, .ref aQ_goals, .ref aQ_steps, .ref aQ_looked, .ref aQ_under, .ref aQ_taken, .ref aQ_news, .ref aQ_order, .int Q_tries, .int Q_takenAll, .int Q_takenFirst, .ref aQ_there, .ref aQ_back])), (aQ_kinds, .inl (cI, 101100, .inl Q_kinds)), (aQ_which, .inl (cI, 101100, .inl Q_which)), (aQ_firsts, .inl (cI, 101100, .inl Q_firsts)), (aQ_seconds, .inl (cI, 101100, .inl Q_seconds)), (aQ_thirds, .inl (cI, 101100, .inl Q_thirds)), (aQ_sizes, .inl (cI, 100, .inl Q_sizes))]
abbrev wv_46 (cI cJ cZ : ClassId) (aQ aQ_kinds aQ_which aQ_firsts aQ_seconds aQ_thirds aQ_nexts aQ_heads aQ_names aQ_variables aQ_holes aQ_sizes aQ_places aQ_conclusions aQ_premises aQ_counts aQ_hitOf aQ_hitOne aQ_hitTwo aQ_hitTerms aQ_image aQ_bound aQ_waits aQ_waitsFor aQ_seen aQ_goals aQ_steps aQ_looked aQ_under aQ_taken aQ_news aQ_order aQ_there aQ_back : Nat) (Q_thrown : Int32) (Q_all : Int32) (Q_statements : Int32) (Q_hitKind : Int32) (Q_hits : Int32) (Q_tries : Int32) (Q_takenAll : Int32) (Q_takenFirst : Int32) (Q_holes : (Nat → Int32)) (Q_conclusions : (Nat → Int32)) (Q_premises : (Nat → Int32)) (Q_counts : (Nat → Int32)) : va_W := [(aQ, .inr (7, [.int Q_thrown, .ref aQ_kinds, .ref aQ_which, .ref aQ_firsts, .ref aQ_seconds, .ref aQ_thirds, .ref aQ_nexts, .ref aQ_heads, .int Q_all, .ref aQ_names, .ref aQ_variables, .ref aQ_holes, .ref aQ_sizes, .ref aQ_places, .ref aQ_conclusions, .ref aQ_premises, .ref aQ_counts, .int Q_statements, .int Q_hitKind, .int Q_hits, .ref aQ_hitOf, .ref aQ_hitOne, .ref aQ_hitTwo, .ref aQ_hitTerms, .ref aQ_image, .ref aQ_bound, .ref aQ_waits, .ref aQ_waitsFor, .ref aQ_seen, .ref aQ_goals, .ref aQ_steps, .ref aQ_looked, .ref aQ_under, .ref aQ_taken, .ref aQ_news, .ref aQ_order, .int Q_tries, .int Q_takenAll, .int Q_takenFirst, .ref aQ_there, .ref aQ_back])), (aQ_holes, .inl (cI, 100, .inl Q_holes)), (aQ_conclusions, .inl (cI, 30, .inl Q_conclusions)), (aQ_premises, .inl (cI, 120, .inl Q_premises)), (aQ_counts, .inl (cI, 30, .inl Q_counts))]
abbrev wv_47 (cI cJ cZ : ClassId) (aQ aQ_kinds aQ_which aQ_firsts aQ_seconds aQ_thirds aQ_nexts aQ_heads aQ_names aQ_variables aQ_holes aQ_sizes aQ_places aQ_conclusions aQ_premises aQ_counts aQ_hitOf aQ_hitOne aQ_hitTwo aQ_hitTerms aQ_image aQ_bound aQ_waits aQ_waitsFor aQ_seen aQ_goals aQ_steps aQ_looked aQ_under aQ_taken aQ_news aQ_order aQ_there aQ_back : Nat) (Q_thrown : Int32) (Q_all : Int32) (Q_statements : Int32) (Q_hitKind : Int32) (Q_hits : Int32) (Q_tries : Int32) (Q_takenAll : Int32) (Q_takenFirst : Int32) (Q_premises : (Nat → Int32)) : va_W := [(aQ, .inr (7, [.int Q_thrown, .ref aQ_kinds, .ref aQ_which, .ref aQ_firsts, .ref aQ_seconds, .ref aQ_thirds, .ref aQ_nexts, .ref aQ_heads, .int Q_all, .ref aQ_names, .ref aQ_variables, .ref aQ_holes, .ref aQ_sizes, .ref aQ_places, .ref aQ_conclusions, .ref aQ_premises, .ref aQ_counts, .int Q_statements, .int Q_hitKind, .int Q_hits, .ref aQ_hitOf, .ref aQ_hitOne, .ref aQ_hitTwo, .ref aQ_hitTerms, .ref aQ_image, .ref aQ_bound, .ref aQ_waits, .ref aQ_waitsFor, .ref aQ_seen, .ref aQ_goals, .ref aQ_steps, .ref aQ_looked, .ref aQ_under, .ref aQ_taken, .ref aQ_news, .ref aQ_order, .int Q_tries, .int Q_takenAll, .int Q_takenFirst, .ref aQ_there, .ref aQ_back])), (aQ_premises, .inl (cI, 120, .inl Q_premises))]
abbrev wv_48 (cI cJ cZ : ClassId) (aQ aQ_kinds aQ_which aQ_firsts aQ_seconds aQ_thirds aQ_nexts aQ_heads aQ_names aQ_variables aQ_holes aQ_sizes aQ_places aQ_conclusions aQ_premises aQ_counts aQ_hitOf aQ_hitOne aQ_hitTwo aQ_hitTerms aQ_image aQ_bound aQ_waits aQ_waitsFor aQ_seen aQ_goals aQ_steps aQ_looked aQ_under aQ_taken aQ_news aQ_order aQ_there aQ_back : Nat) (Q_thrown : Int32) (Q_all : Int32) (Q_statements : Int32) (Q_hitKind : Int32) (Q_hits : Int32) (Q_tries : Int32) (Q_takenAll : Int32) (Q_takenFirst : Int32) (Q_variables : (Nat → Int32)) (Q_conclusions : (Nat → Int32)) (Q_premises : (Nat → Int32)) (Q_counts : (Nat → Int32)) : va_W := [(aQ, .inr (7, [.int Q_thrown, .ref aQ_kinds, .ref aQ_which, .ref aQ_firsts, .ref aQ_seconds, .ref aQ_thirds, .ref aQ_nexts, .ref aQ_heads, .int Q_all, .ref aQ_names, .ref aQ_variables, .ref aQ_holes, .ref aQ_sizes, .ref aQ_places, .ref aQ_conclusions, .ref aQ_premises, .ref aQ_counts, .int Q_statements, .int Q_hitKind, .int Q_hits, .ref aQ_hitOf, .ref aQ_hitOne, .ref aQ_hitTwo, .ref aQ_hitTerms, .ref aQ_image, .ref aQ_bound, .ref aQ_waits, .ref aQ_waitsFor, .ref aQ_seen, .ref aQ_goals, .ref aQ_steps, .ref aQ_looked, .ref aQ_under, .ref aQ_taken, .ref aQ_news, .ref aQ_order, .int Q_tries, .int Q_takenAll, .int Q_takenFirst, .ref aQ_there, .ref aQ_back])), (aQ_variables, .inl (cI, 100, .inl Q_variables)), (aQ_conclusions, .inl (cI, 30, .inl Q_conclusions)), (aQ_premises, .inl (cI, 120, .inl Q_premises)), (aQ_counts, .inl (cI, 30, .inl Q_counts))]
def f_Q_thrown (Q_thrown : Int32) : Option (Int32) :=
  some Q_thrown
abbrev rm_Q_thrown : Room := { frames := 0, cells := 0, slots := 0, locals := 0 }
set_option maxHeartbeats 4000000 in
set_option maxRecDepth 100000 in
theorem c_Q_thrown (l : Launch) (D : va_G) (cI cJ cZ : ClassId) (aQ aQ_kinds aQ_which aQ_firsts aQ_seconds aQ_thirds aQ_nexts aQ_heads aQ_names aQ_variables aQ_holes aQ_sizes aQ_places aQ_conclusions aQ_premises aQ_counts aQ_hitOf aQ_hitOne aQ_hitTwo aQ_hitTerms aQ_image aQ_bound aQ_waits aQ_waitsFor aQ_seen aQ_goals aQ_steps aQ_looked aQ_under aQ_taken aQ_news aQ_order aQ_there aQ_back : Nat) (Q_thrown : Int32) (Q_all : Int32) (Q_statements : Int32) (Q_hitKind : Int32) (Q_hits : Int32) (Q_tries : Int32) (Q_takenAll : Int32) (Q_takenFirst : Int32) (o : Int32) (hf : f_Q_thrown Q_thrown = some o) : Met l y_Q_thrown (ws_Q_thrown) rm_Q_thrown (RPc D vwCl cI cJ cZ [.ref aQ] (wv_39 cI cJ cZ aQ aQ_kinds aQ_which aQ_firsts aQ_seconds aQ_thirds aQ_nexts aQ_heads aQ_names aQ_variables aQ_holes aQ_sizes aQ_places aQ_conclusions aQ_premises aQ_counts aQ_hitOf aQ_hitOne aQ_hitTwo aQ_hitTerms aQ_image aQ_bound aQ_waits aQ_waitsFor aQ_seen aQ_goals aQ_steps aQ_looked aQ_under aQ_taken aQ_news aQ_order aQ_there aQ_back Q_thrown Q_all Q_statements Q_hitKind Q_hits Q_tries Q_takenAll Q_takenFirst)) (RQ (some (.int o))) 0 0 (fun _ => False) := by
  refine Met.ofW (cc := b_Q_thrown) (maxL := 1) (ret := (some .int)) (by decide) rfl ?_
  intro p e s m args below meth c s₁ B hml hv
  obtain ⟨rfl, hP, hK⟩ := hv
  have hx := B.exec
  have hb := B.bytes
  have hr := B.returns
  have hts : ∀ w ∈ BG, w.before _ s = true := fun w h => atoms_spec (ws := (ws_Q_thrown)) B.pre w (List.mem_cons_of_mem _ h)
  have hown : s.vm.findClass RR_Q = some m.cls := findClass_of_methodNamed B.named
  have hlocks := B.notSynchronized
  have hl := lv_entry ([.ref aQ]) (n := 1) (Nat.le_of_ble_eq_true rfl)
  rw [lg_entry_eq]
  generalize (lg_sl ([.ref aQ]) ++ List.replicate (1 - (lg_sl ([.ref aQ])).length) Slot.unset).toArray = ls at hl ⊢
  have hl : lv_has ls 1 [(0, .ref aQ)] := hl
  rw [f_Q_thrown] at hf
  refine lv_aload_n hx hb d_Q_thrown_0 rfl (lv_at hl 0 rfl) ?_
  refine va_get (D := D) (ci := 7) (v := .int Q_thrown) (C := RR_Q) (T := FF_Q) (N := 41) hx hb hts kin_Q hown hK.1 hP 0 rfl rfl 0 (by decide) (hts _ k4_67) (fun _ h9 => h9) rfl d_Q_thrown_1 ?_
  obtain rfl := Option.some.inj hf
  exact W.iret (v := Q_thrown) hx hb hr (fun t ht hW => ⟨rfl, ht⟩) (fun q h => by cases h) d_Q_thrown_4
def f_Q_refuses (Q_thrown : Int32) (p0 : Int32) : Option (Int32 × Int32) :=
  if p0 ≤ 0 then
    some ((0 : Int32), p0)
  else
    some ((1 : Int32), p0)
abbrev rm_Q_refuses : Room := { frames := 0, cells := 0, slots := 0, locals := 0 }
set_option maxHeartbeats 4000000 in
set_option maxRecDepth 100000 in
theorem c_Q_refuses (l : Launch) (D : va_G) (cI cJ cZ : ClassId) (aQ aQ_kinds aQ_which aQ_firsts aQ_seconds aQ_thirds aQ_nexts aQ_heads aQ_names aQ_variables aQ_holes aQ_sizes aQ_places aQ_conclusions aQ_premises aQ_counts aQ_hitOf aQ_hitOne aQ_hitTwo aQ_hitTerms aQ_image aQ_bound aQ_waits aQ_waitsFor aQ_seen aQ_goals aQ_steps aQ_looked aQ_under aQ_taken aQ_news aQ_order aQ_there aQ_back : Nat) (sz : Nat) (Q_thrown : Int32) (Q_all : Int32) (Q_statements : Int32) (Q_hitKind : Int32) (Q_hits : Int32) (Q_tries : Int32) (Q_takenAll : Int32) (Q_takenFirst : Int32) (p0 : Int32) (o : Int32 × Int32) (hf : f_Q_refuses Q_thrown p0 = some o) : Met l y_Q_refuses (ws_Q_refuses) rm_Q_refuses (WPc D vwCl cI cJ cZ [.ref aQ, .int p0] (wv_39 cI cJ cZ aQ aQ_kinds aQ_which aQ_firsts aQ_seconds aQ_thirds aQ_nexts aQ_heads aQ_names aQ_variables aQ_holes aQ_sizes aQ_places aQ_conclusions aQ_premises aQ_counts aQ_hitOf aQ_hitOne aQ_hitTwo aQ_hitTerms aQ_image aQ_bound aQ_waits aQ_waitsFor aQ_seen aQ_goals aQ_steps aQ_looked aQ_under aQ_taken aQ_news aQ_order aQ_there aQ_back Q_thrown Q_all Q_statements Q_hitKind Q_hits Q_tries Q_takenAll Q_takenFirst) sz) (WQ D vwCl (some (.int o.1)) (wv_39 cI cJ cZ aQ aQ_kinds aQ_which aQ_firsts aQ_seconds aQ_thirds aQ_nexts aQ_heads aQ_names aQ_variables aQ_holes aQ_sizes aQ_places aQ_conclusions aQ_premises aQ_counts aQ_hitOf aQ_hitOne aQ_hitTwo aQ_hitTerms aQ_image aQ_bound aQ_waits aQ_waitsFor aQ_seen aQ_goals aQ_steps aQ_looked aQ_under aQ_taken aQ_news aQ_order aQ_there aQ_back o.2 Q_all Q_statements Q_hitKind Q_hits Q_tries Q_takenAll Q_takenFirst) (va_A (wv_39 cI cJ cZ aQ aQ_kinds aQ_which aQ_firsts aQ_seconds aQ_thirds aQ_nexts aQ_heads aQ_names aQ_variables aQ_holes aQ_sizes aQ_places aQ_conclusions aQ_premises aQ_counts aQ_hitOf aQ_hitOne aQ_hitTwo aQ_hitTerms aQ_image aQ_bound aQ_waits aQ_waitsFor aQ_seen aQ_goals aQ_steps aQ_looked aQ_under aQ_taken aQ_news aQ_order aQ_there aQ_back Q_thrown Q_all Q_statements Q_hitKind Q_hits Q_tries Q_takenAll Q_takenFirst) sz)) 0 0 (va_A (wv_39 cI cJ cZ aQ aQ_kinds aQ_which aQ_firsts aQ_seconds aQ_thirds aQ_nexts aQ_heads aQ_names aQ_variables aQ_holes aQ_sizes aQ_places aQ_conclusions aQ_premises aQ_counts aQ_hitOf aQ_hitOne aQ_hitTwo aQ_hitTerms aQ_image aQ_bound aQ_waits aQ_waitsFor aQ_seen aQ_goals aQ_steps aQ_looked aQ_under aQ_taken aQ_news aQ_order aQ_there aQ_back Q_thrown Q_all Q_statements Q_hitKind Q_hits Q_tries Q_takenAll Q_takenFirst) sz) := by
  refine Met.ofW (cc := b_Q_refuses) (maxL := 2) (ret := (some .boolean)) (by decide) rfl ?_
  intro p e s m args below meth c s₁ B hml hv
  obtain ⟨rfl, rfl, hP, hK, hD0⟩ := hv
  have hx := B.exec
  have hb := B.bytes
  have hr := B.returns
  have hts : ∀ w ∈ BG, w.before _ s = true := fun w h => atoms_spec (ws := (ws_Q_refuses)) B.pre w (List.mem_cons_of_mem _ h)
  have hown : s.vm.findClass RR_Q = some m.cls := findClass_of_methodNamed B.named
  have hlocks := B.notSynchronized
  have hD := hD0.self (sz := s.heap.size)
  have hA : ∀ q : Nat, s.heap.size ≤ q → va_A (wv_39 cI cJ cZ aQ aQ_kinds aQ_which aQ_firsts aQ_seconds aQ_thirds aQ_nexts aQ_heads aQ_names aQ_variables aQ_holes aQ_sizes aQ_places aQ_conclusions aQ_premises aQ_counts aQ_hitOf aQ_hitOne aQ_hitTwo aQ_hitTerms aQ_image aQ_bound aQ_waits aQ_waitsFor aQ_seen aQ_goals aQ_steps aQ_looked aQ_under aQ_taken aQ_news aQ_order aQ_there aQ_back Q_thrown Q_all Q_statements Q_hitKind Q_hits Q_tries Q_takenAll Q_takenFirst) s.heap.size q := fun q h => Or.inr h
  have hS : va_S (va_A (wv_39 cI cJ cZ aQ aQ_kinds aQ_which aQ_firsts aQ_seconds aQ_thirds aQ_nexts aQ_heads aQ_names aQ_variables aQ_holes aQ_sizes aQ_places aQ_conclusions aQ_premises aQ_counts aQ_hitOf aQ_hitOne aQ_hitTwo aQ_hitTerms aQ_image aQ_bound aQ_waits aQ_waitsFor aQ_seen aQ_goals aQ_steps aQ_looked aQ_under aQ_taken aQ_news aQ_order aQ_there aQ_back Q_thrown Q_all Q_statements Q_hitKind Q_hits Q_tries Q_takenAll Q_takenFirst) s.heap.size) s.heap s.heap [] := va_S.rf
  generalize va_A (wv_39 cI cJ cZ aQ aQ_kinds aQ_which aQ_firsts aQ_seconds aQ_thirds aQ_nexts aQ_heads aQ_names aQ_variables aQ_holes aQ_sizes aQ_places aQ_conclusions aQ_premises aQ_counts aQ_hitOf aQ_hitOne aQ_hitTwo aQ_hitTerms aQ_image aQ_bound aQ_waits aQ_waitsFor aQ_seen aQ_goals aQ_steps aQ_looked aQ_under aQ_taken aQ_news aQ_order aQ_there aQ_back Q_thrown Q_all Q_statements Q_hitKind Q_hits Q_tries Q_takenAll Q_takenFirst) s.heap.size = A at hD hA hS ⊢
  have hl := lv_entry ([.ref aQ, .int p0]) (n := 2) (Nat.le_of_ble_eq_true rfl)
  rw [lg_entry_eq]
  generalize (lg_sl ([.ref aQ, .int p0]) ++ List.replicate (2 - (lg_sl ([.ref aQ, .int p0])).length) Slot.unset).toArray = ls at hl ⊢
  have hl : lv_has ls 2 [(0, .ref aQ), (1, .int p0)] := hl
  rw [f_Q_refuses] at hf
  refine lv_aload_n hx hb d_Q_refuses_0 rfl (lv_at hl 0 rfl) ?_
  refine lv_iload_n hx hb d_Q_refuses_1 rfl (lv_at hl 1 rfl) ?_
  refine va_put (D := D) (ci := 7) (v := .int p0) (ty := .int) (C := RR_Q) (T := FF_Q) (N := 41) hx hb hts kin_Q TT_Q tok_Q nok_Q hown hK.1 hP hD hS 0 rfl rfl 0 (by decide) (hts _ k4_67) (fun _ h9 => h9) rfl (by decide +kernel) rfl rfl (Nat.le_of_ble_eq_true rfl) d_Q_refuses_2 (fun H locs hP hD hS => ?_)
  have hP : va_P D vwCl (wv_39 cI cJ cZ aQ aQ_kinds aQ_which aQ_firsts aQ_seconds aQ_thirds aQ_nexts aQ_heads aQ_names aQ_variables aQ_holes aQ_sizes aQ_places aQ_conclusions aQ_premises aQ_counts aQ_hitOf aQ_hitOne aQ_hitTwo aQ_hitTerms aQ_image aQ_bound aQ_waits aQ_waitsFor aQ_seen aQ_goals aQ_steps aQ_looked aQ_under aQ_taken aQ_news aQ_order aQ_there aQ_back p0 Q_all Q_statements Q_hitKind Q_hits Q_tries Q_takenAll Q_takenFirst) H := hP
  have hD : va_D A (wv_39 cI cJ cZ aQ aQ_kinds aQ_which aQ_firsts aQ_seconds aQ_thirds aQ_nexts aQ_heads aQ_names aQ_variables aQ_holes aQ_sizes aQ_places aQ_conclusions aQ_premises aQ_counts aQ_hitOf aQ_hitOne aQ_hitTwo aQ_hitTerms aQ_image aQ_bound aQ_waits aQ_waitsFor aQ_seen aQ_goals aQ_steps aQ_looked aQ_under aQ_taken aQ_news aQ_order aQ_there aQ_back p0 Q_all Q_statements Q_hitKind Q_hits Q_tries Q_takenAll Q_takenFirst) := hD
  refine lv_iload_n hx hb d_Q_refuses_5 rfl (lv_at hl 1 rfl) ?_
  refine lv_if_le (tgt := 13) hx hb d_Q_refuses_6 (by decide) (fun c1 => ?_) (fun c1 => ?_)
  · have hf := ite_t c1 hf
    refine lv_iconst (v := 0) hx hb d_Q_refuses_13 (by decide) ?_
    obtain rfl := Option.some.inj hf
    exact W.zret (v := (0 : Int32)) hx hb hr rfl (fun t ht hW => ⟨rfl, by rw [ht]; exact hP, hD, hS.F ht⟩) hS.2.2 d_Q_refuses_14
  · have hf := ite_f c1 hf
    refine lv_iconst (v := 1) hx hb d_Q_refuses_9 (by decide) ?_
    refine lv_goto (tgt := 14) hx hb d_Q_refuses_10 (by decide) ?_
    obtain rfl := Option.some.inj hf
    exact W.zret (v := (1 : Int32)) hx hb hr rfl (fun t ht hW => ⟨rfl, by rw [ht]; exact hP, hD, hS.F ht⟩) hS.2.2 d_Q_refuses_14
def f_Q_isTerm (Q_all : Int32) (p0 : Int32) : Option (Int32) :=
  if p0 < 0 then
    some (0 : Int32)
  else
    if Q_all ≤ p0 then
      some (0 : Int32)
    else
      some (1 : Int32)
abbrev rm_Q_isTerm : Room := { frames := 0, cells := 0, slots := 0, locals := 0 }
set_option maxHeartbeats 4000000 in
set_option maxRecDepth 100000 in
theorem c_Q_isTerm (l : Launch) (D : va_G) (cI cJ cZ : ClassId) (aQ aQ_kinds aQ_which aQ_firsts aQ_seconds aQ_thirds aQ_nexts aQ_heads aQ_names aQ_variables aQ_holes aQ_sizes aQ_places aQ_conclusions aQ_premises aQ_counts aQ_hitOf aQ_hitOne aQ_hitTwo aQ_hitTerms aQ_image aQ_bound aQ_waits aQ_waitsFor aQ_seen aQ_goals aQ_steps aQ_looked aQ_under aQ_taken aQ_news aQ_order aQ_there aQ_back : Nat) (Q_thrown : Int32) (Q_all : Int32) (Q_statements : Int32) (Q_hitKind : Int32) (Q_hits : Int32) (Q_tries : Int32) (Q_takenAll : Int32) (Q_takenFirst : Int32) (p0 : Int32) (o : Int32) (hf : f_Q_isTerm Q_all p0 = some o) : Met l y_Q_isTerm (ws_Q_isTerm) rm_Q_isTerm (RPc D vwCl cI cJ cZ [.ref aQ, .int p0] (wv_39 cI cJ cZ aQ aQ_kinds aQ_which aQ_firsts aQ_seconds aQ_thirds aQ_nexts aQ_heads aQ_names aQ_variables aQ_holes aQ_sizes aQ_places aQ_conclusions aQ_premises aQ_counts aQ_hitOf aQ_hitOne aQ_hitTwo aQ_hitTerms aQ_image aQ_bound aQ_waits aQ_waitsFor aQ_seen aQ_goals aQ_steps aQ_looked aQ_under aQ_taken aQ_news aQ_order aQ_there aQ_back Q_thrown Q_all Q_statements Q_hitKind Q_hits Q_tries Q_takenAll Q_takenFirst)) (RQ (some (.int o))) 0 0 (fun _ => False) := by
  refine Met.ofW (cc := b_Q_isTerm) (maxL := 2) (ret := (some .boolean)) (by decide) rfl ?_
  intro p e s m args below meth c s₁ B hml hv
  obtain ⟨rfl, hP, hK⟩ := hv
  have hx := B.exec
  have hb := B.bytes
  have hr := B.returns
  have hts : ∀ w ∈ BG, w.before _ s = true := fun w h => atoms_spec (ws := (ws_Q_isTerm)) B.pre w (List.mem_cons_of_mem _ h)
  have hown : s.vm.findClass RR_Q = some m.cls := findClass_of_methodNamed B.named
  have hlocks := B.notSynchronized
  have hl := lv_entry ([.ref aQ, .int p0]) (n := 2) (Nat.le_of_ble_eq_true rfl)
  rw [lg_entry_eq]
  generalize (lg_sl ([.ref aQ, .int p0]) ++ List.replicate (2 - (lg_sl ([.ref aQ, .int p0])).length) Slot.unset).toArray = ls at hl ⊢
  have hl : lv_has ls 2 [(0, .ref aQ), (1, .int p0)] := hl
  rw [f_Q_isTerm] at hf
  refine lv_iload_n hx hb d_Q_isTerm_0 rfl (lv_at hl 1 rfl) ?_
  refine lv_if_lt (tgt := 16) hx hb d_Q_isTerm_1 (by decide) (fun c1 => ?_) (fun c1 => ?_)
  · have hf := ite_t c1 hf
    refine lv_iconst (v := 0) hx hb d_Q_isTerm_16 (by decide) ?_
    obtain rfl := Option.some.inj hf
    exact W.zret (v := (0 : Int32)) hx hb hr rfl (fun t ht hW => ⟨rfl, ht⟩) (fun q h => by cases h) d_Q_isTerm_17
  · have hf := ite_f c1 hf
    refine lv_iload_n hx hb d_Q_isTerm_4 rfl (lv_at hl 1 rfl) ?_
    refine lv_aload_n hx hb d_Q_isTerm_5 rfl (lv_at hl 0 rfl) ?_
    refine va_get (D := D) (ci := 7) (v := .int Q_all) (C := RR_Q) (T := FF_Q) (N := 41) hx hb hts kin_Q hown hK.1 hP 0 rfl rfl 8 (by decide) (hts _ k4_75) (fun _ h9 => h9) rfl d_Q_isTerm_6 ?_
    refine lv_icmp_ge (tgt := 16) hx hb d_Q_isTerm_9 (by decide) (fun c2 => ?_) (fun c2 => ?_)
    · have hf := ite_t c2 hf
      refine lv_iconst (v := 0) hx hb d_Q_isTerm_16 (by decide) ?_
      obtain rfl := Option.some.inj hf
      exact W.zret (v := (0 : Int32)) hx hb hr rfl (fun t ht hW => ⟨rfl, ht⟩) (fun q h => by cases h) d_Q_isTerm_17
    · have hf := ite_f c2 hf
      refine lv_iconst (v := 1) hx hb d_Q_isTerm_12 (by decide) ?_
      refine lv_goto (tgt := 17) hx hb d_Q_isTerm_13 (by decide) ?_
      obtain rfl := Option.some.inj hf
      exact W.zret (v := (1 : Int32)) hx hb hr rfl (fun t ht hW => ⟨rfl, ht⟩) (fun q h => by cases h) d_Q_isTerm_17
def f_Q_headOf (p0 : Int32) (p1 : Int32) (p2 : Int32) (p3 : Int32) (p4 : Int32) : Option (Int32) :=
  some (((((((p0 + ((3 : Int32) * p1)) + ((97 : Int32) * p2)) + ((1021 : Int32) * p3)) + ((3571 : Int32) * p4)) - ((((p0 + ((3 : Int32) * p1)) + ((97 : Int32) * p2)) + ((1021 : Int32) * p3)) + ((3571 : Int32) * p4)) / (4096 : Int32) * (4096 : Int32)) + (4096 : Int32)) &&& (4095 : Int32))
abbrev rm_Q_headOf : Room := { frames := 0, cells := 0, slots := 0, locals := 0 }
set_option maxHeartbeats 4000000 in
set_option maxRecDepth 100000 in
theorem c_Q_headOf (l : Launch) (D : va_G) (cI cJ cZ : ClassId) (p0 : Int32) (p1 : Int32) (p2 : Int32) (p3 : Int32) (p4 : Int32) (o : Int32) (hf : f_Q_headOf p0 p1 p2 p3 p4 = some o) : Met l y_Q_headOf (ws_Q_headOf) rm_Q_headOf (RPc D vwCl cI cJ cZ [.int p0, .int p1, .int p2, .int p3, .int p4] (wv_5 cI cJ cZ)) (RQ (some (.int o))) 0 0 (fun _ => False) := by
  refine Met.ofW (cc := b_Q_headOf) (maxL := 5) (ret := (some .int)) (by decide) rfl ?_
  intro p e s m args below meth c s₁ B hml hv
  obtain ⟨rfl, hP, hK⟩ := hv
  have hx := B.exec
  have hb := B.bytes
  have hr := B.returns
  have hts : ∀ w ∈ BG, w.before _ s = true := fun w h => atoms_spec (ws := (ws_Q_headOf)) B.pre w (List.mem_cons_of_mem _ h)
  have hown : s.vm.findClass RR_Q = some m.cls := findClass_of_methodNamed B.named
  have hlocks := B.notSynchronized
  have hl := lv_entry ([.int p0, .int p1, .int p2, .int p3, .int p4]) (n := 5) (Nat.le_of_ble_eq_true rfl)
  rw [lg_entry_eq]
  generalize (lg_sl ([.int p0, .int p1, .int p2, .int p3, .int p4]) ++ List.replicate (5 - (lg_sl ([.int p0, .int p1, .int p2, .int p3, .int p4])).length) Slot.unset).toArray = ls at hl ⊢
  have hl : lv_has ls 5 [(0, .int p0), (1, .int p1), (2, .int p2), (3, .int p3), (4, .int p4)] := hl
  rw [f_Q_headOf] at hf
  refine lv_iload_n hx hb d_Q_headOf_0 rfl (lv_at hl 0 rfl) ?_
  refine lv_iconst (v := 3) hx hb d_Q_headOf_1 (by decide) ?_
  refine lv_iload_n hx hb d_Q_headOf_2 rfl (lv_at hl 1 rfl) ?_
  refine lv_imul hx hb d_Q_headOf_3 ?_
  refine lv_iadd hx hb d_Q_headOf_4 ?_
  refine lv_bipush (v := 97) hx hb d_Q_headOf_5 (by decide) ?_
  refine lv_iload_n hx hb d_Q_headOf_7 rfl (lv_at hl 2 rfl) ?_
  refine lv_imul hx hb d_Q_headOf_8 ?_
  refine lv_iadd hx hb d_Q_headOf_9 ?_
  refine lv_sipush (v := 1021) hx hb d_Q_headOf_10 (by decide) ?_
  refine lv_iload_n hx hb d_Q_headOf_13 rfl (lv_at hl 3 rfl) ?_
  refine lv_imul hx hb d_Q_headOf_14 ?_
  refine lv_iadd hx hb d_Q_headOf_15 ?_
  refine lv_sipush (v := 3571) hx hb d_Q_headOf_16 (by decide) ?_
  refine lv_iload hx hb d_Q_headOf_19 (lv_at hl 4 rfl) ?_
  refine lv_imul hx hb d_Q_headOf_21 ?_
  refine lv_iadd hx hb d_Q_headOf_22 ?_
  refine lv_sipush (v := 4096) hx hb d_Q_headOf_23 (by decide) ?_
  refine lv_irem hx hb d_Q_headOf_26 (by decide) ?_
  refine lv_sipush (v := 4096) hx hb d_Q_headOf_27 (by decide) ?_
  refine lv_iadd hx hb d_Q_headOf_30 ?_
  refine lv_sipush (v := 4095) hx hb d_Q_headOf_31 (by decide) ?_
  refine lv_iand hx hb d_Q_headOf_34 ?_
  obtain rfl := Option.some.inj hf
  exact W.iret (v := ((((((p0 + ((3 : Int32) * p1)) + ((97 : Int32) * p2)) + ((1021 : Int32) * p3)) + ((3571 : Int32) * p4)) - ((((p0 + ((3 : Int32) * p1)) + ((97 : Int32) * p2)) + ((1021 : Int32) * p3)) + ((3571 : Int32) * p4)) / (4096 : Int32) * (4096 : Int32)) + (4096 : Int32)) &&& (4095 : Int32)) hx hb hr (fun t ht hW => ⟨rfl, ht⟩) (fun q h => by cases h) d_Q_headOf_35
def f_Q_head (Q_kinds : (Nat → Int32)) (Q_which : (Nat → Int32)) (Q_firsts : (Nat → Int32)) (Q_seconds : (Nat → Int32)) (Q_thirds : (Nat → Int32)) (p0 : Int32) : Option (Int32) :=
  gd (ixb p0 101100) <|
  gd (ixb p0 101100) <|
  gd (ixb p0 101100) <|
  gd (ixb p0 101100) <|
  gd (ixb p0 101100) <|
  (f_Q_headOf (Q_kinds p0.toNatClampNeg) (Q_which p0.toNatClampNeg) (Q_firsts p0.toNatClampNeg) (Q_seconds p0.toNatClampNeg) (Q_thirds p0.toNatClampNeg)).bind fun r6 =>
  some r6
abbrev rm_Q_head : Room := { frames := 1, cells := 0, slots := 0, locals := 24 }
set_option maxHeartbeats 4000000 in
set_option maxRecDepth 100000 in
theorem c_Q_head (l : Launch) (D : va_G) (cI cJ cZ : ClassId) (aQ aQ_kinds aQ_which aQ_firsts aQ_seconds aQ_thirds aQ_nexts aQ_heads aQ_names aQ_variables aQ_holes aQ_sizes aQ_places aQ_conclusions aQ_premises aQ_counts aQ_hitOf aQ_hitOne aQ_hitTwo aQ_hitTerms aQ_image aQ_bound aQ_waits aQ_waitsFor aQ_seen aQ_goals aQ_steps aQ_looked aQ_under aQ_taken aQ_news aQ_order aQ_there aQ_back : Nat) (Q_thrown : Int32) (Q_all : Int32) (Q_statements : Int32) (Q_hitKind : Int32) (Q_hits : Int32) (Q_tries : Int32) (Q_takenAll : Int32) (Q_takenFirst : Int32) (Q_kinds : (Nat → Int32)) (Q_which : (Nat → Int32)) (Q_firsts : (Nat → Int32)) (Q_seconds : (Nat → Int32)) (Q_thirds : (Nat → Int32)) (p0 : Int32) (o : Int32) (hf : f_Q_head Q_kinds Q_which Q_firsts Q_seconds Q_thirds p0 = some o) : Met l y_Q_head (ws_Q_head) rm_Q_head (RPc D vwCl cI cJ cZ [.ref aQ, .int p0] (wv_40 cI cJ cZ aQ aQ_kinds aQ_which aQ_firsts aQ_seconds aQ_thirds aQ_nexts aQ_heads aQ_names aQ_variables aQ_holes aQ_sizes aQ_places aQ_conclusions aQ_premises aQ_counts aQ_hitOf aQ_hitOne aQ_hitTwo aQ_hitTerms aQ_image aQ_bound aQ_waits aQ_waitsFor aQ_seen aQ_goals aQ_steps aQ_looked aQ_under aQ_taken aQ_news aQ_order aQ_there aQ_back Q_thrown Q_all Q_statements Q_hitKind Q_hits Q_tries Q_takenAll Q_takenFirst Q_kinds Q_which Q_firsts Q_seconds Q_thirds)) (RQ (some (.int o))) 0 0 (fun _ => False) := by
  refine Met.ofW (cc := b_Q_head) (maxL := 2) (ret := (some .int)) (by decide) rfl ?_
  intro p e s m args below meth c s₁ B hml hv
  obtain ⟨rfl, hP, hK⟩ := hv
  have hx := B.exec
  have hb := B.bytes
  have hr := B.returns
  have hts : ∀ w ∈ BG, w.before _ s = true := fun w h => atoms_spec (ws := (ws_Q_head)) B.pre w (List.mem_cons_of_mem _ h)
  have hown : s.vm.findClass RR_Q = some m.cls := findClass_of_methodNamed B.named
  have hlocks := B.notSynchronized
  have hl := lv_entry ([.ref aQ, .int p0]) (n := 2) (Nat.le_of_ble_eq_true rfl)
  rw [lg_entry_eq]
  generalize (lg_sl ([.ref aQ, .int p0]) ++ List.replicate (2 - (lg_sl ([.ref aQ, .int p0])).length) Slot.unset).toArray = ls at hl ⊢
  have hl : lv_has ls 2 [(0, .ref aQ), (1, .int p0)] := hl
  rw [f_Q_head] at hf
  refine lv_aload_n hx hb d_Q_head_0 rfl (lv_at hl 0 rfl) ?_
  refine va_get (D := D) (ci := 7) (v := .ref aQ_kinds) (C := RR_Q) (T := FF_Q) (N := 41) hx hb hts kin_Q hown hK.1 hP 0 rfl rfl 1 (by decide) (hts _ k4_68) (fun _ h9 => h9) rfl d_Q_head_1 ?_
  refine lv_iload_n hx hb d_Q_head_4 rfl (lv_at hl 1 rfl) ?_
  obtain ⟨h1, hf⟩ := of_gd hf
  refine va_iald hx hb hK.1 hP 1 0 rfl rfl (ixb_in h1) d_Q_head_5 ?_
  refine lv_aload_n hx hb d_Q_head_6 rfl (lv_at hl 0 rfl) ?_
  refine va_get (D := D) (ci := 7) (v := .ref aQ_which) (C := RR_Q) (T := FF_Q) (N := 41) hx hb hts kin_Q hown hK.1 hP 0 rfl rfl 2 (by decide) (hts _ k4_69) (fun _ h9 => h9) rfl d_Q_head_7 ?_
  refine lv_iload_n hx hb d_Q_head_10 rfl (lv_at hl 1 rfl) ?_
  obtain ⟨h2, hf⟩ := of_gd hf
  refine va_iald hx hb hK.1 hP 2 0 rfl rfl (ixb_in h2) d_Q_head_11 ?_
  refine lv_aload_n hx hb d_Q_head_12 rfl (lv_at hl 0 rfl) ?_
  refine va_get (D := D) (ci := 7) (v := .ref aQ_firsts) (C := RR_Q) (T := FF_Q) (N := 41) hx hb hts kin_Q hown hK.1 hP 0 rfl rfl 3 (by decide) (hts _ k4_70) (fun _ h9 => h9) rfl d_Q_head_13 ?_
  refine lv_iload_n hx hb d_Q_head_16 rfl (lv_at hl 1 rfl) ?_
  obtain ⟨h3, hf⟩ := of_gd hf
  refine va_iald hx hb hK.1 hP 3 0 rfl rfl (ixb_in h3) d_Q_head_17 ?_
  refine lv_aload_n hx hb d_Q_head_18 rfl (lv_at hl 0 rfl) ?_
  refine va_get (D := D) (ci := 7) (v := .ref aQ_seconds) (C := RR_Q) (T := FF_Q) (N := 41) hx hb hts kin_Q hown hK.1 hP 0 rfl rfl 4 (by decide) (hts _ k4_71) (fun _ h9 => h9) rfl d_Q_head_19 ?_
  refine lv_iload_n hx hb d_Q_head_22 rfl (lv_at hl 1 rfl) ?_
  obtain ⟨h4, hf⟩ := of_gd hf
  refine va_iald hx hb hK.1 hP 4 0 rfl rfl (ixb_in h4) d_Q_head_23 ?_
  refine lv_aload_n hx hb d_Q_head_24 rfl (lv_at hl 0 rfl) ?_
  refine va_get (D := D) (ci := 7) (v := .ref aQ_thirds) (C := RR_Q) (T := FF_Q) (N := 41) hx hb hts kin_Q hown hK.1 hP 0 rfl rfl 5 (by decide) (hts _ k4_72) (fun _ h9 => h9) rfl d_Q_head_25 ?_
  refine lv_iload_n hx hb d_Q_head_28 rfl (lv_at hl 1 rfl) ?_
  obtain ⟨h5, hf⟩ := of_gd hf
  refine va_iald hx hb hK.1 hP 5 0 rfl rfl (ixb_in h5) d_Q_head_29 ?_
  obtain ⟨r6, hr6, hf⟩ := of_bd hf
  refine rd_call (va_runS (As := [.int (Q_kinds p0.toNatClampNeg), .int (Q_which p0.toNatClampNeg), .int (Q_firsts p0.toNatClampNeg), .int (Q_seconds p0.toNatClampNeg), .int (Q_thirds p0.toNatClampNeg)]) (rest := []) ⟨hx, hb, hml, hown, hts⟩ (c_Q_headOf l D cI cJ cZ (Q_kinds p0.toNatClampNeg) (Q_which p0.toNatClampNeg) (Q_firsts p0.toNatClampNeg) (Q_seconds p0.toNatClampNeg) (Q_thirds p0.toNatClampNeg) r6 hr6) (bigS 5 hts k4_211 k4_212 k1_9 k4_213 rfl rfl hd_Q_headOf ⟨Nat.le_of_ble_eq_true rfl, Nat.le_of_ble_eq_true rfl⟩) (rd_preS hK hP [] rfl) rfl rfl hl.1 rfl (lv_room (Nat.le_of_ble_eq_true rfl)) d_Q_head_30 ⟨Nat.le_of_ble_eq_true rfl, Nat.le_of_ble_eq_true rfl⟩) ?_
  obtain rfl := Option.some.inj hf
  exact W.iret (v := r6) hx hb hr (fun t ht hW => ⟨rfl, ht⟩) (fun q h => by cases h) d_Q_head_33
def f_Q_part (Q_firsts : (Nat → Int32)) (Q_seconds : (Nat → Int32)) (Q_thirds : (Nat → Int32)) (p0 : Int32) (p1 : Int32) : Option (Int32) :=
  if p1 = 0 then
    gd (ixb p0 101100) <|
    some (Q_firsts p0.toNatClampNeg)
  else
    if p1 = (1 : Int32) then
      gd (ixb p0 101100) <|
      some (Q_seconds p0.toNatClampNeg)
    else
      gd (ixb p0 101100) <|
      some (Q_thirds p0.toNatClampNeg)
abbrev rm_Q_part : Room := { frames := 0, cells := 0, slots := 0, locals := 0 }
set_option maxHeartbeats 4000000 in
set_option maxRecDepth 100000 in
theorem c_Q_part (l : Launch) (D : va_G) (cI cJ cZ : ClassId) (aQ aQ_kinds aQ_which aQ_firsts aQ_seconds aQ_thirds aQ_nexts aQ_heads aQ_names aQ_variables aQ_holes aQ_sizes aQ_places aQ_conclusions aQ_premises aQ_counts aQ_hitOf aQ_hitOne aQ_hitTwo aQ_hitTerms aQ_image aQ_bound aQ_waits aQ_waitsFor aQ_seen aQ_goals aQ_steps aQ_looked aQ_under aQ_taken aQ_news aQ_order aQ_there aQ_back : Nat) (Q_thrown : Int32) (Q_all : Int32) (Q_statements : Int32) (Q_hitKind : Int32) (Q_hits : Int32) (Q_tries : Int32) (Q_takenAll : Int32) (Q_takenFirst : Int32) (Q_firsts : (Nat → Int32)) (Q_seconds : (Nat → Int32)) (Q_thirds : (Nat → Int32)) (p0 : Int32) (p1 : Int32) (o : Int32) (hf : f_Q_part Q_firsts Q_seconds Q_thirds p0 p1 = some o) : Met l y_Q_part (ws_Q_part) rm_Q_part (RPc D vwCl cI cJ cZ [.ref aQ, .int p0, .int p1] (wv_41 cI cJ cZ aQ aQ_kinds aQ_which aQ_firsts aQ_seconds aQ_thirds aQ_nexts aQ_heads aQ_names aQ_variables aQ_holes aQ_sizes aQ_places aQ_conclusions aQ_premises aQ_counts aQ_hitOf aQ_hitOne aQ_hitTwo aQ_hitTerms aQ_image aQ_bound aQ_waits aQ_waitsFor aQ_seen aQ_goals aQ_steps aQ_looked aQ_under aQ_taken aQ_news aQ_order aQ_there aQ_back Q_thrown Q_all Q_statements Q_hitKind Q_hits Q_tries Q_takenAll Q_takenFirst Q_firsts Q_seconds Q_thirds)) (RQ (some (.int o))) 0 0 (fun _ => False) := by
  refine Met.ofW (cc := b_Q_part) (maxL := 3) (ret := (some .int)) (by decide) rfl ?_
  intro p e s m args below meth c s₁ B hml hv
  obtain ⟨rfl, hP, hK⟩ := hv
  have hx := B.exec
  have hb := B.bytes
  have hr := B.returns
  have hts : ∀ w ∈ BG, w.before _ s = true := fun w h => atoms_spec (ws := (ws_Q_part)) B.pre w (List.mem_cons_of_mem _ h)
  have hown : s.vm.findClass RR_Q = some m.cls := findClass_of_methodNamed B.named
  have hlocks := B.notSynchronized
  have hl := lv_entry ([.ref aQ, .int p0, .int p1]) (n := 3) (Nat.le_of_ble_eq_true rfl)
  rw [lg_entry_eq]
  generalize (lg_sl ([.ref aQ, .int p0, .int p1]) ++ List.replicate (3 - (lg_sl ([.ref aQ, .int p0, .int p1])).length) Slot.unset).toArray = ls at hl ⊢
  have hl : lv_has ls 3 [(0, .ref aQ), (1, .int p0), (2, .int p1)] := hl
  rw [f_Q_part] at hf
  refine lv_iload_n hx hb d_Q_part_0 rfl (lv_at hl 2 rfl) ?_
  refine lv_if_ne (tgt := 13) hx hb d_Q_part_1 (by decide) (fun c1 => ?_) (fun c1 => ?_)
  · have hf := ite_f c1 hf
    refine lv_iload_n hx hb d_Q_part_13 rfl (lv_at hl 2 rfl) ?_
    refine lv_iconst (v := 1) hx hb d_Q_part_14 (by decide) ?_
    refine lv_icmp_ne (tgt := 27) hx hb d_Q_part_15 (by decide) (fun c2 => ?_) (fun c2 => ?_)
    · have hf := ite_f c2 hf
      refine lv_aload_n hx hb d_Q_part_27 rfl (lv_at hl 0 rfl) ?_
      refine va_get (D := D) (ci := 7) (v := .ref aQ_thirds) (C := RR_Q) (T := FF_Q) (N := 41) hx hb hts kin_Q hown hK.1 hP 0 rfl rfl 5 (by decide) (hts _ k4_72) (fun _ h9 => h9) rfl d_Q_part_28 ?_
      refine lv_iload_n hx hb d_Q_part_31 rfl (lv_at hl 1 rfl) ?_
      obtain ⟨h3, hf⟩ := of_gd hf
      refine va_iald hx hb hK.1 hP 3 0 rfl rfl (ixb_in h3) d_Q_part_32 ?_
      obtain rfl := Option.some.inj hf
      exact W.iret (v := Q_thirds p0.toNatClampNeg) hx hb hr (fun t ht hW => ⟨rfl, ht⟩) (fun q h => by cases h) d_Q_part_33
    · have hf := ite_t c2 hf
      refine lv_aload_n hx hb d_Q_part_18 rfl (lv_at hl 0 rfl) ?_
      refine va_get (D := D) (ci := 7) (v := .ref aQ_seconds) (C := RR_Q) (T := FF_Q) (N := 41) hx hb hts kin_Q hown hK.1 hP 0 rfl rfl 4 (by decide) (hts _ k4_71) (fun _ h9 => h9) rfl d_Q_part_19 ?_
      refine lv_iload_n hx hb d_Q_part_22 rfl (lv_at hl 1 rfl) ?_
      obtain ⟨h4, hf⟩ := of_gd hf
      refine va_iald hx hb hK.1 hP 2 0 rfl rfl (ixb_in h4) d_Q_part_23 ?_
      refine lv_goto (tgt := 33) hx hb d_Q_part_24 (by decide) ?_
      obtain rfl := Option.some.inj hf
      exact W.iret (v := Q_seconds p0.toNatClampNeg) hx hb hr (fun t ht hW => ⟨rfl, ht⟩) (fun q h => by cases h) d_Q_part_33
  · have hf := ite_t c1 hf
    refine lv_aload_n hx hb d_Q_part_4 rfl (lv_at hl 0 rfl) ?_
    refine va_get (D := D) (ci := 7) (v := .ref aQ_firsts) (C := RR_Q) (T := FF_Q) (N := 41) hx hb hts kin_Q hown hK.1 hP 0 rfl rfl 3 (by decide) (hts _ k4_70) (fun _ h9 => h9) rfl d_Q_part_5 ?_
    refine lv_iload_n hx hb d_Q_part_8 rfl (lv_at hl 1 rfl) ?_
    obtain ⟨h5, hf⟩ := of_gd hf
    refine va_iald hx hb hK.1 hP 1 0 rfl rfl (ixb_in h5) d_Q_part_9 ?_
    refine lv_goto (tgt := 33) hx hb d_Q_part_10 (by decide) ?_
    obtain rfl := Option.some.inj hf
    exact W.iret (v := Q_firsts p0.toNatClampNeg) hx hb hr (fun t ht hW => ⟨rfl, ht⟩) (fun q h => by cases h) d_Q_part_33
def f_Q_tell_L92 (Q_kinds : (Nat → Int32)) (Q_which : (Nat → Int32)) (Q_firsts : (Nat → Int32)) (Q_seconds : (Nat → Int32)) (Q_thirds : (Nat → Int32)) : Nat → (Nat → Int32) → (Nat → Int32) → (Nat → Int32) → (Nat → Int32) → Int32 → Int32 → Option ((Nat → Int32) × (Nat → Int32) × (Nat → Int32) × (Nat → Int32))
  | 0, _, _, _, _, _, _ => none
  | n + 1, Q_names_92, Q_variables_92, Q_holes_92, Q_sizes_92, x1_92, x2_92 =>
    if (3 : Int32) ≤ x2_92 then
      some (Q_names_92, Q_variables_92, Q_holes_92, Q_sizes_92)
    else
      (f_Q_part Q_firsts Q_seconds Q_thirds x1_92 x2_92).bind fun r19 =>
      if r19 = (-1 : Int32) then
        nm (x2_92 + (1 : Int32)) fun x44 =>
        (f_Q_tell_L92 Q_kinds Q_which Q_firsts Q_seconds Q_thirds n) Q_names_92 Q_variables_92 Q_holes_92 Q_sizes_92 x1_92 x44
      else
        gd (ixb x1_92 100) <|
        gd (ixb r19 100) <|
        gd (ixb x1_92 100) <| nm (upd Q_names_92 x1_92.toNatClampNeg ((Q_names_92 x1_92.toNatClampNeg) ||| (Q_names_92 r19.toNatClampNeg))) fun g24 =>
        gd (ixb x1_92 100) <|
        gd (ixb r19 100) <|
        gd (ixb x1_92 100) <| nm (upd Q_variables_92 x1_92.toNatClampNeg ((Q_variables_92 x1_92.toNatClampNeg) ||| (Q_variables_92 r19.toNatClampNeg))) fun g28 =>
        gd (ixb x1_92 100) <|
        gd (ixb r19 100) <|
        gd (ixb x1_92 100) <| nm (upd Q_holes_92 x1_92.toNatClampNeg ((Q_holes_92 x1_92.toNatClampNeg) ||| (Q_holes_92 r19.toNatClampNeg))) fun g32 =>
        gd (ixb x1_92 100) <|
        gd (ixb r19 100) <|
        if ((Q_sizes_92 x1_92.toNatClampNeg) + (Q_sizes_92 r19.toNatClampNeg)) ≤ (1000000 : Int32) then
          gd (ixb x1_92 100) <|
          gd (ixb r19 100) <|
          gd (ixb x1_92 100) <| nm (upd Q_sizes_92 x1_92.toNatClampNeg ((Q_sizes_92 x1_92.toNatClampNeg) + (Q_sizes_92 r19.toNatClampNeg))) fun g39 =>
          nm (x2_92 + (1 : Int32)) fun x40 =>
          (f_Q_tell_L92 Q_kinds Q_which Q_firsts Q_seconds Q_thirds n) g24 g28 g32 g39 x1_92 x40
        else
          gd (ixb x1_92 100) <| nm (upd Q_sizes_92 x1_92.toNatClampNeg (1000000 : Int32)) fun g42 =>
          nm (x2_92 + (1 : Int32)) fun x43 =>
          (f_Q_tell_L92 Q_kinds Q_which Q_firsts Q_seconds Q_thirds n) g24 g28 g32 g42 x1_92 x43
def f_Q_tell_B82 (Q_kinds : (Nat → Int32)) (Q_which : (Nat → Int32)) (Q_firsts : (Nat → Int32)) (Q_seconds : (Nat → Int32)) (Q_thirds : (Nat → Int32)) (Q_names_82 : (Nat → Int32)) (Q_variables_82 : (Nat → Int32)) (Q_holes_82 : (Nat → Int32)) (Q_sizes_82 : (Nat → Int32)) (x1_82 : Int32) (s1_82 : Int32) (s2_82 : Int32) : Option ((Nat → Int32) × (Nat → Int32) × (Nat → Int32) × (Nat → Int32)) :=
  gd (ixb s1_82 100) <| nm (upd Q_holes_82 s1_82.toNatClampNeg s2_82) fun g15 =>
  gd (ixb x1_82 100) <| nm (upd Q_sizes_82 x1_82.toNatClampNeg (1 : Int32)) fun g17 =>
  f_Q_tell_L92 Q_kinds Q_which Q_firsts Q_seconds Q_thirds FU Q_names_82 Q_variables_82 g15 g17 x1_82 (0 : Int32)
def f_Q_tell_B54 (Q_kinds : (Nat → Int32)) (Q_which : (Nat → Int32)) (Q_firsts : (Nat → Int32)) (Q_seconds : (Nat → Int32)) (Q_thirds : (Nat → Int32)) (Q_names_54 : (Nat → Int32)) (Q_variables_54 : (Nat → Int32)) (Q_holes_54 : (Nat → Int32)) (Q_sizes_54 : (Nat → Int32)) (x1_54 : Int32) (s1_54 : Int32) (s2_54 : Int32) : Option ((Nat → Int32) × (Nat → Int32) × (Nat → Int32) × (Nat → Int32)) :=
  gd (ixb s1_54 100) <| nm (upd Q_variables_54 s1_54.toNatClampNeg s2_54) fun g10 =>
  gd (ixb x1_54 101100) <|
  if (Q_kinds x1_54.toNatClampNeg) = (2 : Int32) then
    gd (ixb x1_54 101100) <|
    f_Q_tell_B82 Q_kinds Q_which Q_firsts Q_seconds Q_thirds Q_names_54 g10 Q_holes_54 Q_sizes_54 x1_54 x1_54 ((1 : Int32) <<< ((Q_which x1_54.toNatClampNeg) &&& 31))
  else
    f_Q_tell_B82 Q_kinds Q_which Q_firsts Q_seconds Q_thirds Q_names_54 g10 Q_holes_54 Q_sizes_54 x1_54 x1_54 (0 : Int32)
def f_Q_tell_B26 (Q_kinds : (Nat → Int32)) (Q_which : (Nat → Int32)) (Q_firsts : (Nat → Int32)) (Q_seconds : (Nat → Int32)) (Q_thirds : (Nat → Int32)) (Q_names_26 : (Nat → Int32)) (Q_variables_26 : (Nat → Int32)) (Q_holes_26 : (Nat → Int32)) (Q_sizes_26 : (Nat → Int32)) (x1_26 : Int32) (s1_26 : Int32) (s2_26 : Int32) : Option ((Nat → Int32) × (Nat → Int32) × (Nat → Int32) × (Nat → Int32)) :=
  gd (ixb s1_26 100) <| nm (upd Q_names_26 s1_26.toNatClampNeg s2_26) fun g5 =>
  gd (ixb x1_26 101100) <|
  if (Q_kinds x1_26.toNatClampNeg) = (1 : Int32) then
    gd (ixb x1_26 101100) <|
    f_Q_tell_B54 Q_kinds Q_which Q_firsts Q_seconds Q_thirds g5 Q_variables_26 Q_holes_26 Q_sizes_26 x1_26 x1_26 ((1 : Int32) <<< ((Q_which x1_26.toNatClampNeg) &&& 31))
  else
    f_Q_tell_B54 Q_kinds Q_which Q_firsts Q_seconds Q_thirds g5 Q_variables_26 Q_holes_26 Q_sizes_26 x1_26 x1_26 (0 : Int32)
def f_Q_tell (Q_kinds : (Nat → Int32)) (Q_which : (Nat → Int32)) (Q_firsts : (Nat → Int32)) (Q_seconds : (Nat → Int32)) (Q_thirds : (Nat → Int32)) (Q_names : (Nat → Int32)) (Q_variables : (Nat → Int32)) (Q_holes : (Nat → Int32)) (Q_sizes : (Nat → Int32)) (p0 : Int32) : Option ((Nat → Int32) × (Nat → Int32) × (Nat → Int32) × (Nat → Int32)) :=
  gd (ixb p0 101100) <|
  if (Q_kinds p0.toNatClampNeg) = 0 then
    gd (ixb p0 101100) <|
    f_Q_tell_B26 Q_kinds Q_which Q_firsts Q_seconds Q_thirds Q_names Q_variables Q_holes Q_sizes p0 p0 ((1 : Int32) <<< ((Q_which p0.toNatClampNeg) &&& 31))
  else
    f_Q_tell_B26 Q_kinds Q_which Q_firsts Q_seconds Q_thirds Q_names Q_variables Q_holes Q_sizes p0 p0 (0 : Int32)
abbrev rm_Q_tell : Room := { frames := 1, cells := 0, slots := 0, locals := 22 }
set_option maxHeartbeats 4000000 in
set_option maxRecDepth 100000 in
theorem c_Q_tell (l : Launch) (D : va_G) (cI cJ cZ : ClassId) (aQ aQ_kinds aQ_which aQ_firsts aQ_seconds aQ_thirds aQ_nexts aQ_heads aQ_names aQ_variables aQ_holes aQ_sizes aQ_places aQ_conclusions aQ_premises aQ_counts aQ_hitOf aQ_hitOne aQ_hitTwo aQ_hitTerms aQ_image aQ_bound aQ_waits aQ_waitsFor aQ_seen aQ_goals aQ_steps aQ_looked aQ_under aQ_taken aQ_news aQ_order aQ_there aQ_back : Nat) (sz : Nat) (Q_thrown : Int32) (Q_all : Int32) (Q_statements : Int32) (Q_hitKind : Int32) (Q_hits : Int32) (Q_tries : Int32) (Q_takenAll : Int32) (Q_takenFirst : Int32) (Q_kinds : (Nat → Int32)) (Q_which : (Nat → Int32)) (Q_firsts : (Nat → Int32)) (Q_seconds : (Nat → Int32)) (Q_thirds : (Nat → Int32)) (Q_names : (Nat → Int32)) (Q_variables : (Nat → Int32)) (Q_holes : (Nat → Int32)) (Q_sizes : (Nat → Int32)) (p0 : Int32) (o : (Nat → Int32) × (Nat → Int32) × (Nat → Int32) × (Nat → Int32)) (hf : f_Q_tell Q_kinds Q_which Q_firsts Q_seconds Q_thirds Q_names Q_variables Q_holes Q_sizes p0 = some o) : Met l y_Q_tell (ws_Q_tell) rm_Q_tell (WPc D vwCl cI cJ cZ [.ref aQ, .int p0] (wv_42 cI cJ cZ aQ aQ_kinds aQ_which aQ_firsts aQ_seconds aQ_thirds aQ_nexts aQ_heads aQ_names aQ_variables aQ_holes aQ_sizes aQ_places aQ_conclusions aQ_premises aQ_counts aQ_hitOf aQ_hitOne aQ_hitTwo aQ_hitTerms aQ_image aQ_bound aQ_waits aQ_waitsFor aQ_seen aQ_goals aQ_steps aQ_looked aQ_under aQ_taken aQ_news aQ_order aQ_there aQ_back Q_thrown Q_all Q_statements Q_hitKind Q_hits Q_tries Q_takenAll Q_takenFirst Q_kinds Q_which Q_firsts Q_seconds Q_thirds Q_names Q_variables Q_holes Q_sizes) sz) (WQ D vwCl none (wv_42 cI cJ cZ aQ aQ_kinds aQ_which aQ_firsts aQ_seconds aQ_thirds aQ_nexts aQ_heads aQ_names aQ_variables aQ_holes aQ_sizes aQ_places aQ_conclusions aQ_premises aQ_counts aQ_hitOf aQ_hitOne aQ_hitTwo aQ_hitTerms aQ_image aQ_bound aQ_waits aQ_waitsFor aQ_seen aQ_goals aQ_steps aQ_looked aQ_under aQ_taken aQ_news aQ_order aQ_there aQ_back Q_thrown Q_all Q_statements Q_hitKind Q_hits Q_tries Q_takenAll Q_takenFirst Q_kinds Q_which Q_firsts Q_seconds Q_thirds o.1 o.2.1 o.2.2.1 o.2.2.2) (va_A (wv_42 cI cJ cZ aQ aQ_kinds aQ_which aQ_firsts aQ_seconds aQ_thirds aQ_nexts aQ_heads aQ_names aQ_variables aQ_holes aQ_sizes aQ_places aQ_conclusions aQ_premises aQ_counts aQ_hitOf aQ_hitOne aQ_hitTwo aQ_hitTerms aQ_image aQ_bound aQ_waits aQ_waitsFor aQ_seen aQ_goals aQ_steps aQ_looked aQ_under aQ_taken aQ_news aQ_order aQ_there aQ_back Q_thrown Q_all Q_statements Q_hitKind Q_hits Q_tries Q_takenAll Q_takenFirst Q_kinds Q_which Q_firsts Q_seconds Q_thirds Q_names Q_variables Q_holes Q_sizes) sz)) 0 0 (va_A (wv_42 cI cJ cZ aQ aQ_kinds aQ_which aQ_firsts aQ_seconds aQ_thirds aQ_nexts aQ_heads aQ_names aQ_variables aQ_holes aQ_sizes aQ_places aQ_conclusions aQ_premises aQ_counts aQ_hitOf aQ_hitOne aQ_hitTwo aQ_hitTerms aQ_image aQ_bound aQ_waits aQ_waitsFor aQ_seen aQ_goals aQ_steps aQ_looked aQ_under aQ_taken aQ_news aQ_order aQ_there aQ_back Q_thrown Q_all Q_statements Q_hitKind Q_hits Q_tries Q_takenAll Q_takenFirst Q_kinds Q_which Q_firsts Q_seconds Q_thirds Q_names Q_variables Q_holes Q_sizes) sz) := by
  refine Met.ofW (cc := b_Q_tell) (maxL := 4) (ret := none) (by decide) rfl ?_
  intro p e s m args below meth c s₁ B hml hv
  obtain ⟨rfl, rfl, hP, hK, hD0⟩ := hv
  have hx := B.exec
  have hb := B.bytes
  have hr := B.returns
  have hts : ∀ w ∈ BG, w.before _ s = true := fun w h => atoms_spec (ws := (ws_Q_tell)) B.pre w (List.mem_cons_of_mem _ h)
  have hown : s.vm.findClass RR_Q = some m.cls := findClass_of_methodNamed B.named
  have hlocks := B.notSynchronized
  have hD := hD0.self (sz := s.heap.size)
  have hA : ∀ q : Nat, s.heap.size ≤ q → va_A (wv_42 cI cJ cZ aQ aQ_kinds aQ_which aQ_firsts aQ_seconds aQ_thirds aQ_nexts aQ_heads aQ_names aQ_variables aQ_holes aQ_sizes aQ_places aQ_conclusions aQ_premises aQ_counts aQ_hitOf aQ_hitOne aQ_hitTwo aQ_hitTerms aQ_image aQ_bound aQ_waits aQ_waitsFor aQ_seen aQ_goals aQ_steps aQ_looked aQ_under aQ_taken aQ_news aQ_order aQ_there aQ_back Q_thrown Q_all Q_statements Q_hitKind Q_hits Q_tries Q_takenAll Q_takenFirst Q_kinds Q_which Q_firsts Q_seconds Q_thirds Q_names Q_variables Q_holes Q_sizes) s.heap.size q := fun q h => Or.inr h
  have hS : va_S (va_A (wv_42 cI cJ cZ aQ aQ_kinds aQ_which aQ_firsts aQ_seconds aQ_thirds aQ_nexts aQ_heads aQ_names aQ_variables aQ_holes aQ_sizes aQ_places aQ_conclusions aQ_premises aQ_counts aQ_hitOf aQ_hitOne aQ_hitTwo aQ_hitTerms aQ_image aQ_bound aQ_waits aQ_waitsFor aQ_seen aQ_goals aQ_steps aQ_looked aQ_under aQ_taken aQ_news aQ_order aQ_there aQ_back Q_thrown Q_all Q_statements Q_hitKind Q_hits Q_tries Q_takenAll Q_takenFirst Q_kinds Q_which Q_firsts Q_seconds Q_thirds Q_names Q_variables Q_holes Q_sizes) s.heap.size) s.heap s.heap [] := va_S.rf
  generalize va_A (wv_42 cI cJ cZ aQ aQ_kinds aQ_which aQ_firsts aQ_seconds aQ_thirds aQ_nexts aQ_heads aQ_names aQ_variables aQ_holes aQ_sizes aQ_places aQ_conclusions aQ_premises aQ_counts aQ_hitOf aQ_hitOne aQ_hitTwo aQ_hitTerms aQ_image aQ_bound aQ_waits aQ_waitsFor aQ_seen aQ_goals aQ_steps aQ_looked aQ_under aQ_taken aQ_news aQ_order aQ_there aQ_back Q_thrown Q_all Q_statements Q_hitKind Q_hits Q_tries Q_takenAll Q_takenFirst Q_kinds Q_which Q_firsts Q_seconds Q_thirds Q_names Q_variables Q_holes Q_sizes) s.heap.size = A at hD hA hS ⊢
  have hl := lv_entry ([.ref aQ, .int p0]) (n := 4) (Nat.le_of_ble_eq_true rfl)
  rw [lg_entry_eq]
  generalize (lg_sl ([.ref aQ, .int p0]) ++ List.replicate (4 - (lg_sl ([.ref aQ, .int p0])).length) Slot.unset).toArray = ls at hl ⊢
  have hl : lv_has ls 4 [(0, .ref aQ), (1, .int p0)] := hl
  have hL92 : ∀ (n92 : Nat), ∀ (Q_names_92 : (Nat → Int32)) (Q_variables_92 : (Nat → Int32)) (Q_holes_92 : (Nat → Int32)) (Q_sizes_92 : (Nat → Int32)) (x1_92 : Int32) (x2_92 : Int32), ∀ (H : Heap) (locs : List Loc), va_P D vwCl (wv_42 cI cJ cZ aQ aQ_kinds aQ_which aQ_firsts aQ_seconds aQ_thirds aQ_nexts aQ_heads aQ_names aQ_variables aQ_holes aQ_sizes aQ_places aQ_conclusions aQ_premises aQ_counts aQ_hitOf aQ_hitOne aQ_hitTwo aQ_hitTerms aQ_image aQ_bound aQ_waits aQ_waitsFor aQ_seen aQ_goals aQ_steps aQ_looked aQ_under aQ_taken aQ_news aQ_order aQ_there aQ_back Q_thrown Q_all Q_statements Q_hitKind Q_hits Q_tries Q_takenAll Q_takenFirst Q_kinds Q_which Q_firsts Q_seconds Q_thirds Q_names_92 Q_variables_92 Q_holes_92 Q_sizes_92) H → va_D A (wv_42 cI cJ cZ aQ aQ_kinds aQ_which aQ_firsts aQ_seconds aQ_thirds aQ_nexts aQ_heads aQ_names aQ_variables aQ_holes aQ_sizes aQ_places aQ_conclusions aQ_premises aQ_counts aQ_hitOf aQ_hitOne aQ_hitTwo aQ_hitTerms aQ_image aQ_bound aQ_waits aQ_waitsFor aQ_seen aQ_goals aQ_steps aQ_looked aQ_under aQ_taken aQ_news aQ_order aQ_there aQ_back Q_thrown Q_all Q_statements Q_hitKind Q_hits Q_tries Q_takenAll Q_takenFirst Q_kinds Q_which Q_firsts Q_seconds Q_thirds Q_names_92 Q_variables_92 Q_holes_92 Q_sizes_92) → va_S A s.heap H locs → ∀ (ls : Array Slot), lv_has ls 4 [(0, .ref aQ), (1, .int x1_92), (2, .int x2_92)] → f_Q_tell_L92 Q_kinds Q_which Q_firsts Q_seconds Q_thirds n92 Q_names_92 Q_variables_92 Q_holes_92 Q_sizes_92 x1_92 x2_92 = some o → W p l e (headSpec (ws_Q_tell) rm_Q_tell).room s m ([.ref aQ, .int p0] : List Value).toArray below meth c H locs 0 0 (MQ below (WQ D vwCl none (wv_42 cI cJ cZ aQ aQ_kinds aQ_which aQ_firsts aQ_seconds aQ_thirds aQ_nexts aQ_heads aQ_names aQ_variables aQ_holes aQ_sizes aQ_places aQ_conclusions aQ_premises aQ_counts aQ_hitOf aQ_hitOne aQ_hitTwo aQ_hitTerms aQ_image aQ_bound aQ_waits aQ_waitsFor aQ_seen aQ_goals aQ_steps aQ_looked aQ_under aQ_taken aQ_news aQ_order aQ_there aQ_back Q_thrown Q_all Q_statements Q_hitKind Q_hits Q_tries Q_takenAll Q_takenFirst Q_kinds Q_which Q_firsts Q_seconds Q_thirds o.1 o.2.1 o.2.2.1 o.2.2.2) A) ([.ref aQ, .int p0] : List Value).toArray s 0 0 A) (F0 m 92 ls []) := by
    intro n92
    induction n92 with
    | zero =>
      intro Q_names_92 Q_variables_92 Q_holes_92 Q_sizes_92 x1_92 x2_92 H locs hP hD hS ls hl hf
      rw [f_Q_tell_L92] at hf
      cases hf
    | succ n92 ih92 =>
      intro Q_names_92 Q_variables_92 Q_holes_92 Q_sizes_92 x1_92 x2_92 H locs hP hD hS ls hl hf
      rw [f_Q_tell_L92] at hf
      refine lv_iload_n hx hb d_Q_tell_92 rfl (lv_at hl 2 rfl) ?_
      refine lv_iconst (v := 3) hx hb d_Q_tell_93 (by decide) ?_
      refine lv_icmp_ge (tgt := 205) hx hb d_Q_tell_94 (by decide) (fun c18 => ?_) (fun c18 => ?_)
      · have hf := ite_t c18 hf
        obtain rfl := Option.some.inj hf
        exact W.vret hx hb hr (fun t ht hW => ⟨rfl, by rw [ht]; exact hP, hD, hS.F ht⟩) hS.2.2 d_Q_tell_205
      · have hf := ite_f c18 hf
        refine lv_aload_n hx hb d_Q_tell_97 rfl (lv_at hl 0 rfl) ?_
        refine lv_iload_n hx hb d_Q_tell_98 rfl (lv_at hl 1 rfl) ?_
        refine lv_iload_n hx hb d_Q_tell_99 rfl (lv_at hl 2 rfl) ?_
        obtain ⟨r19, hr19, hf⟩ := of_bd hf
        refine rd_call (va_runV (As := [.int x1_92, .int x2_92]) (rest := []) ⟨hx, hb, hml, hown, hts⟩ (c_Q_part l D cI cJ cZ aQ aQ_kinds aQ_which aQ_firsts aQ_seconds aQ_thirds aQ_nexts aQ_heads aQ_names aQ_variables aQ_holes aQ_sizes aQ_places aQ_conclusions aQ_premises aQ_counts aQ_hitOf aQ_hitOne aQ_hitTwo aQ_hitTerms aQ_image aQ_bound aQ_waits aQ_waitsFor aQ_seen aQ_goals aQ_steps aQ_looked aQ_under aQ_taken aQ_news aQ_order aQ_there aQ_back Q_thrown Q_all Q_statements Q_hitKind Q_hits Q_tries Q_takenAll Q_takenFirst Q_firsts Q_seconds Q_thirds x1_92 x2_92 r19 hr19) (bigV 2 hts k4_218 k4_220 ks_Q_part k1_9 k4_221 rfl rfl hd_Q_part ⟨Nat.le_of_ble_eq_true rfl, Nat.le_of_ble_eq_true rfl⟩) (rd_preV hK hP [0, 3, 4, 5] rfl 0 rfl rfl rfl) rfl rfl hl.1 rfl (lv_room (Nat.le_of_ble_eq_true rfl)) d_Q_tell_100 ⟨Nat.le_of_ble_eq_true rfl, Nat.le_of_ble_eq_true rfl⟩) ?_
        refine lv_istore_n (lv' := [(3, .int r19), (0, .ref aQ), (1, .int x1_92), (2, .int x2_92)]) hx hb d_Q_tell_103 rfl hl (by decide) rfl (fun ls hl => ?_)
        refine lv_iload_n hx hb d_Q_tell_104 rfl (lv_at hl 0 rfl) ?_
        refine lv_iconst (v := -1) hx hb d_Q_tell_105 (by decide) ?_
        refine lv_icmp_ne (tgt := 112) hx hb d_Q_tell_106 (by decide) (fun c20 => ?_) (fun c20 => ?_)
        · have hf := ite_f c20 hf
          refine lv_aload_n hx hb d_Q_tell_112 rfl (lv_at hl 1 rfl) ?_
          refine va_get (D := D) (ci := 7) (v := .ref aQ_names) (C := RR_Q) (T := FF_Q) (N := 41) hx hb hts kin_Q hown hK.1 hP 0 rfl rfl 9 (by decide) (hts _ k4_76) (fun _ h9 => h9) rfl d_Q_tell_113 ?_
          refine lv_iload_n hx hb d_Q_tell_116 rfl (lv_at hl 2 rfl) ?_
          refine lv_dup2_11 hx hb d_Q_tell_117 rfl rfl ?_
          obtain ⟨h21, hf⟩ := of_gd hf
          refine va_iald hx hb hK.1 hP 6 0 rfl rfl (ixb_in h21) d_Q_tell_118 ?_
          refine lv_aload_n hx hb d_Q_tell_119 rfl (lv_at hl 1 rfl) ?_
          refine va_get (D := D) (ci := 7) (v := .ref aQ_names) (C := RR_Q) (T := FF_Q) (N := 41) hx hb hts kin_Q hown hK.1 hP 0 rfl rfl 9 (by decide) (hts _ k4_76) (fun _ h9 => h9) rfl d_Q_tell_120 ?_
          refine lv_iload_n hx hb d_Q_tell_123 rfl (lv_at hl 0 rfl) ?_
          obtain ⟨h22, hf⟩ := of_gd hf
          refine va_iald hx hb hK.1 hP 6 0 rfl rfl (ixb_in h22) d_Q_tell_124 ?_
          refine lv_ior hx hb d_Q_tell_125 ?_
          obtain ⟨h23, hf⟩ := of_gd hf
          obtain ⟨g24, eg24⟩ : ∃ y : Nat → Int32, y = upd Q_names_92 x1_92.toNatClampNeg ((Q_names_92 x1_92.toNatClampNeg) ||| (Q_names_92 r19.toNatClampNeg)) := ⟨_, rfl⟩
          have hf := of_nm eg24 hf
          refine va_iast hx hb hK.1 hP hD hS 6 0 rfl rfl (ixb_in h23) d_Q_tell_126 (fun H locs hP hD hS => ?_)
          rw [← eg24] at hP hD
          have hP : va_P D vwCl (wv_42 cI cJ cZ aQ aQ_kinds aQ_which aQ_firsts aQ_seconds aQ_thirds aQ_nexts aQ_heads aQ_names aQ_variables aQ_holes aQ_sizes aQ_places aQ_conclusions aQ_premises aQ_counts aQ_hitOf aQ_hitOne aQ_hitTwo aQ_hitTerms aQ_image aQ_bound aQ_waits aQ_waitsFor aQ_seen aQ_goals aQ_steps aQ_looked aQ_under aQ_taken aQ_news aQ_order aQ_there aQ_back Q_thrown Q_all Q_statements Q_hitKind Q_hits Q_tries Q_takenAll Q_takenFirst Q_kinds Q_which Q_firsts Q_seconds Q_thirds g24 Q_variables_92 Q_holes_92 Q_sizes_92) H := hP
          have hD : va_D A (wv_42 cI cJ cZ aQ aQ_kinds aQ_which aQ_firsts aQ_seconds aQ_thirds aQ_nexts aQ_heads aQ_names aQ_variables aQ_holes aQ_sizes aQ_places aQ_conclusions aQ_premises aQ_counts aQ_hitOf aQ_hitOne aQ_hitTwo aQ_hitTerms aQ_image aQ_bound aQ_waits aQ_waitsFor aQ_seen aQ_goals aQ_steps aQ_looked aQ_under aQ_taken aQ_news aQ_order aQ_there aQ_back Q_thrown Q_all Q_statements Q_hitKind Q_hits Q_tries Q_takenAll Q_takenFirst Q_kinds Q_which Q_firsts Q_seconds Q_thirds g24 Q_variables_92 Q_holes_92 Q_sizes_92) := hD
          refine lv_aload_n hx hb d_Q_tell_127 rfl (lv_at hl 1 rfl) ?_
          refine va_get (D := D) (ci := 7) (v := .ref aQ_variables) (C := RR_Q) (T := FF_Q) (N := 41) hx hb hts kin_Q hown hK.1 hP 0 rfl rfl 10 (by decide) (hts _ k4_77) (fun _ h9 => h9) rfl d_Q_tell_128 ?_
          refine lv_iload_n hx hb d_Q_tell_131 rfl (lv_at hl 2 rfl) ?_
          refine lv_dup2_11 hx hb d_Q_tell_132 rfl rfl ?_
          obtain ⟨h25, hf⟩ := of_gd hf
          refine va_iald hx hb hK.1 hP 7 0 rfl rfl (ixb_in h25) d_Q_tell_133 ?_
          refine lv_aload_n hx hb d_Q_tell_134 rfl (lv_at hl 1 rfl) ?_
          refine va_get (D := D) (ci := 7) (v := .ref aQ_variables) (C := RR_Q) (T := FF_Q) (N := 41) hx hb hts kin_Q hown hK.1 hP 0 rfl rfl 10 (by decide) (hts _ k4_77) (fun _ h9 => h9) rfl d_Q_tell_135 ?_
          refine lv_iload_n hx hb d_Q_tell_138 rfl (lv_at hl 0 rfl) ?_
          obtain ⟨h26, hf⟩ := of_gd hf
          refine va_iald hx hb hK.1 hP 7 0 rfl rfl (ixb_in h26) d_Q_tell_139 ?_
          refine lv_ior hx hb d_Q_tell_140 ?_
          obtain ⟨h27, hf⟩ := of_gd hf
          obtain ⟨g28, eg28⟩ : ∃ y : Nat → Int32, y = upd Q_variables_92 x1_92.toNatClampNeg ((Q_variables_92 x1_92.toNatClampNeg) ||| (Q_variables_92 r19.toNatClampNeg)) := ⟨_, rfl⟩
          have hf := of_nm eg28 hf
          refine va_iast hx hb hK.1 hP hD hS 7 0 rfl rfl (ixb_in h27) d_Q_tell_141 (fun H locs hP hD hS => ?_)
          rw [← eg28] at hP hD
          have hP : va_P D vwCl (wv_42 cI cJ cZ aQ aQ_kinds aQ_which aQ_firsts aQ_seconds aQ_thirds aQ_nexts aQ_heads aQ_names aQ_variables aQ_holes aQ_sizes aQ_places aQ_conclusions aQ_premises aQ_counts aQ_hitOf aQ_hitOne aQ_hitTwo aQ_hitTerms aQ_image aQ_bound aQ_waits aQ_waitsFor aQ_seen aQ_goals aQ_steps aQ_looked aQ_under aQ_taken aQ_news aQ_order aQ_there aQ_back Q_thrown Q_all Q_statements Q_hitKind Q_hits Q_tries Q_takenAll Q_takenFirst Q_kinds Q_which Q_firsts Q_seconds Q_thirds g24 g28 Q_holes_92 Q_sizes_92) H := hP
          have hD : va_D A (wv_42 cI cJ cZ aQ aQ_kinds aQ_which aQ_firsts aQ_seconds aQ_thirds aQ_nexts aQ_heads aQ_names aQ_variables aQ_holes aQ_sizes aQ_places aQ_conclusions aQ_premises aQ_counts aQ_hitOf aQ_hitOne aQ_hitTwo aQ_hitTerms aQ_image aQ_bound aQ_waits aQ_waitsFor aQ_seen aQ_goals aQ_steps aQ_looked aQ_under aQ_taken aQ_news aQ_order aQ_there aQ_back Q_thrown Q_all Q_statements Q_hitKind Q_hits Q_tries Q_takenAll Q_takenFirst Q_kinds Q_which Q_firsts Q_seconds Q_thirds g24 g28 Q_holes_92 Q_sizes_92) := hD
          refine lv_aload_n hx hb d_Q_tell_142 rfl (lv_at hl 1 rfl) ?_
          refine va_get (D := D) (ci := 7) (v := .ref aQ_holes) (C := RR_Q) (T := FF_Q) (N := 41) hx hb hts kin_Q hown hK.1 hP 0 rfl rfl 11 (by decide) (hts _ k4_78) (fun _ h9 => h9) rfl d_Q_tell_143 ?_
          refine lv_iload_n hx hb d_Q_tell_146 rfl (lv_at hl 2 rfl) ?_
          refine lv_dup2_11 hx hb d_Q_tell_147 rfl rfl ?_
          obtain ⟨h29, hf⟩ := of_gd hf
          refine va_iald hx hb hK.1 hP 8 0 rfl rfl (ixb_in h29) d_Q_tell_148 ?_
          refine lv_aload_n hx hb d_Q_tell_149 rfl (lv_at hl 1 rfl) ?_
          refine va_get (D := D) (ci := 7) (v := .ref aQ_holes) (C := RR_Q) (T := FF_Q) (N := 41) hx hb hts kin_Q hown hK.1 hP 0 rfl rfl 11 (by decide) (hts _ k4_78) (fun _ h9 => h9) rfl d_Q_tell_150 ?_
          refine lv_iload_n hx hb d_Q_tell_153 rfl (lv_at hl 0 rfl) ?_
          obtain ⟨h30, hf⟩ := of_gd hf
          refine va_iald hx hb hK.1 hP 8 0 rfl rfl (ixb_in h30) d_Q_tell_154 ?_
          refine lv_ior hx hb d_Q_tell_155 ?_
          obtain ⟨h31, hf⟩ := of_gd hf
          obtain ⟨g32, eg32⟩ : ∃ y : Nat → Int32, y = upd Q_holes_92 x1_92.toNatClampNeg ((Q_holes_92 x1_92.toNatClampNeg) ||| (Q_holes_92 r19.toNatClampNeg)) := ⟨_, rfl⟩
          have hf := of_nm eg32 hf
          refine va_iast hx hb hK.1 hP hD hS 8 0 rfl rfl (ixb_in h31) d_Q_tell_156 (fun H locs hP hD hS => ?_)
          rw [← eg32] at hP hD
          have hP : va_P D vwCl (wv_42 cI cJ cZ aQ aQ_kinds aQ_which aQ_firsts aQ_seconds aQ_thirds aQ_nexts aQ_heads aQ_names aQ_variables aQ_holes aQ_sizes aQ_places aQ_conclusions aQ_premises aQ_counts aQ_hitOf aQ_hitOne aQ_hitTwo aQ_hitTerms aQ_image aQ_bound aQ_waits aQ_waitsFor aQ_seen aQ_goals aQ_steps aQ_looked aQ_under aQ_taken aQ_news aQ_order aQ_there aQ_back Q_thrown Q_all Q_statements Q_hitKind Q_hits Q_tries Q_takenAll Q_takenFirst Q_kinds Q_which Q_firsts Q_seconds Q_thirds g24 g28 g32 Q_sizes_92) H := hP
          have hD : va_D A (wv_42 cI cJ cZ aQ aQ_kinds aQ_which aQ_firsts aQ_seconds aQ_thirds aQ_nexts aQ_heads aQ_names aQ_variables aQ_holes aQ_sizes aQ_places aQ_conclusions aQ_premises aQ_counts aQ_hitOf aQ_hitOne aQ_hitTwo aQ_hitTerms aQ_image aQ_bound aQ_waits aQ_waitsFor aQ_seen aQ_goals aQ_steps aQ_looked aQ_under aQ_taken aQ_news aQ_order aQ_there aQ_back Q_thrown Q_all Q_statements Q_hitKind Q_hits Q_tries Q_takenAll Q_takenFirst Q_kinds Q_which Q_firsts Q_seconds Q_thirds g24 g28 g32 Q_sizes_92) := hD
          refine lv_aload_n hx hb d_Q_tell_157 rfl (lv_at hl 1 rfl) ?_
          refine va_get (D := D) (ci := 7) (v := .ref aQ_sizes) (C := RR_Q) (T := FF_Q) (N := 41) hx hb hts kin_Q hown hK.1 hP 0 rfl rfl 12 (by decide) (hts _ k4_79) (fun _ h9 => h9) rfl d_Q_tell_158 ?_
          refine lv_iload_n hx hb d_Q_tell_161 rfl (lv_at hl 2 rfl) ?_
          refine lv_aload_n hx hb d_Q_tell_162 rfl (lv_at hl 1 rfl) ?_
          refine va_get (D := D) (ci := 7) (v := .ref aQ_sizes) (C := RR_Q) (T := FF_Q) (N := 41) hx hb hts kin_Q hown hK.1 hP 0 rfl rfl 12 (by decide) (hts _ k4_79) (fun _ h9 => h9) rfl d_Q_tell_163 ?_
          refine lv_iload_n hx hb d_Q_tell_166 rfl (lv_at hl 2 rfl) ?_
          obtain ⟨h33, hf⟩ := of_gd hf
          refine va_iald hx hb hK.1 hP 9 0 rfl rfl (ixb_in h33) d_Q_tell_167 ?_
          refine lv_aload_n hx hb d_Q_tell_168 rfl (lv_at hl 1 rfl) ?_
          refine va_get (D := D) (ci := 7) (v := .ref aQ_sizes) (C := RR_Q) (T := FF_Q) (N := 41) hx hb hts kin_Q hown hK.1 hP 0 rfl rfl 12 (by decide) (hts _ k4_79) (fun _ h9 => h9) rfl d_Q_tell_169 ?_
          refine lv_iload_n hx hb d_Q_tell_172 rfl (lv_at hl 0 rfl) ?_
          obtain ⟨h34, hf⟩ := of_gd hf
          refine va_iald hx hb hK.1 hP 9 0 rfl rfl (ixb_in h34) d_Q_tell_173 ?_
          refine lv_iadd hx hb d_Q_tell_174 ?_
          refine lv_ldc (v := 1000000) hx hb hown (hts _ k4_222) d_Q_tell_175 ?_
          refine lv_icmp_le (tgt := 185) hx hb d_Q_tell_177 (by decide) (fun c35 => ?_) (fun c35 => ?_)
          · have hf := ite_t c35 hf
            refine lv_aload_n hx hb d_Q_tell_185 rfl (lv_at hl 1 rfl) ?_
            refine va_get (D := D) (ci := 7) (v := .ref aQ_sizes) (C := RR_Q) (T := FF_Q) (N := 41) hx hb hts kin_Q hown hK.1 hP 0 rfl rfl 12 (by decide) (hts _ k4_79) (fun _ h9 => h9) rfl d_Q_tell_186 ?_
            refine lv_iload_n hx hb d_Q_tell_189 rfl (lv_at hl 2 rfl) ?_
            obtain ⟨h36, hf⟩ := of_gd hf
            refine va_iald hx hb hK.1 hP 9 0 rfl rfl (ixb_in h36) d_Q_tell_190 ?_
            refine lv_aload_n hx hb d_Q_tell_191 rfl (lv_at hl 1 rfl) ?_
            refine va_get (D := D) (ci := 7) (v := .ref aQ_sizes) (C := RR_Q) (T := FF_Q) (N := 41) hx hb hts kin_Q hown hK.1 hP 0 rfl rfl 12 (by decide) (hts _ k4_79) (fun _ h9 => h9) rfl d_Q_tell_192 ?_
            refine lv_iload_n hx hb d_Q_tell_195 rfl (lv_at hl 0 rfl) ?_
            obtain ⟨h37, hf⟩ := of_gd hf
            refine va_iald hx hb hK.1 hP 9 0 rfl rfl (ixb_in h37) d_Q_tell_196 ?_
            refine lv_iadd hx hb d_Q_tell_197 ?_
            obtain ⟨h38, hf⟩ := of_gd hf
            obtain ⟨g39, eg39⟩ : ∃ y : Nat → Int32, y = upd Q_sizes_92 x1_92.toNatClampNeg ((Q_sizes_92 x1_92.toNatClampNeg) + (Q_sizes_92 r19.toNatClampNeg)) := ⟨_, rfl⟩
            have hf := of_nm eg39 hf
            refine va_iast hx hb hK.1 hP hD hS 9 0 rfl rfl (ixb_in h38) d_Q_tell_198 (fun H locs hP hD hS => ?_)
            rw [← eg39] at hP hD
            have hP : va_P D vwCl (wv_42 cI cJ cZ aQ aQ_kinds aQ_which aQ_firsts aQ_seconds aQ_thirds aQ_nexts aQ_heads aQ_names aQ_variables aQ_holes aQ_sizes aQ_places aQ_conclusions aQ_premises aQ_counts aQ_hitOf aQ_hitOne aQ_hitTwo aQ_hitTerms aQ_image aQ_bound aQ_waits aQ_waitsFor aQ_seen aQ_goals aQ_steps aQ_looked aQ_under aQ_taken aQ_news aQ_order aQ_there aQ_back Q_thrown Q_all Q_statements Q_hitKind Q_hits Q_tries Q_takenAll Q_takenFirst Q_kinds Q_which Q_firsts Q_seconds Q_thirds g24 g28 g32 g39) H := hP
            have hD : va_D A (wv_42 cI cJ cZ aQ aQ_kinds aQ_which aQ_firsts aQ_seconds aQ_thirds aQ_nexts aQ_heads aQ_names aQ_variables aQ_holes aQ_sizes aQ_places aQ_conclusions aQ_premises aQ_counts aQ_hitOf aQ_hitOne aQ_hitTwo aQ_hitTerms aQ_image aQ_bound aQ_waits aQ_waitsFor aQ_seen aQ_goals aQ_steps aQ_looked aQ_under aQ_taken aQ_news aQ_order aQ_there aQ_back Q_thrown Q_all Q_statements Q_hitKind Q_hits Q_tries Q_takenAll Q_takenFirst Q_kinds Q_which Q_firsts Q_seconds Q_thirds g24 g28 g32 g39) := hD
            obtain ⟨x40, ex40⟩ : ∃ y : Int32, y = x2_92 + (1 : Int32) := ⟨_, rfl⟩
            refine lv_iinc (v := x40) (lv' := [(2, .int x40), (3, .int r19), (0, .ref aQ), (1, .int x1_92)]) hx hb d_Q_tell_199 hl (k := 3) rfl (by rw [ex40]; rfl) (by decide) rfl (fun ls hl => ?_)
            have hf := of_nm ex40 hf
            refine lv_goto (tgt := 92) hx hb d_Q_tell_202 (by decide) ?_
            exact ih92 _ _ _ _ _ _ _ _ hP hD hS _ (lv_sub hl [2, 3, 0] rfl) hf
          · have hf := ite_f c35 hf
            refine lv_ldc (v := 1000000) hx hb hown (hts _ k4_222) d_Q_tell_180 ?_
            refine lv_goto (tgt := 198) hx hb d_Q_tell_182 (by decide) ?_
            obtain ⟨h41, hf⟩ := of_gd hf
            obtain ⟨g42, eg42⟩ : ∃ y : Nat → Int32, y = upd Q_sizes_92 x1_92.toNatClampNeg (1000000 : Int32) := ⟨_, rfl⟩
            have hf := of_nm eg42 hf
            refine va_iast hx hb hK.1 hP hD hS 9 0 rfl rfl (ixb_in h41) d_Q_tell_198 (fun H locs hP hD hS => ?_)
            rw [← eg42] at hP hD
            have hP : va_P D vwCl (wv_42 cI cJ cZ aQ aQ_kinds aQ_which aQ_firsts aQ_seconds aQ_thirds aQ_nexts aQ_heads aQ_names aQ_variables aQ_holes aQ_sizes aQ_places aQ_conclusions aQ_premises aQ_counts aQ_hitOf aQ_hitOne aQ_hitTwo aQ_hitTerms aQ_image aQ_bound aQ_waits aQ_waitsFor aQ_seen aQ_goals aQ_steps aQ_looked aQ_under aQ_taken aQ_news aQ_order aQ_there aQ_back Q_thrown Q_all Q_statements Q_hitKind Q_hits Q_tries Q_takenAll Q_takenFirst Q_kinds Q_which Q_firsts Q_seconds Q_thirds g24 g28 g32 g42) H := hP
            have hD : va_D A (wv_42 cI cJ cZ aQ aQ_kinds aQ_which aQ_firsts aQ_seconds aQ_thirds aQ_nexts aQ_heads aQ_names aQ_variables aQ_holes aQ_sizes aQ_places aQ_conclusions aQ_premises aQ_counts aQ_hitOf aQ_hitOne aQ_hitTwo aQ_hitTerms aQ_image aQ_bound aQ_waits aQ_waitsFor aQ_seen aQ_goals aQ_steps aQ_looked aQ_under aQ_taken aQ_news aQ_order aQ_there aQ_back Q_thrown Q_all Q_statements Q_hitKind Q_hits Q_tries Q_takenAll Q_takenFirst Q_kinds Q_which Q_firsts Q_seconds Q_thirds g24 g28 g32 g42) := hD
            obtain ⟨x43, ex43⟩ : ∃ y : Int32, y = x2_92 + (1 : Int32) := ⟨_, rfl⟩
            refine lv_iinc (v := x43) (lv' := [(2, .int x43), (3, .int r19), (0, .ref aQ), (1, .int x1_92)]) hx hb d_Q_tell_199 hl (k := 3) rfl (by rw [ex43]; rfl) (by decide) rfl (fun ls hl => ?_)
            have hf := of_nm ex43 hf
            refine lv_goto (tgt := 92) hx hb d_Q_tell_202 (by decide) ?_
            exact ih92 _ _ _ _ _ _ _ _ hP hD hS _ (lv_sub hl [2, 3, 0] rfl) hf
        · have hf := ite_t c20 hf
          refine lv_goto (tgt := 199) hx hb d_Q_tell_109 (by decide) ?_
          obtain ⟨x44, ex44⟩ : ∃ y : Int32, y = x2_92 + (1 : Int32) := ⟨_, rfl⟩
          refine lv_iinc (v := x44) (lv' := [(2, .int x44), (3, .int r19), (0, .ref aQ), (1, .int x1_92)]) hx hb d_Q_tell_199 hl (k := 3) rfl (by rw [ex44]; rfl) (by decide) rfl (fun ls hl => ?_)
          have hf := of_nm ex44 hf
          refine lv_goto (tgt := 92) hx hb d_Q_tell_202 (by decide) ?_
          exact ih92 _ _ _ _ _ _ _ _ hP hD hS _ (lv_sub hl [2, 3, 0] rfl) hf
  have hB82 : ∀ (Q_names_82 : (Nat → Int32)) (Q_variables_82 : (Nat → Int32)) (Q_holes_82 : (Nat → Int32)) (Q_sizes_82 : (Nat → Int32)) (x1_82 : Int32) (s1_82 : Int32) (s2_82 : Int32), ∀ (H : Heap) (locs : List Loc), va_P D vwCl (wv_42 cI cJ cZ aQ aQ_kinds aQ_which aQ_firsts aQ_seconds aQ_thirds aQ_nexts aQ_heads aQ_names aQ_variables aQ_holes aQ_sizes aQ_places aQ_conclusions aQ_premises aQ_counts aQ_hitOf aQ_hitOne aQ_hitTwo aQ_hitTerms aQ_image aQ_bound aQ_waits aQ_waitsFor aQ_seen aQ_goals aQ_steps aQ_looked aQ_under aQ_taken aQ_news aQ_order aQ_there aQ_back Q_thrown Q_all Q_statements Q_hitKind Q_hits Q_tries Q_takenAll Q_takenFirst Q_kinds Q_which Q_firsts Q_seconds Q_thirds Q_names_82 Q_variables_82 Q_holes_82 Q_sizes_82) H → va_D A (wv_42 cI cJ cZ aQ aQ_kinds aQ_which aQ_firsts aQ_seconds aQ_thirds aQ_nexts aQ_heads aQ_names aQ_variables aQ_holes aQ_sizes aQ_places aQ_conclusions aQ_premises aQ_counts aQ_hitOf aQ_hitOne aQ_hitTwo aQ_hitTerms aQ_image aQ_bound aQ_waits aQ_waitsFor aQ_seen aQ_goals aQ_steps aQ_looked aQ_under aQ_taken aQ_news aQ_order aQ_there aQ_back Q_thrown Q_all Q_statements Q_hitKind Q_hits Q_tries Q_takenAll Q_takenFirst Q_kinds Q_which Q_firsts Q_seconds Q_thirds Q_names_82 Q_variables_82 Q_holes_82 Q_sizes_82) → va_S A s.heap H locs → ∀ (ls : Array Slot), lv_has ls 4 [(0, .ref aQ), (1, .int x1_82)] → f_Q_tell_B82 Q_kinds Q_which Q_firsts Q_seconds Q_thirds Q_names_82 Q_variables_82 Q_holes_82 Q_sizes_82 x1_82 s1_82 s2_82 = some o → W p l e (headSpec (ws_Q_tell) rm_Q_tell).room s m ([.ref aQ, .int p0] : List Value).toArray below meth c H locs 0 0 (MQ below (WQ D vwCl none (wv_42 cI cJ cZ aQ aQ_kinds aQ_which aQ_firsts aQ_seconds aQ_thirds aQ_nexts aQ_heads aQ_names aQ_variables aQ_holes aQ_sizes aQ_places aQ_conclusions aQ_premises aQ_counts aQ_hitOf aQ_hitOne aQ_hitTwo aQ_hitTerms aQ_image aQ_bound aQ_waits aQ_waitsFor aQ_seen aQ_goals aQ_steps aQ_looked aQ_under aQ_taken aQ_news aQ_order aQ_there aQ_back Q_thrown Q_all Q_statements Q_hitKind Q_hits Q_tries Q_takenAll Q_takenFirst Q_kinds Q_which Q_firsts Q_seconds Q_thirds o.1 o.2.1 o.2.2.1 o.2.2.2) A) ([.ref aQ, .int p0] : List Value).toArray s 0 0 A) (F0 m 82 ls [.int s2_82, .int s1_82, .ref aQ_holes]) := by
    intro Q_names_82 Q_variables_82 Q_holes_82 Q_sizes_82 x1_82 s1_82 s2_82 H locs hP hD hS ls hl hf
    rw [f_Q_tell_B82] at hf
    obtain ⟨h14, hf⟩ := of_gd hf
    obtain ⟨g15, eg15⟩ : ∃ y : Nat → Int32, y = upd Q_holes_82 s1_82.toNatClampNeg s2_82 := ⟨_, rfl⟩
    have hf := of_nm eg15 hf
    refine va_iast hx hb hK.1 hP hD hS 8 0 rfl rfl (ixb_in h14) d_Q_tell_82 (fun H locs hP hD hS => ?_)
    rw [← eg15] at hP hD
    have hP : va_P D vwCl (wv_42 cI cJ cZ aQ aQ_kinds aQ_which aQ_firsts aQ_seconds aQ_thirds aQ_nexts aQ_heads aQ_names aQ_variables aQ_holes aQ_sizes aQ_places aQ_conclusions aQ_premises aQ_counts aQ_hitOf aQ_hitOne aQ_hitTwo aQ_hitTerms aQ_image aQ_bound aQ_waits aQ_waitsFor aQ_seen aQ_goals aQ_steps aQ_looked aQ_under aQ_taken aQ_news aQ_order aQ_there aQ_back Q_thrown Q_all Q_statements Q_hitKind Q_hits Q_tries Q_takenAll Q_takenFirst Q_kinds Q_which Q_firsts Q_seconds Q_thirds Q_names_82 Q_variables_82 g15 Q_sizes_82) H := hP
    have hD : va_D A (wv_42 cI cJ cZ aQ aQ_kinds aQ_which aQ_firsts aQ_seconds aQ_thirds aQ_nexts aQ_heads aQ_names aQ_variables aQ_holes aQ_sizes aQ_places aQ_conclusions aQ_premises aQ_counts aQ_hitOf aQ_hitOne aQ_hitTwo aQ_hitTerms aQ_image aQ_bound aQ_waits aQ_waitsFor aQ_seen aQ_goals aQ_steps aQ_looked aQ_under aQ_taken aQ_news aQ_order aQ_there aQ_back Q_thrown Q_all Q_statements Q_hitKind Q_hits Q_tries Q_takenAll Q_takenFirst Q_kinds Q_which Q_firsts Q_seconds Q_thirds Q_names_82 Q_variables_82 g15 Q_sizes_82) := hD
    refine lv_aload_n hx hb d_Q_tell_83 rfl (lv_at hl 0 rfl) ?_
    refine va_get (D := D) (ci := 7) (v := .ref aQ_sizes) (C := RR_Q) (T := FF_Q) (N := 41) hx hb hts kin_Q hown hK.1 hP 0 rfl rfl 12 (by decide) (hts _ k4_79) (fun _ h9 => h9) rfl d_Q_tell_84 ?_
    refine lv_iload_n hx hb d_Q_tell_87 rfl (lv_at hl 1 rfl) ?_
    refine lv_iconst (v := 1) hx hb d_Q_tell_88 (by decide) ?_
    obtain ⟨h16, hf⟩ := of_gd hf
    obtain ⟨g17, eg17⟩ : ∃ y : Nat → Int32, y = upd Q_sizes_82 x1_82.toNatClampNeg (1 : Int32) := ⟨_, rfl⟩
    have hf := of_nm eg17 hf
    refine va_iast hx hb hK.1 hP hD hS 9 0 rfl rfl (ixb_in h16) d_Q_tell_89 (fun H locs hP hD hS => ?_)
    rw [← eg17] at hP hD
    have hP : va_P D vwCl (wv_42 cI cJ cZ aQ aQ_kinds aQ_which aQ_firsts aQ_seconds aQ_thirds aQ_nexts aQ_heads aQ_names aQ_variables aQ_holes aQ_sizes aQ_places aQ_conclusions aQ_premises aQ_counts aQ_hitOf aQ_hitOne aQ_hitTwo aQ_hitTerms aQ_image aQ_bound aQ_waits aQ_waitsFor aQ_seen aQ_goals aQ_steps aQ_looked aQ_under aQ_taken aQ_news aQ_order aQ_there aQ_back Q_thrown Q_all Q_statements Q_hitKind Q_hits Q_tries Q_takenAll Q_takenFirst Q_kinds Q_which Q_firsts Q_seconds Q_thirds Q_names_82 Q_variables_82 g15 g17) H := hP
    have hD : va_D A (wv_42 cI cJ cZ aQ aQ_kinds aQ_which aQ_firsts aQ_seconds aQ_thirds aQ_nexts aQ_heads aQ_names aQ_variables aQ_holes aQ_sizes aQ_places aQ_conclusions aQ_premises aQ_counts aQ_hitOf aQ_hitOne aQ_hitTwo aQ_hitTerms aQ_image aQ_bound aQ_waits aQ_waitsFor aQ_seen aQ_goals aQ_steps aQ_looked aQ_under aQ_taken aQ_news aQ_order aQ_there aQ_back Q_thrown Q_all Q_statements Q_hitKind Q_hits Q_tries Q_takenAll Q_takenFirst Q_kinds Q_which Q_firsts Q_seconds Q_thirds Q_names_82 Q_variables_82 g15 g17) := hD
    refine lv_iconst (v := 0) hx hb d_Q_tell_90 (by decide) ?_
    refine lv_istore_n (lv' := [(2, .int (0 : Int32)), (0, .ref aQ), (1, .int x1_82)]) hx hb d_Q_tell_91 rfl hl (by decide) rfl (fun ls hl => ?_)
    exact hL92 FU _ _ _ _ _ _ _ _ hP hD hS _ (lv_sub hl [1, 2, 0] rfl) hf
  have hB54 : ∀ (Q_names_54 : (Nat → Int32)) (Q_variables_54 : (Nat → Int32)) (Q_holes_54 : (Nat → Int32)) (Q_sizes_54 : (Nat → Int32)) (x1_54 : Int32) (s1_54 : Int32) (s2_54 : Int32), ∀ (H : Heap) (locs : List Loc), va_P D vwCl (wv_42 cI cJ cZ aQ aQ_kinds aQ_which aQ_firsts aQ_seconds aQ_thirds aQ_nexts aQ_heads aQ_names aQ_variables aQ_holes aQ_sizes aQ_places aQ_conclusions aQ_premises aQ_counts aQ_hitOf aQ_hitOne aQ_hitTwo aQ_hitTerms aQ_image aQ_bound aQ_waits aQ_waitsFor aQ_seen aQ_goals aQ_steps aQ_looked aQ_under aQ_taken aQ_news aQ_order aQ_there aQ_back Q_thrown Q_all Q_statements Q_hitKind Q_hits Q_tries Q_takenAll Q_takenFirst Q_kinds Q_which Q_firsts Q_seconds Q_thirds Q_names_54 Q_variables_54 Q_holes_54 Q_sizes_54) H → va_D A (wv_42 cI cJ cZ aQ aQ_kinds aQ_which aQ_firsts aQ_seconds aQ_thirds aQ_nexts aQ_heads aQ_names aQ_variables aQ_holes aQ_sizes aQ_places aQ_conclusions aQ_premises aQ_counts aQ_hitOf aQ_hitOne aQ_hitTwo aQ_hitTerms aQ_image aQ_bound aQ_waits aQ_waitsFor aQ_seen aQ_goals aQ_steps aQ_looked aQ_under aQ_taken aQ_news aQ_order aQ_there aQ_back Q_thrown Q_all Q_statements Q_hitKind Q_hits Q_tries Q_takenAll Q_takenFirst Q_kinds Q_which Q_firsts Q_seconds Q_thirds Q_names_54 Q_variables_54 Q_holes_54 Q_sizes_54) → va_S A s.heap H locs → ∀ (ls : Array Slot), lv_has ls 4 [(0, .ref aQ), (1, .int x1_54)] → f_Q_tell_B54 Q_kinds Q_which Q_firsts Q_seconds Q_thirds Q_names_54 Q_variables_54 Q_holes_54 Q_sizes_54 x1_54 s1_54 s2_54 = some o → W p l e (headSpec (ws_Q_tell) rm_Q_tell).room s m ([.ref aQ, .int p0] : List Value).toArray below meth c H locs 0 0 (MQ below (WQ D vwCl none (wv_42 cI cJ cZ aQ aQ_kinds aQ_which aQ_firsts aQ_seconds aQ_thirds aQ_nexts aQ_heads aQ_names aQ_variables aQ_holes aQ_sizes aQ_places aQ_conclusions aQ_premises aQ_counts aQ_hitOf aQ_hitOne aQ_hitTwo aQ_hitTerms aQ_image aQ_bound aQ_waits aQ_waitsFor aQ_seen aQ_goals aQ_steps aQ_looked aQ_under aQ_taken aQ_news aQ_order aQ_there aQ_back Q_thrown Q_all Q_statements Q_hitKind Q_hits Q_tries Q_takenAll Q_takenFirst Q_kinds Q_which Q_firsts Q_seconds Q_thirds o.1 o.2.1 o.2.2.1 o.2.2.2) A) ([.ref aQ, .int p0] : List Value).toArray s 0 0 A) (F0 m 54 ls [.int s2_54, .int s1_54, .ref aQ_variables]) := by
    intro Q_names_54 Q_variables_54 Q_holes_54 Q_sizes_54 x1_54 s1_54 s2_54 H locs hP hD hS ls hl hf
    rw [f_Q_tell_B54] at hf
    obtain ⟨h9, hf⟩ := of_gd hf
    obtain ⟨g10, eg10⟩ : ∃ y : Nat → Int32, y = upd Q_variables_54 s1_54.toNatClampNeg s2_54 := ⟨_, rfl⟩
    have hf := of_nm eg10 hf
    refine va_iast hx hb hK.1 hP hD hS 7 0 rfl rfl (ixb_in h9) d_Q_tell_54 (fun H locs hP hD hS => ?_)
    rw [← eg10] at hP hD
    have hP : va_P D vwCl (wv_42 cI cJ cZ aQ aQ_kinds aQ_which aQ_firsts aQ_seconds aQ_thirds aQ_nexts aQ_heads aQ_names aQ_variables aQ_holes aQ_sizes aQ_places aQ_conclusions aQ_premises aQ_counts aQ_hitOf aQ_hitOne aQ_hitTwo aQ_hitTerms aQ_image aQ_bound aQ_waits aQ_waitsFor aQ_seen aQ_goals aQ_steps aQ_looked aQ_under aQ_taken aQ_news aQ_order aQ_there aQ_back Q_thrown Q_all Q_statements Q_hitKind Q_hits Q_tries Q_takenAll Q_takenFirst Q_kinds Q_which Q_firsts Q_seconds Q_thirds Q_names_54 g10 Q_holes_54 Q_sizes_54) H := hP
    have hD : va_D A (wv_42 cI cJ cZ aQ aQ_kinds aQ_which aQ_firsts aQ_seconds aQ_thirds aQ_nexts aQ_heads aQ_names aQ_variables aQ_holes aQ_sizes aQ_places aQ_conclusions aQ_premises aQ_counts aQ_hitOf aQ_hitOne aQ_hitTwo aQ_hitTerms aQ_image aQ_bound aQ_waits aQ_waitsFor aQ_seen aQ_goals aQ_steps aQ_looked aQ_under aQ_taken aQ_news aQ_order aQ_there aQ_back Q_thrown Q_all Q_statements Q_hitKind Q_hits Q_tries Q_takenAll Q_takenFirst Q_kinds Q_which Q_firsts Q_seconds Q_thirds Q_names_54 g10 Q_holes_54 Q_sizes_54) := hD
    refine lv_aload_n hx hb d_Q_tell_55 rfl (lv_at hl 0 rfl) ?_
    refine va_get (D := D) (ci := 7) (v := .ref aQ_holes) (C := RR_Q) (T := FF_Q) (N := 41) hx hb hts kin_Q hown hK.1 hP 0 rfl rfl 11 (by decide) (hts _ k4_78) (fun _ h9 => h9) rfl d_Q_tell_56 ?_
    refine lv_iload_n hx hb d_Q_tell_59 rfl (lv_at hl 1 rfl) ?_
    refine lv_aload_n hx hb d_Q_tell_60 rfl (lv_at hl 0 rfl) ?_
    refine va_get (D := D) (ci := 7) (v := .ref aQ_kinds) (C := RR_Q) (T := FF_Q) (N := 41) hx hb hts kin_Q hown hK.1 hP 0 rfl rfl 1 (by decide) (hts _ k4_68) (fun _ h9 => h9) rfl d_Q_tell_61 ?_
    refine lv_iload_n hx hb d_Q_tell_64 rfl (lv_at hl 1 rfl) ?_
    obtain ⟨h11, hf⟩ := of_gd hf
    refine va_iald hx hb hK.1 hP 1 0 rfl rfl (ixb_in h11) d_Q_tell_65 ?_
    refine lv_iconst (v := 2) hx hb d_Q_tell_66 (by decide) ?_
    refine lv_icmp_ne (tgt := 81) hx hb d_Q_tell_67 (by decide) (fun c12 => ?_) (fun c12 => ?_)
    · have hf := ite_f c12 hf
      refine lv_iconst (v := 0) hx hb d_Q_tell_81 (by decide) ?_
      exact hB82 _ _ _ _ _ _ _ _ _ hP hD hS _ (lv_sub hl [0, 1] rfl) hf
    · have hf := ite_t c12 hf
      refine lv_iconst (v := 1) hx hb d_Q_tell_70 (by decide) ?_
      refine lv_aload_n hx hb d_Q_tell_71 rfl (lv_at hl 0 rfl) ?_
      refine va_get (D := D) (ci := 7) (v := .ref aQ_which) (C := RR_Q) (T := FF_Q) (N := 41) hx hb hts kin_Q hown hK.1 hP 0 rfl rfl 2 (by decide) (hts _ k4_69) (fun _ h9 => h9) rfl d_Q_tell_72 ?_
      refine lv_iload_n hx hb d_Q_tell_75 rfl (lv_at hl 1 rfl) ?_
      obtain ⟨h13, hf⟩ := of_gd hf
      refine va_iald hx hb hK.1 hP 2 0 rfl rfl (ixb_in h13) d_Q_tell_76 ?_
      refine lv_ishl hx hb d_Q_tell_77 ?_
      refine lv_goto (tgt := 82) hx hb d_Q_tell_78 (by decide) ?_
      exact hB82 _ _ _ _ _ _ _ _ _ hP hD hS _ (lv_sub hl [0, 1] rfl) hf
  have hB26 : ∀ (Q_names_26 : (Nat → Int32)) (Q_variables_26 : (Nat → Int32)) (Q_holes_26 : (Nat → Int32)) (Q_sizes_26 : (Nat → Int32)) (x1_26 : Int32) (s1_26 : Int32) (s2_26 : Int32), ∀ (H : Heap) (locs : List Loc), va_P D vwCl (wv_42 cI cJ cZ aQ aQ_kinds aQ_which aQ_firsts aQ_seconds aQ_thirds aQ_nexts aQ_heads aQ_names aQ_variables aQ_holes aQ_sizes aQ_places aQ_conclusions aQ_premises aQ_counts aQ_hitOf aQ_hitOne aQ_hitTwo aQ_hitTerms aQ_image aQ_bound aQ_waits aQ_waitsFor aQ_seen aQ_goals aQ_steps aQ_looked aQ_under aQ_taken aQ_news aQ_order aQ_there aQ_back Q_thrown Q_all Q_statements Q_hitKind Q_hits Q_tries Q_takenAll Q_takenFirst Q_kinds Q_which Q_firsts Q_seconds Q_thirds Q_names_26 Q_variables_26 Q_holes_26 Q_sizes_26) H → va_D A (wv_42 cI cJ cZ aQ aQ_kinds aQ_which aQ_firsts aQ_seconds aQ_thirds aQ_nexts aQ_heads aQ_names aQ_variables aQ_holes aQ_sizes aQ_places aQ_conclusions aQ_premises aQ_counts aQ_hitOf aQ_hitOne aQ_hitTwo aQ_hitTerms aQ_image aQ_bound aQ_waits aQ_waitsFor aQ_seen aQ_goals aQ_steps aQ_looked aQ_under aQ_taken aQ_news aQ_order aQ_there aQ_back Q_thrown Q_all Q_statements Q_hitKind Q_hits Q_tries Q_takenAll Q_takenFirst Q_kinds Q_which Q_firsts Q_seconds Q_thirds Q_names_26 Q_variables_26 Q_holes_26 Q_sizes_26) → va_S A s.heap H locs → ∀ (ls : Array Slot), lv_has ls 4 [(0, .ref aQ), (1, .int x1_26)] → f_Q_tell_B26 Q_kinds Q_which Q_firsts Q_seconds Q_thirds Q_names_26 Q_variables_26 Q_holes_26 Q_sizes_26 x1_26 s1_26 s2_26 = some o → W p l e (headSpec (ws_Q_tell) rm_Q_tell).room s m ([.ref aQ, .int p0] : List Value).toArray below meth c H locs 0 0 (MQ below (WQ D vwCl none (wv_42 cI cJ cZ aQ aQ_kinds aQ_which aQ_firsts aQ_seconds aQ_thirds aQ_nexts aQ_heads aQ_names aQ_variables aQ_holes aQ_sizes aQ_places aQ_conclusions aQ_premises aQ_counts aQ_hitOf aQ_hitOne aQ_hitTwo aQ_hitTerms aQ_image aQ_bound aQ_waits aQ_waitsFor aQ_seen aQ_goals aQ_steps aQ_looked aQ_under aQ_taken aQ_news aQ_order aQ_there aQ_back Q_thrown Q_all Q_statements Q_hitKind Q_hits Q_tries Q_takenAll Q_takenFirst Q_kinds Q_which Q_firsts Q_seconds Q_thirds o.1 o.2.1 o.2.2.1 o.2.2.2) A) ([.ref aQ, .int p0] : List Value).toArray s 0 0 A) (F0 m 26 ls [.int s2_26, .int s1_26, .ref aQ_names]) := by
    intro Q_names_26 Q_variables_26 Q_holes_26 Q_sizes_26 x1_26 s1_26 s2_26 H locs hP hD hS ls hl hf
    rw [f_Q_tell_B26] at hf
    obtain ⟨h4, hf⟩ := of_gd hf
    obtain ⟨g5, eg5⟩ : ∃ y : Nat → Int32, y = upd Q_names_26 s1_26.toNatClampNeg s2_26 := ⟨_, rfl⟩
    have hf := of_nm eg5 hf
    refine va_iast hx hb hK.1 hP hD hS 6 0 rfl rfl (ixb_in h4) d_Q_tell_26 (fun H locs hP hD hS => ?_)
    rw [← eg5] at hP hD
    have hP : va_P D vwCl (wv_42 cI cJ cZ aQ aQ_kinds aQ_which aQ_firsts aQ_seconds aQ_thirds aQ_nexts aQ_heads aQ_names aQ_variables aQ_holes aQ_sizes aQ_places aQ_conclusions aQ_premises aQ_counts aQ_hitOf aQ_hitOne aQ_hitTwo aQ_hitTerms aQ_image aQ_bound aQ_waits aQ_waitsFor aQ_seen aQ_goals aQ_steps aQ_looked aQ_under aQ_taken aQ_news aQ_order aQ_there aQ_back Q_thrown Q_all Q_statements Q_hitKind Q_hits Q_tries Q_takenAll Q_takenFirst Q_kinds Q_which Q_firsts Q_seconds Q_thirds g5 Q_variables_26 Q_holes_26 Q_sizes_26) H := hP
    have hD : va_D A (wv_42 cI cJ cZ aQ aQ_kinds aQ_which aQ_firsts aQ_seconds aQ_thirds aQ_nexts aQ_heads aQ_names aQ_variables aQ_holes aQ_sizes aQ_places aQ_conclusions aQ_premises aQ_counts aQ_hitOf aQ_hitOne aQ_hitTwo aQ_hitTerms aQ_image aQ_bound aQ_waits aQ_waitsFor aQ_seen aQ_goals aQ_steps aQ_looked aQ_under aQ_taken aQ_news aQ_order aQ_there aQ_back Q_thrown Q_all Q_statements Q_hitKind Q_hits Q_tries Q_takenAll Q_takenFirst Q_kinds Q_which Q_firsts Q_seconds Q_thirds g5 Q_variables_26 Q_holes_26 Q_sizes_26) := hD
    refine lv_aload_n hx hb d_Q_tell_27 rfl (lv_at hl 0 rfl) ?_
    refine va_get (D := D) (ci := 7) (v := .ref aQ_variables) (C := RR_Q) (T := FF_Q) (N := 41) hx hb hts kin_Q hown hK.1 hP 0 rfl rfl 10 (by decide) (hts _ k4_77) (fun _ h9 => h9) rfl d_Q_tell_28 ?_
    refine lv_iload_n hx hb d_Q_tell_31 rfl (lv_at hl 1 rfl) ?_
    refine lv_aload_n hx hb d_Q_tell_32 rfl (lv_at hl 0 rfl) ?_
    refine va_get (D := D) (ci := 7) (v := .ref aQ_kinds) (C := RR_Q) (T := FF_Q) (N := 41) hx hb hts kin_Q hown hK.1 hP 0 rfl rfl 1 (by decide) (hts _ k4_68) (fun _ h9 => h9) rfl d_Q_tell_33 ?_
    refine lv_iload_n hx hb d_Q_tell_36 rfl (lv_at hl 1 rfl) ?_
    obtain ⟨h6, hf⟩ := of_gd hf
    refine va_iald hx hb hK.1 hP 1 0 rfl rfl (ixb_in h6) d_Q_tell_37 ?_
    refine lv_iconst (v := 1) hx hb d_Q_tell_38 (by decide) ?_
    refine lv_icmp_ne (tgt := 53) hx hb d_Q_tell_39 (by decide) (fun c7 => ?_) (fun c7 => ?_)
    · have hf := ite_f c7 hf
      refine lv_iconst (v := 0) hx hb d_Q_tell_53 (by decide) ?_
      exact hB54 _ _ _ _ _ _ _ _ _ hP hD hS _ (lv_sub hl [0, 1] rfl) hf
    · have hf := ite_t c7 hf
      refine lv_iconst (v := 1) hx hb d_Q_tell_42 (by decide) ?_
      refine lv_aload_n hx hb d_Q_tell_43 rfl (lv_at hl 0 rfl) ?_
      refine va_get (D := D) (ci := 7) (v := .ref aQ_which) (C := RR_Q) (T := FF_Q) (N := 41) hx hb hts kin_Q hown hK.1 hP 0 rfl rfl 2 (by decide) (hts _ k4_69) (fun _ h9 => h9) rfl d_Q_tell_44 ?_
      refine lv_iload_n hx hb d_Q_tell_47 rfl (lv_at hl 1 rfl) ?_
      obtain ⟨h8, hf⟩ := of_gd hf
      refine va_iald hx hb hK.1 hP 2 0 rfl rfl (ixb_in h8) d_Q_tell_48 ?_
      refine lv_ishl hx hb d_Q_tell_49 ?_
      refine lv_goto (tgt := 54) hx hb d_Q_tell_50 (by decide) ?_
      exact hB54 _ _ _ _ _ _ _ _ _ hP hD hS _ (lv_sub hl [0, 1] rfl) hf
  rw [f_Q_tell] at hf
  refine lv_aload_n hx hb d_Q_tell_0 rfl (lv_at hl 0 rfl) ?_
  refine va_get (D := D) (ci := 7) (v := .ref aQ_names) (C := RR_Q) (T := FF_Q) (N := 41) hx hb hts kin_Q hown hK.1 hP 0 rfl rfl 9 (by decide) (hts _ k4_76) (fun _ h9 => h9) rfl d_Q_tell_1 ?_
  refine lv_iload_n hx hb d_Q_tell_4 rfl (lv_at hl 1 rfl) ?_
  refine lv_aload_n hx hb d_Q_tell_5 rfl (lv_at hl 0 rfl) ?_
  refine va_get (D := D) (ci := 7) (v := .ref aQ_kinds) (C := RR_Q) (T := FF_Q) (N := 41) hx hb hts kin_Q hown hK.1 hP 0 rfl rfl 1 (by decide) (hts _ k4_68) (fun _ h9 => h9) rfl d_Q_tell_6 ?_
  refine lv_iload_n hx hb d_Q_tell_9 rfl (lv_at hl 1 rfl) ?_
  obtain ⟨h1, hf⟩ := of_gd hf
  refine va_iald hx hb hK.1 hP 1 0 rfl rfl (ixb_in h1) d_Q_tell_10 ?_
  refine lv_if_ne (tgt := 25) hx hb d_Q_tell_11 (by decide) (fun c2 => ?_) (fun c2 => ?_)
  · have hf := ite_f c2 hf
    refine lv_iconst (v := 0) hx hb d_Q_tell_25 (by decide) ?_
    exact hB26 _ _ _ _ _ _ _ _ _ hP hD hS _ (lv_sub hl [0, 1] rfl) hf
  · have hf := ite_t c2 hf
    refine lv_iconst (v := 1) hx hb d_Q_tell_14 (by decide) ?_
    refine lv_aload_n hx hb d_Q_tell_15 rfl (lv_at hl 0 rfl) ?_
    refine va_get (D := D) (ci := 7) (v := .ref aQ_which) (C := RR_Q) (T := FF_Q) (N := 41) hx hb hts kin_Q hown hK.1 hP 0 rfl rfl 2 (by decide) (hts _ k4_69) (fun _ h9 => h9) rfl d_Q_tell_16 ?_
    refine lv_iload_n hx hb d_Q_tell_19 rfl (lv_at hl 1 rfl) ?_
    obtain ⟨h3, hf⟩ := of_gd hf
    refine va_iald hx hb hK.1 hP 2 0 rfl rfl (ixb_in h3) d_Q_tell_20 ?_
    refine lv_ishl hx hb d_Q_tell_21 ?_
    refine lv_goto (tgt := 26) hx hb d_Q_tell_22 (by decide) ?_
    exact hB26 _ _ _ _ _ _ _ _ _ hP hD hS _ (lv_sub hl [0, 1] rfl) hf
def f_Q_make_B87 (K21 : Int32 → (Nat → Int32) → (Nat → Int32) → (Nat → Int32) → (Nat → Int32) → (Nat → Int32) → (Nat → Int32) → (Nat → Int32) → (Nat → Int32) → (Nat → Int32) → (Nat → Int32) → (Nat → Int32) → Int32 → Int32 → Int32 → Int32 → Int32 → Int32 → Int32 → Int32 → Option (Int32 × Int32 × (Nat → Int32) × (Nat → Int32) × (Nat → Int32) × (Nat → Int32) × (Nat → Int32) × (Nat → Int32) × (Nat → Int32) × (Nat → Int32) × (Nat → Int32) × (Nat → Int32) × (Nat → Int32))) (Q_all_87 : Int32) (Q_kinds_87 : (Nat → Int32)) (Q_which_87 : (Nat → Int32)) (Q_firsts_87 : (Nat → Int32)) (Q_seconds_87 : (Nat → Int32)) (Q_thirds_87 : (Nat → Int32)) (Q_nexts_87 : (Nat → Int32)) (Q_heads_87 : (Nat → Int32)) (Q_names_87 : (Nat → Int32)) (Q_variables_87 : (Nat → Int32)) (Q_holes_87 : (Nat → Int32)) (Q_sizes_87 : (Nat → Int32)) (x1_87 : Int32) (x2_87 : Int32) (x3_87 : Int32) (x4_87 : Int32) (x5_87 : Int32) (x6_87 : Int32) (x7_87 : Int32) (x8_87 : Int32) : Option (Int32 × Int32 × (Nat → Int32) × (Nat → Int32) × (Nat → Int32) × (Nat → Int32) × (Nat → Int32) × (Nat → Int32) × (Nat → Int32) × (Nat → Int32) × (Nat → Int32) × (Nat → Int32) × (Nat → Int32)) :=
  gd (ixb x8_87 101100) <|
  nm (Q_nexts_87 x8_87.toNatClampNeg) fun x35 =>
  K21 Q_all_87 Q_kinds_87 Q_which_87 Q_firsts_87 Q_seconds_87 Q_thirds_87 Q_nexts_87 Q_heads_87 Q_names_87 Q_variables_87 Q_holes_87 Q_sizes_87 x1_87 x2_87 x3_87 x4_87 x5_87 x6_87 x7_87 x35
def f_Q_make_B213 (Q_all_213 : Int32) (Q_kinds_213 : (Nat → Int32)) (Q_which_213 : (Nat → Int32)) (Q_firsts_213 : (Nat → Int32)) (Q_seconds_213 : (Nat → Int32)) (Q_thirds_213 : (Nat → Int32)) (Q_nexts_213 : (Nat → Int32)) (Q_heads_213 : (Nat → Int32)) (Q_names_213 : (Nat → Int32)) (Q_variables_213 : (Nat → Int32)) (Q_holes_213 : (Nat → Int32)) (Q_sizes_213 : (Nat → Int32)) : Option (Int32 × Int32 × (Nat → Int32) × (Nat → Int32) × (Nat → Int32) × (Nat → Int32) × (Nat → Int32) × (Nat → Int32) × (Nat → Int32) × (Nat → Int32) × (Nat → Int32) × (Nat → Int32) × (Nat → Int32)) :=
  nm (Q_all_213 + (1 : Int32)) fun x36 =>
  some (x36 - (1 : Int32), x36, Q_kinds_213, Q_which_213, Q_firsts_213, Q_seconds_213, Q_thirds_213, Q_nexts_213, Q_heads_213, Q_names_213, Q_variables_213, Q_holes_213, Q_sizes_213)
def f_Q_make_L21 : Nat → Int32 → (Nat → Int32) → (Nat → Int32) → (Nat → Int32) → (Nat → Int32) → (Nat → Int32) → (Nat → Int32) → (Nat → Int32) → (Nat → Int32) → (Nat → Int32) → (Nat → Int32) → (Nat → Int32) → Int32 → Int32 → Int32 → Int32 → Int32 → Int32 → Int32 → Int32 → Option (Int32 × Int32 × (Nat → Int32) × (Nat → Int32) × (Nat → Int32) × (Nat → Int32) × (Nat → Int32) × (Nat → Int32) × (Nat → Int32) × (Nat → Int32) × (Nat → Int32) × (Nat → Int32) × (Nat → Int32))
  | 0, _, _, _, _, _, _, _, _, _, _, _, _, _, _, _, _, _, _, _, _ => none
  | n + 1, Q_all_21, Q_kinds_21, Q_which_21, Q_firsts_21, Q_seconds_21, Q_thirds_21, Q_nexts_21, Q_heads_21, Q_names_21, Q_variables_21, Q_holes_21, Q_sizes_21, x1_21, x2_21, x3_21, x4_21, x5_21, x6_21, x7_21, x8_21 =>
    if x8_21 = (-1 : Int32) then
      if Q_all_21 = x6_21 then
        some ((-1 : Int32), Q_all_21, Q_kinds_21, Q_which_21, Q_firsts_21, Q_seconds_21, Q_thirds_21, Q_nexts_21, Q_heads_21, Q_names_21, Q_variables_21, Q_holes_21, Q_sizes_21)
      else
        gd (ixb Q_all_21 101100) <| nm (upd Q_kinds_21 Q_all_21.toNatClampNeg x1_21) fun g7 =>
        gd (ixb Q_all_21 101100) <| nm (upd Q_which_21 Q_all_21.toNatClampNeg x2_21) fun g9 =>
        gd (ixb Q_all_21 101100) <| nm (upd Q_firsts_21 Q_all_21.toNatClampNeg x3_21) fun g11 =>
        gd (ixb Q_all_21 101100) <| nm (upd Q_seconds_21 Q_all_21.toNatClampNeg x4_21) fun g13 =>
        gd (ixb Q_all_21 101100) <| nm (upd Q_thirds_21 Q_all_21.toNatClampNeg x5_21) fun g15 =>
        gd (ixb x7_21 4096) <|
        gd (ixb Q_all_21 101100) <| nm (upd Q_nexts_21 Q_all_21.toNatClampNeg (Q_heads_21 x7_21.toNatClampNeg)) fun g18 =>
        gd (ixb x7_21 4096) <| nm (upd Q_heads_21 x7_21.toNatClampNeg Q_all_21) fun g20 =>
        if (100 : Int32) ≤ Q_all_21 then
          f_Q_make_B213 Q_all_21 g7 g9 g11 g13 g15 g18 g20 Q_names_21 Q_variables_21 Q_holes_21 Q_sizes_21
        else
          if x6_21 = (100 : Int32) then
            (f_Q_tell g7 g9 g11 g13 g15 Q_names_21 Q_variables_21 Q_holes_21 Q_sizes_21 Q_all_21).bind fun r23 =>
            f_Q_make_B213 Q_all_21 g7 g9 g11 g13 g15 g18 g20 r23.1 r23.2.1 r23.2.2.1 r23.2.2.2
          else
            f_Q_make_B213 Q_all_21 g7 g9 g11 g13 g15 g18 g20 Q_names_21 Q_variables_21 Q_holes_21 Q_sizes_21
    else
      gd (ixb x8_21 101100) <|
      if (Q_kinds_21 x8_21.toNatClampNeg) = x1_21 then
        gd (ixb x8_21 101100) <|
        if (Q_which_21 x8_21.toNatClampNeg) = x2_21 then
          gd (ixb x8_21 101100) <|
          if (Q_firsts_21 x8_21.toNatClampNeg) = x3_21 then
            gd (ixb x8_21 101100) <|
            if (Q_seconds_21 x8_21.toNatClampNeg) = x4_21 then
              gd (ixb x8_21 101100) <|
              if (Q_thirds_21 x8_21.toNatClampNeg) = x5_21 then
                some (x8_21, Q_all_21, Q_kinds_21, Q_which_21, Q_firsts_21, Q_seconds_21, Q_thirds_21, Q_nexts_21, Q_heads_21, Q_names_21, Q_variables_21, Q_holes_21, Q_sizes_21)
              else
                f_Q_make_B87 (f_Q_make_L21 n) Q_all_21 Q_kinds_21 Q_which_21 Q_firsts_21 Q_seconds_21 Q_thirds_21 Q_nexts_21 Q_heads_21 Q_names_21 Q_variables_21 Q_holes_21 Q_sizes_21 x1_21 x2_21 x3_21 x4_21 x5_21 x6_21 x7_21 x8_21
            else
              f_Q_make_B87 (f_Q_make_L21 n) Q_all_21 Q_kinds_21 Q_which_21 Q_firsts_21 Q_seconds_21 Q_thirds_21 Q_nexts_21 Q_heads_21 Q_names_21 Q_variables_21 Q_holes_21 Q_sizes_21 x1_21 x2_21 x3_21 x4_21 x5_21 x6_21 x7_21 x8_21
          else
            f_Q_make_B87 (f_Q_make_L21 n) Q_all_21 Q_kinds_21 Q_which_21 Q_firsts_21 Q_seconds_21 Q_thirds_21 Q_nexts_21 Q_heads_21 Q_names_21 Q_variables_21 Q_holes_21 Q_sizes_21 x1_21 x2_21 x3_21 x4_21 x5_21 x6_21 x7_21 x8_21
        else
          f_Q_make_B87 (f_Q_make_L21 n) Q_all_21 Q_kinds_21 Q_which_21 Q_firsts_21 Q_seconds_21 Q_thirds_21 Q_nexts_21 Q_heads_21 Q_names_21 Q_variables_21 Q_holes_21 Q_sizes_21 x1_21 x2_21 x3_21 x4_21 x5_21 x6_21 x7_21 x8_21
      else
        f_Q_make_B87 (f_Q_make_L21 n) Q_all_21 Q_kinds_21 Q_which_21 Q_firsts_21 Q_seconds_21 Q_thirds_21 Q_nexts_21 Q_heads_21 Q_names_21 Q_variables_21 Q_holes_21 Q_sizes_21 x1_21 x2_21 x3_21 x4_21 x5_21 x6_21 x7_21 x8_21
def f_Q_make (Q_all : Int32) (Q_kinds : (Nat → Int32)) (Q_which : (Nat → Int32)) (Q_firsts : (Nat → Int32)) (Q_seconds : (Nat → Int32)) (Q_thirds : (Nat → Int32)) (Q_nexts : (Nat → Int32)) (Q_heads : (Nat → Int32)) (Q_names : (Nat → Int32)) (Q_variables : (Nat → Int32)) (Q_holes : (Nat → Int32)) (Q_sizes : (Nat → Int32)) (p0 : Int32) (p1 : Int32) (p2 : Int32) (p3 : Int32) (p4 : Int32) (p5 : Int32) : Option (Int32 × Int32 × (Nat → Int32) × (Nat → Int32) × (Nat → Int32) × (Nat → Int32) × (Nat → Int32) × (Nat → Int32) × (Nat → Int32) × (Nat → Int32) × (Nat → Int32) × (Nat → Int32) × (Nat → Int32)) :=
  (f_Q_headOf p0 p1 p2 p3 p4).bind fun r1 =>
  gd (ixb r1 4096) <|
  nm (Q_heads r1.toNatClampNeg) fun x3 =>
  f_Q_make_L21 FU Q_all Q_kinds Q_which Q_firsts Q_seconds Q_thirds Q_nexts Q_heads Q_names Q_variables Q_holes Q_sizes p0 p1 p2 p3 p4 p5 r1 x3
abbrev rm_Q_make : Room := { frames := 2, cells := 0, slots := 0, locals := 45 }
set_option maxHeartbeats 4000000 in
set_option maxRecDepth 100000 in
theorem c_Q_make (l : Launch) (D : va_G) (cI cJ cZ : ClassId) (aQ aQ_kinds aQ_which aQ_firsts aQ_seconds aQ_thirds aQ_nexts aQ_heads aQ_names aQ_variables aQ_holes aQ_sizes aQ_places aQ_conclusions aQ_premises aQ_counts aQ_hitOf aQ_hitOne aQ_hitTwo aQ_hitTerms aQ_image aQ_bound aQ_waits aQ_waitsFor aQ_seen aQ_goals aQ_steps aQ_looked aQ_under aQ_taken aQ_news aQ_order aQ_there aQ_back : Nat) (sz : Nat) (Q_thrown : Int32) (Q_all : Int32) (Q_statements : Int32) (Q_hitKind : Int32) (Q_hits : Int32) (Q_tries : Int32) (Q_takenAll : Int32) (Q_takenFirst : Int32) (Q_kinds : (Nat → Int32)) (Q_which : (Nat → Int32)) (Q_firsts : (Nat → Int32)) (Q_seconds : (Nat → Int32)) (Q_thirds : (Nat → Int32)) (Q_nexts : (Nat → Int32)) (Q_heads : (Nat → Int32)) (Q_names : (Nat → Int32)) (Q_variables : (Nat → Int32)) (Q_holes : (Nat → Int32)) (Q_sizes : (Nat → Int32)) (p0 : Int32) (p1 : Int32) (p2 : Int32) (p3 : Int32) (p4 : Int32) (p5 : Int32) (o : Int32 × Int32 × (Nat → Int32) × (Nat → Int32) × (Nat → Int32) × (Nat → Int32) × (Nat → Int32) × (Nat → Int32) × (Nat → Int32) × (Nat → Int32) × (Nat → Int32) × (Nat → Int32) × (Nat → Int32)) (hf : f_Q_make Q_all Q_kinds Q_which Q_firsts Q_seconds Q_thirds Q_nexts Q_heads Q_names Q_variables Q_holes Q_sizes p0 p1 p2 p3 p4 p5 = some o) : Met l y_Q_make (ws_Q_make) rm_Q_make (WPc D vwCl cI cJ cZ [.ref aQ, .int p0, .int p1, .int p2, .int p3, .int p4, .int p5] (wv_43 cI cJ cZ aQ aQ_kinds aQ_which aQ_firsts aQ_seconds aQ_thirds aQ_nexts aQ_heads aQ_names aQ_variables aQ_holes aQ_sizes aQ_places aQ_conclusions aQ_premises aQ_counts aQ_hitOf aQ_hitOne aQ_hitTwo aQ_hitTerms aQ_image aQ_bound aQ_waits aQ_waitsFor aQ_seen aQ_goals aQ_steps aQ_looked aQ_under aQ_taken aQ_news aQ_order aQ_there aQ_back Q_thrown Q_all Q_statements Q_hitKind Q_hits Q_tries Q_takenAll Q_takenFirst Q_kinds Q_which Q_firsts Q_seconds Q_thirds Q_nexts Q_heads Q_names Q_variables Q_holes Q_sizes) sz) (WQ D vwCl (some (.int o.1)) (wv_43 cI cJ cZ aQ aQ_kinds aQ_which aQ_firsts aQ_seconds aQ_thirds aQ_nexts aQ_heads aQ_names aQ_variables aQ_holes aQ_sizes aQ_places aQ_conclusions aQ_premises aQ_counts aQ_hitOf aQ_hitOne aQ_hitTwo aQ_hitTerms aQ_image aQ_bound aQ_waits aQ_waitsFor aQ_seen aQ_goals aQ_steps aQ_looked aQ_under aQ_taken aQ_news aQ_order aQ_there aQ_back Q_thrown o.2.1 Q_statements Q_hitKind Q_hits Q_tries Q_takenAll Q_takenFirst o.2.2.1 o.2.2.2.1 o.2.2.2.2.1 o.2.2.2.2.2.1 o.2.2.2.2.2.2.1 o.2.2.2.2.2.2.2.1 o.2.2.2.2.2.2.2.2.1 o.2.2.2.2.2.2.2.2.2.1 o.2.2.2.2.2.2.2.2.2.2.1 o.2.2.2.2.2.2.2.2.2.2.2.1 o.2.2.2.2.2.2.2.2.2.2.2.2) (va_A (wv_43 cI cJ cZ aQ aQ_kinds aQ_which aQ_firsts aQ_seconds aQ_thirds aQ_nexts aQ_heads aQ_names aQ_variables aQ_holes aQ_sizes aQ_places aQ_conclusions aQ_premises aQ_counts aQ_hitOf aQ_hitOne aQ_hitTwo aQ_hitTerms aQ_image aQ_bound aQ_waits aQ_waitsFor aQ_seen aQ_goals aQ_steps aQ_looked aQ_under aQ_taken aQ_news aQ_order aQ_there aQ_back Q_thrown Q_all Q_statements Q_hitKind Q_hits Q_tries Q_takenAll Q_takenFirst Q_kinds Q_which Q_firsts Q_seconds Q_thirds Q_nexts Q_heads Q_names Q_variables Q_holes Q_sizes) sz)) 0 0 (va_A (wv_43 cI cJ cZ aQ aQ_kinds aQ_which aQ_firsts aQ_seconds aQ_thirds aQ_nexts aQ_heads aQ_names aQ_variables aQ_holes aQ_sizes aQ_places aQ_conclusions aQ_premises aQ_counts aQ_hitOf aQ_hitOne aQ_hitTwo aQ_hitTerms aQ_image aQ_bound aQ_waits aQ_waitsFor aQ_seen aQ_goals aQ_steps aQ_looked aQ_under aQ_taken aQ_news aQ_order aQ_there aQ_back Q_thrown Q_all Q_statements Q_hitKind Q_hits Q_tries Q_takenAll Q_takenFirst Q_kinds Q_which Q_firsts Q_seconds Q_thirds Q_nexts Q_heads Q_names Q_variables Q_holes Q_sizes) sz) := by
  refine Met.ofW (cc := b_Q_make) (maxL := 9) (ret := (some .int)) (by decide) rfl ?_
  intro p e s m args below meth c s₁ B hml hv
  obtain ⟨rfl, rfl, hP, hK, hD0⟩ := hv
  have hx := B.exec
  have hb := B.bytes
  have hr := B.returns
  have hts : ∀ w ∈ BG, w.before _ s = true := fun w h => atoms_spec (ws := (ws_Q_make)) B.pre w (List.mem_cons_of_mem _ h)
  have hown : s.vm.findClass RR_Q = some m.cls := findClass_of_methodNamed B.named
  have hlocks := B.notSynchronized
  have hD := hD0.self (sz := s.heap.size)
  have hA : ∀ q : Nat, s.heap.size ≤ q → va_A (wv_43 cI cJ cZ aQ aQ_kinds aQ_which aQ_firsts aQ_seconds aQ_thirds aQ_nexts aQ_heads aQ_names aQ_variables aQ_holes aQ_sizes aQ_places aQ_conclusions aQ_premises aQ_counts aQ_hitOf aQ_hitOne aQ_hitTwo aQ_hitTerms aQ_image aQ_bound aQ_waits aQ_waitsFor aQ_seen aQ_goals aQ_steps aQ_looked aQ_under aQ_taken aQ_news aQ_order aQ_there aQ_back Q_thrown Q_all Q_statements Q_hitKind Q_hits Q_tries Q_takenAll Q_takenFirst Q_kinds Q_which Q_firsts Q_seconds Q_thirds Q_nexts Q_heads Q_names Q_variables Q_holes Q_sizes) s.heap.size q := fun q h => Or.inr h
  have hS : va_S (va_A (wv_43 cI cJ cZ aQ aQ_kinds aQ_which aQ_firsts aQ_seconds aQ_thirds aQ_nexts aQ_heads aQ_names aQ_variables aQ_holes aQ_sizes aQ_places aQ_conclusions aQ_premises aQ_counts aQ_hitOf aQ_hitOne aQ_hitTwo aQ_hitTerms aQ_image aQ_bound aQ_waits aQ_waitsFor aQ_seen aQ_goals aQ_steps aQ_looked aQ_under aQ_taken aQ_news aQ_order aQ_there aQ_back Q_thrown Q_all Q_statements Q_hitKind Q_hits Q_tries Q_takenAll Q_takenFirst Q_kinds Q_which Q_firsts Q_seconds Q_thirds Q_nexts Q_heads Q_names Q_variables Q_holes Q_sizes) s.heap.size) s.heap s.heap [] := va_S.rf
  generalize va_A (wv_43 cI cJ cZ aQ aQ_kinds aQ_which aQ_firsts aQ_seconds aQ_thirds aQ_nexts aQ_heads aQ_names aQ_variables aQ_holes aQ_sizes aQ_places aQ_conclusions aQ_premises aQ_counts aQ_hitOf aQ_hitOne aQ_hitTwo aQ_hitTerms aQ_image aQ_bound aQ_waits aQ_waitsFor aQ_seen aQ_goals aQ_steps aQ_looked aQ_under aQ_taken aQ_news aQ_order aQ_there aQ_back Q_thrown Q_all Q_statements Q_hitKind Q_hits Q_tries Q_takenAll Q_takenFirst Q_kinds Q_which Q_firsts Q_seconds Q_thirds Q_nexts Q_heads Q_names Q_variables Q_holes Q_sizes) s.heap.size = A at hD hA hS ⊢
  have hl := lv_entry ([.ref aQ, .int p0, .int p1, .int p2, .int p3, .int p4, .int p5]) (n := 9) (Nat.le_of_ble_eq_true rfl)
  rw [lg_entry_eq]
  generalize (lg_sl ([.ref aQ, .int p0, .int p1, .int p2, .int p3, .int p4, .int p5]) ++ List.replicate (9 - (lg_sl ([.ref aQ, .int p0, .int p1, .int p2, .int p3, .int p4, .int p5])).length) Slot.unset).toArray = ls at hl ⊢
  have hl : lv_has ls 9 [(0, .ref aQ), (1, .int p0), (2, .int p1), (3, .int p2), (4, .int p3), (5, .int p4), (6, .int p5)] := hl
  have hB213 : ∀ (Q_all_213 : Int32) (Q_kinds_213 : (Nat → Int32)) (Q_which_213 : (Nat → Int32)) (Q_firsts_213 : (Nat → Int32)) (Q_seconds_213 : (Nat → Int32)) (Q_thirds_213 : (Nat → Int32)) (Q_nexts_213 : (Nat → Int32)) (Q_heads_213 : (Nat → Int32)) (Q_names_213 : (Nat → Int32)) (Q_variables_213 : (Nat → Int32)) (Q_holes_213 : (Nat → Int32)) (Q_sizes_213 : (Nat → Int32)), ∀ (H : Heap) (locs : List Loc), va_P D vwCl (wv_43 cI cJ cZ aQ aQ_kinds aQ_which aQ_firsts aQ_seconds aQ_thirds aQ_nexts aQ_heads aQ_names aQ_variables aQ_holes aQ_sizes aQ_places aQ_conclusions aQ_premises aQ_counts aQ_hitOf aQ_hitOne aQ_hitTwo aQ_hitTerms aQ_image aQ_bound aQ_waits aQ_waitsFor aQ_seen aQ_goals aQ_steps aQ_looked aQ_under aQ_taken aQ_news aQ_order aQ_there aQ_back Q_thrown Q_all_213 Q_statements Q_hitKind Q_hits Q_tries Q_takenAll Q_takenFirst Q_kinds_213 Q_which_213 Q_firsts_213 Q_seconds_213 Q_thirds_213 Q_nexts_213 Q_heads_213 Q_names_213 Q_variables_213 Q_holes_213 Q_sizes_213) H → va_D A (wv_43 cI cJ cZ aQ aQ_kinds aQ_which aQ_firsts aQ_seconds aQ_thirds aQ_nexts aQ_heads aQ_names aQ_variables aQ_holes aQ_sizes aQ_places aQ_conclusions aQ_premises aQ_counts aQ_hitOf aQ_hitOne aQ_hitTwo aQ_hitTerms aQ_image aQ_bound aQ_waits aQ_waitsFor aQ_seen aQ_goals aQ_steps aQ_looked aQ_under aQ_taken aQ_news aQ_order aQ_there aQ_back Q_thrown Q_all_213 Q_statements Q_hitKind Q_hits Q_tries Q_takenAll Q_takenFirst Q_kinds_213 Q_which_213 Q_firsts_213 Q_seconds_213 Q_thirds_213 Q_nexts_213 Q_heads_213 Q_names_213 Q_variables_213 Q_holes_213 Q_sizes_213) → va_S A s.heap H locs → ∀ (ls : Array Slot), lv_has ls 9 [(0, .ref aQ)] → f_Q_make_B213 Q_all_213 Q_kinds_213 Q_which_213 Q_firsts_213 Q_seconds_213 Q_thirds_213 Q_nexts_213 Q_heads_213 Q_names_213 Q_variables_213 Q_holes_213 Q_sizes_213 = some o → W p l e (headSpec (ws_Q_make) rm_Q_make).room s m ([.ref aQ, .int p0, .int p1, .int p2, .int p3, .int p4, .int p5] : List Value).toArray below meth c H locs 0 0 (MQ below (WQ D vwCl (some (.int o.1)) (wv_43 cI cJ cZ aQ aQ_kinds aQ_which aQ_firsts aQ_seconds aQ_thirds aQ_nexts aQ_heads aQ_names aQ_variables aQ_holes aQ_sizes aQ_places aQ_conclusions aQ_premises aQ_counts aQ_hitOf aQ_hitOne aQ_hitTwo aQ_hitTerms aQ_image aQ_bound aQ_waits aQ_waitsFor aQ_seen aQ_goals aQ_steps aQ_looked aQ_under aQ_taken aQ_news aQ_order aQ_there aQ_back Q_thrown o.2.1 Q_statements Q_hitKind Q_hits Q_tries Q_takenAll Q_takenFirst o.2.2.1 o.2.2.2.1 o.2.2.2.2.1 o.2.2.2.2.2.1 o.2.2.2.2.2.2.1 o.2.2.2.2.2.2.2.1 o.2.2.2.2.2.2.2.2.1 o.2.2.2.2.2.2.2.2.2.1 o.2.2.2.2.2.2.2.2.2.2.1 o.2.2.2.2.2.2.2.2.2.2.2.1 o.2.2.2.2.2.2.2.2.2.2.2.2) A) ([.ref aQ, .int p0, .int p1, .int p2, .int p3, .int p4, .int p5] : List Value).toArray s 0 0 A) (F0 m 213 ls []) := by
    intro Q_all_213 Q_kinds_213 Q_which_213 Q_firsts_213 Q_seconds_213 Q_thirds_213 Q_nexts_213 Q_heads_213 Q_names_213 Q_variables_213 Q_holes_213 Q_sizes_213 H locs hP hD hS ls hl hf
    rw [f_Q_make_B213] at hf
    refine lv_aload_n hx hb d_Q_make_213 rfl (lv_at hl 0 rfl) ?_
    refine lv_dup hx hb d_Q_make_214 rfl ?_
    refine va_get (D := D) (ci := 7) (v := .int Q_all_213) (C := RR_Q) (T := FF_Q) (N := 41) hx hb hts kin_Q hown hK.1 hP 0 rfl rfl 8 (by decide) (hts _ k4_75) (fun _ h9 => h9) rfl d_Q_make_215 ?_
    refine lv_iconst (v := 1) hx hb d_Q_make_218 (by decide) ?_
    refine lv_iadd hx hb d_Q_make_219 ?_
    refine lv_topi (fun x36 ex36 => ?_)
    have hf := of_nm ex36 hf
    refine va_put (D := D) (ci := 7) (v := .int x36) (ty := .int) (C := RR_Q) (T := FF_Q) (N := 41) hx hb hts kin_Q TT_Q tok_Q nok_Q hown hK.1 hP hD hS 0 rfl rfl 8 (by decide) (hts _ k4_75) (fun _ h9 => h9) rfl (by decide +kernel) rfl rfl (Nat.le_of_ble_eq_true rfl) d_Q_make_220 (fun H locs hP hD hS => ?_)
    have hP : va_P D vwCl (wv_43 cI cJ cZ aQ aQ_kinds aQ_which aQ_firsts aQ_seconds aQ_thirds aQ_nexts aQ_heads aQ_names aQ_variables aQ_holes aQ_sizes aQ_places aQ_conclusions aQ_premises aQ_counts aQ_hitOf aQ_hitOne aQ_hitTwo aQ_hitTerms aQ_image aQ_bound aQ_waits aQ_waitsFor aQ_seen aQ_goals aQ_steps aQ_looked aQ_under aQ_taken aQ_news aQ_order aQ_there aQ_back Q_thrown x36 Q_statements Q_hitKind Q_hits Q_tries Q_takenAll Q_takenFirst Q_kinds_213 Q_which_213 Q_firsts_213 Q_seconds_213 Q_thirds_213 Q_nexts_213 Q_heads_213 Q_names_213 Q_variables_213 Q_holes_213 Q_sizes_213) H := hP
    have hD : va_D A (wv_43 cI cJ cZ aQ aQ_kinds aQ_which aQ_firsts aQ_seconds aQ_thirds aQ_nexts aQ_heads aQ_names aQ_variables aQ_holes aQ_sizes aQ_places aQ_conclusions aQ_premises aQ_counts aQ_hitOf aQ_hitOne aQ_hitTwo aQ_hitTerms aQ_image aQ_bound aQ_waits aQ_waitsFor aQ_seen aQ_goals aQ_steps aQ_looked aQ_under aQ_taken aQ_news aQ_order aQ_there aQ_back Q_thrown x36 Q_statements Q_hitKind Q_hits Q_tries Q_takenAll Q_takenFirst Q_kinds_213 Q_which_213 Q_firsts_213 Q_seconds_213 Q_thirds_213 Q_nexts_213 Q_heads_213 Q_names_213 Q_variables_213 Q_holes_213 Q_sizes_213) := hD
    refine lv_aload_n hx hb d_Q_make_223 rfl (lv_at hl 0 rfl) ?_
    refine va_get (D := D) (ci := 7) (v := .int x36) (C := RR_Q) (T := FF_Q) (N := 41) hx hb hts kin_Q hown hK.1 hP 0 rfl rfl 8 (by decide) (hts _ k4_75) (fun _ h9 => h9) rfl d_Q_make_224 ?_
    refine lv_iconst (v := 1) hx hb d_Q_make_227 (by decide) ?_
    refine lv_isub hx hb d_Q_make_228 ?_
    obtain rfl := Option.some.inj hf
    exact W.iret (v := x36 - (1 : Int32)) hx hb hr (fun t ht hW => ⟨rfl, by rw [ht]; exact hP, hD, hS.F ht⟩) hS.2.2 d_Q_make_229
  have hL21 : ∀ (n21 : Nat), ∀ (Q_all_21 : Int32) (Q_kinds_21 : (Nat → Int32)) (Q_which_21 : (Nat → Int32)) (Q_firsts_21 : (Nat → Int32)) (Q_seconds_21 : (Nat → Int32)) (Q_thirds_21 : (Nat → Int32)) (Q_nexts_21 : (Nat → Int32)) (Q_heads_21 : (Nat → Int32)) (Q_names_21 : (Nat → Int32)) (Q_variables_21 : (Nat → Int32)) (Q_holes_21 : (Nat → Int32)) (Q_sizes_21 : (Nat → Int32)) (x1_21 : Int32) (x2_21 : Int32) (x3_21 : Int32) (x4_21 : Int32) (x5_21 : Int32) (x6_21 : Int32) (x7_21 : Int32) (x8_21 : Int32), ∀ (H : Heap) (locs : List Loc), va_P D vwCl (wv_43 cI cJ cZ aQ aQ_kinds aQ_which aQ_firsts aQ_seconds aQ_thirds aQ_nexts aQ_heads aQ_names aQ_variables aQ_holes aQ_sizes aQ_places aQ_conclusions aQ_premises aQ_counts aQ_hitOf aQ_hitOne aQ_hitTwo aQ_hitTerms aQ_image aQ_bound aQ_waits aQ_waitsFor aQ_seen aQ_goals aQ_steps aQ_looked aQ_under aQ_taken aQ_news aQ_order aQ_there aQ_back Q_thrown Q_all_21 Q_statements Q_hitKind Q_hits Q_tries Q_takenAll Q_takenFirst Q_kinds_21 Q_which_21 Q_firsts_21 Q_seconds_21 Q_thirds_21 Q_nexts_21 Q_heads_21 Q_names_21 Q_variables_21 Q_holes_21 Q_sizes_21) H → va_D A (wv_43 cI cJ cZ aQ aQ_kinds aQ_which aQ_firsts aQ_seconds aQ_thirds aQ_nexts aQ_heads aQ_names aQ_variables aQ_holes aQ_sizes aQ_places aQ_conclusions aQ_premises aQ_counts aQ_hitOf aQ_hitOne aQ_hitTwo aQ_hitTerms aQ_image aQ_bound aQ_waits aQ_waitsFor aQ_seen aQ_goals aQ_steps aQ_looked aQ_under aQ_taken aQ_news aQ_order aQ_there aQ_back Q_thrown Q_all_21 Q_statements Q_hitKind Q_hits Q_tries Q_takenAll Q_takenFirst Q_kinds_21 Q_which_21 Q_firsts_21 Q_seconds_21 Q_thirds_21 Q_nexts_21 Q_heads_21 Q_names_21 Q_variables_21 Q_holes_21 Q_sizes_21) → va_S A s.heap H locs → ∀ (ls : Array Slot), lv_has ls 9 [(0, .ref aQ), (1, .int x1_21), (2, .int x2_21), (3, .int x3_21), (4, .int x4_21), (5, .int x5_21), (6, .int x6_21), (7, .int x7_21), (8, .int x8_21)] → f_Q_make_L21 n21 Q_all_21 Q_kinds_21 Q_which_21 Q_firsts_21 Q_seconds_21 Q_thirds_21 Q_nexts_21 Q_heads_21 Q_names_21 Q_variables_21 Q_holes_21 Q_sizes_21 x1_21 x2_21 x3_21 x4_21 x5_21 x6_21 x7_21 x8_21 = some o → W p l e (headSpec (ws_Q_make) rm_Q_make).room s m ([.ref aQ, .int p0, .int p1, .int p2, .int p3, .int p4, .int p5] : List Value).toArray below meth c H locs 0 0 (MQ below (WQ D vwCl (some (.int o.1)) (wv_43 cI cJ cZ aQ aQ_kinds aQ_which aQ_firsts aQ_seconds aQ_thirds aQ_nexts aQ_heads aQ_names aQ_variables aQ_holes aQ_sizes aQ_places aQ_conclusions aQ_premises aQ_counts aQ_hitOf aQ_hitOne aQ_hitTwo aQ_hitTerms aQ_image aQ_bound aQ_waits aQ_waitsFor aQ_seen aQ_goals aQ_steps aQ_looked aQ_under aQ_taken aQ_news aQ_order aQ_there aQ_back Q_thrown o.2.1 Q_statements Q_hitKind Q_hits Q_tries Q_takenAll Q_takenFirst o.2.2.1 o.2.2.2.1 o.2.2.2.2.1 o.2.2.2.2.2.1 o.2.2.2.2.2.2.1 o.2.2.2.2.2.2.2.1 o.2.2.2.2.2.2.2.2.1 o.2.2.2.2.2.2.2.2.2.1 o.2.2.2.2.2.2.2.2.2.2.1 o.2.2.2.2.2.2.2.2.2.2.2.1 o.2.2.2.2.2.2.2.2.2.2.2.2) A) ([.ref aQ, .int p0, .int p1, .int p2, .int p3, .int p4, .int p5] : List Value).toArray s 0 0 A) (F0 m 21 ls []) := by
    intro n21
    induction n21 with
    | zero =>
      intro Q_all_21 Q_kinds_21 Q_which_21 Q_firsts_21 Q_seconds_21 Q_thirds_21 Q_nexts_21 Q_heads_21 Q_names_21 Q_variables_21 Q_holes_21 Q_sizes_21 x1_21 x2_21 x3_21 x4_21 x5_21 x6_21 x7_21 x8_21 H locs hP hD hS ls hl hf
      rw [f_Q_make_L21] at hf
      cases hf
    | succ n21 ih21 =>
      have hB87 : ∀ (Q_all_87 : Int32) (Q_kinds_87 : (Nat → Int32)) (Q_which_87 : (Nat → Int32)) (Q_firsts_87 : (Nat → Int32)) (Q_seconds_87 : (Nat → Int32)) (Q_thirds_87 : (Nat → Int32)) (Q_nexts_87 : (Nat → Int32)) (Q_heads_87 : (Nat → Int32)) (Q_names_87 : (Nat → Int32)) (Q_variables_87 : (Nat → Int32)) (Q_holes_87 : (Nat → Int32)) (Q_sizes_87 : (Nat → Int32)) (x1_87 : Int32) (x2_87 : Int32) (x3_87 : Int32) (x4_87 : Int32) (x5_87 : Int32) (x6_87 : Int32) (x7_87 : Int32) (x8_87 : Int32), ∀ (H : Heap) (locs : List Loc), va_P D vwCl (wv_43 cI cJ cZ aQ aQ_kinds aQ_which aQ_firsts aQ_seconds aQ_thirds aQ_nexts aQ_heads aQ_names aQ_variables aQ_holes aQ_sizes aQ_places aQ_conclusions aQ_premises aQ_counts aQ_hitOf aQ_hitOne aQ_hitTwo aQ_hitTerms aQ_image aQ_bound aQ_waits aQ_waitsFor aQ_seen aQ_goals aQ_steps aQ_looked aQ_under aQ_taken aQ_news aQ_order aQ_there aQ_back Q_thrown Q_all_87 Q_statements Q_hitKind Q_hits Q_tries Q_takenAll Q_takenFirst Q_kinds_87 Q_which_87 Q_firsts_87 Q_seconds_87 Q_thirds_87 Q_nexts_87 Q_heads_87 Q_names_87 Q_variables_87 Q_holes_87 Q_sizes_87) H → va_D A (wv_43 cI cJ cZ aQ aQ_kinds aQ_which aQ_firsts aQ_seconds aQ_thirds aQ_nexts aQ_heads aQ_names aQ_variables aQ_holes aQ_sizes aQ_places aQ_conclusions aQ_premises aQ_counts aQ_hitOf aQ_hitOne aQ_hitTwo aQ_hitTerms aQ_image aQ_bound aQ_waits aQ_waitsFor aQ_seen aQ_goals aQ_steps aQ_looked aQ_under aQ_taken aQ_news aQ_order aQ_there aQ_back Q_thrown Q_all_87 Q_statements Q_hitKind Q_hits Q_tries Q_takenAll Q_takenFirst Q_kinds_87 Q_which_87 Q_firsts_87 Q_seconds_87 Q_thirds_87 Q_nexts_87 Q_heads_87 Q_names_87 Q_variables_87 Q_holes_87 Q_sizes_87) → va_S A s.heap H locs → ∀ (ls : Array Slot), lv_has ls 9 [(0, .ref aQ), (1, .int x1_87), (2, .int x2_87), (3, .int x3_87), (4, .int x4_87), (5, .int x5_87), (6, .int x6_87), (7, .int x7_87), (8, .int x8_87)] → f_Q_make_B87 (f_Q_make_L21 n21) Q_all_87 Q_kinds_87 Q_which_87 Q_firsts_87 Q_seconds_87 Q_thirds_87 Q_nexts_87 Q_heads_87 Q_names_87 Q_variables_87 Q_holes_87 Q_sizes_87 x1_87 x2_87 x3_87 x4_87 x5_87 x6_87 x7_87 x8_87 = some o → W p l e (headSpec (ws_Q_make) rm_Q_make).room s m ([.ref aQ, .int p0, .int p1, .int p2, .int p3, .int p4, .int p5] : List Value).toArray below meth c H locs 0 0 (MQ below (WQ D vwCl (some (.int o.1)) (wv_43 cI cJ cZ aQ aQ_kinds aQ_which aQ_firsts aQ_seconds aQ_thirds aQ_nexts aQ_heads aQ_names aQ_variables aQ_holes aQ_sizes aQ_places aQ_conclusions aQ_premises aQ_counts aQ_hitOf aQ_hitOne aQ_hitTwo aQ_hitTerms aQ_image aQ_bound aQ_waits aQ_waitsFor aQ_seen aQ_goals aQ_steps aQ_looked aQ_under aQ_taken aQ_news aQ_order aQ_there aQ_back Q_thrown o.2.1 Q_statements Q_hitKind Q_hits Q_tries Q_takenAll Q_takenFirst o.2.2.1 o.2.2.2.1 o.2.2.2.2.1 o.2.2.2.2.2.1 o.2.2.2.2.2.2.1 o.2.2.2.2.2.2.2.1 o.2.2.2.2.2.2.2.2.1 o.2.2.2.2.2.2.2.2.2.1 o.2.2.2.2.2.2.2.2.2.2.1 o.2.2.2.2.2.2.2.2.2.2.2.1 o.2.2.2.2.2.2.2.2.2.2.2.2) A) ([.ref aQ, .int p0, .int p1, .int p2, .int p3, .int p4, .int p5] : List Value).toArray s 0 0 A) (F0 m 87 ls []) := by
        intro Q_all_87 Q_kinds_87 Q_which_87 Q_firsts_87 Q_seconds_87 Q_thirds_87 Q_nexts_87 Q_heads_87 Q_names_87 Q_variables_87 Q_holes_87 Q_sizes_87 x1_87 x2_87 x3_87 x4_87 x5_87 x6_87 x7_87 x8_87 H locs hP hD hS ls hl hf
        rw [f_Q_make_B87] at hf
        refine lv_aload_n hx hb d_Q_make_87 rfl (lv_at hl 0 rfl) ?_
        refine va_get (D := D) (ci := 7) (v := .ref aQ_nexts) (C := RR_Q) (T := FF_Q) (N := 41) hx hb hts kin_Q hown hK.1 hP 0 rfl rfl 6 (by decide) (hts _ k4_73) (fun _ h9 => h9) rfl d_Q_make_88 ?_
        refine lv_iload hx hb d_Q_make_91 (lv_at hl 8 rfl) ?_
        obtain ⟨h34, hf⟩ := of_gd hf
        refine va_iald hx hb hK.1 hP 6 0 rfl rfl (ixb_in h34) d_Q_make_93 ?_
        refine lv_topi (fun x35 ex35 => ?_)
        have hf := of_nm ex35 hf
        refine lv_istore (lv' := [(8, .int x35), (0, .ref aQ), (1, .int x1_87), (2, .int x2_87), (3, .int x3_87), (4, .int x4_87), (5, .int x5_87), (6, .int x6_87), (7, .int x7_87)]) hx hb d_Q_make_94 hl (by decide) rfl (fun ls hl => ?_)
        refine lv_goto (tgt := 21) hx hb d_Q_make_96 (by decide) ?_
        exact ih21 _ _ _ _ _ _ _ _ _ _ _ _ _ _ _ _ _ _ _ _ _ _ hP hD hS _ (lv_sub hl [1, 2, 3, 4, 5, 6, 7, 8, 0] rfl) hf
      intro Q_all_21 Q_kinds_21 Q_which_21 Q_firsts_21 Q_seconds_21 Q_thirds_21 Q_nexts_21 Q_heads_21 Q_names_21 Q_variables_21 Q_holes_21 Q_sizes_21 x1_21 x2_21 x3_21 x4_21 x5_21 x6_21 x7_21 x8_21 H locs hP hD hS ls hl hf
      rw [f_Q_make_L21] at hf
      refine lv_iload hx hb d_Q_make_21 (lv_at hl 8 rfl) ?_
      refine lv_iconst (v := -1) hx hb d_Q_make_23 (by decide) ?_
      refine lv_icmp_eq (tgt := 99) hx hb d_Q_make_24 (by decide) (fun c4 => ?_) (fun c4 => ?_)
      · have hf := ite_t c4 hf
        refine lv_aload_n hx hb d_Q_make_99 rfl (lv_at hl 0 rfl) ?_
        refine va_get (D := D) (ci := 7) (v := .int Q_all_21) (C := RR_Q) (T := FF_Q) (N := 41) hx hb hts kin_Q hown hK.1 hP 0 rfl rfl 8 (by decide) (hts _ k4_75) (fun _ h9 => h9) rfl d_Q_make_100 ?_
        refine lv_iload hx hb d_Q_make_103 (lv_at hl 6 rfl) ?_
        refine lv_icmp_ne (tgt := 110) hx hb d_Q_make_105 (by decide) (fun c5 => ?_) (fun c5 => ?_)
        · have hf := ite_f c5 hf
          refine lv_aload_n hx hb d_Q_make_110 rfl (lv_at hl 0 rfl) ?_
          refine va_get (D := D) (ci := 7) (v := .ref aQ_kinds) (C := RR_Q) (T := FF_Q) (N := 41) hx hb hts kin_Q hown hK.1 hP 0 rfl rfl 1 (by decide) (hts _ k4_68) (fun _ h9 => h9) rfl d_Q_make_111 ?_
          refine lv_aload_n hx hb d_Q_make_114 rfl (lv_at hl 0 rfl) ?_
          refine va_get (D := D) (ci := 7) (v := .int Q_all_21) (C := RR_Q) (T := FF_Q) (N := 41) hx hb hts kin_Q hown hK.1 hP 0 rfl rfl 8 (by decide) (hts _ k4_75) (fun _ h9 => h9) rfl d_Q_make_115 ?_
          refine lv_iload_n hx hb d_Q_make_118 rfl (lv_at hl 1 rfl) ?_
          obtain ⟨h6, hf⟩ := of_gd hf
          obtain ⟨g7, eg7⟩ : ∃ y : Nat → Int32, y = upd Q_kinds_21 Q_all_21.toNatClampNeg x1_21 := ⟨_, rfl⟩
          have hf := of_nm eg7 hf
          refine va_iast hx hb hK.1 hP hD hS 1 0 rfl rfl (ixb_in h6) d_Q_make_119 (fun H locs hP hD hS => ?_)
          rw [← eg7] at hP hD
          have hP : va_P D vwCl (wv_43 cI cJ cZ aQ aQ_kinds aQ_which aQ_firsts aQ_seconds aQ_thirds aQ_nexts aQ_heads aQ_names aQ_variables aQ_holes aQ_sizes aQ_places aQ_conclusions aQ_premises aQ_counts aQ_hitOf aQ_hitOne aQ_hitTwo aQ_hitTerms aQ_image aQ_bound aQ_waits aQ_waitsFor aQ_seen aQ_goals aQ_steps aQ_looked aQ_under aQ_taken aQ_news aQ_order aQ_there aQ_back Q_thrown Q_all_21 Q_statements Q_hitKind Q_hits Q_tries Q_takenAll Q_takenFirst g7 Q_which_21 Q_firsts_21 Q_seconds_21 Q_thirds_21 Q_nexts_21 Q_heads_21 Q_names_21 Q_variables_21 Q_holes_21 Q_sizes_21) H := hP
          have hD : va_D A (wv_43 cI cJ cZ aQ aQ_kinds aQ_which aQ_firsts aQ_seconds aQ_thirds aQ_nexts aQ_heads aQ_names aQ_variables aQ_holes aQ_sizes aQ_places aQ_conclusions aQ_premises aQ_counts aQ_hitOf aQ_hitOne aQ_hitTwo aQ_hitTerms aQ_image aQ_bound aQ_waits aQ_waitsFor aQ_seen aQ_goals aQ_steps aQ_looked aQ_under aQ_taken aQ_news aQ_order aQ_there aQ_back Q_thrown Q_all_21 Q_statements Q_hitKind Q_hits Q_tries Q_takenAll Q_takenFirst g7 Q_which_21 Q_firsts_21 Q_seconds_21 Q_thirds_21 Q_nexts_21 Q_heads_21 Q_names_21 Q_variables_21 Q_holes_21 Q_sizes_21) := hD
          refine lv_aload_n hx hb d_Q_make_120 rfl (lv_at hl 0 rfl) ?_
          refine va_get (D := D) (ci := 7) (v := .ref aQ_which) (C := RR_Q) (T := FF_Q) (N := 41) hx hb hts kin_Q hown hK.1 hP 0 rfl rfl 2 (by decide) (hts _ k4_69) (fun _ h9 => h9) rfl d_Q_make_121 ?_
          refine lv_aload_n hx hb d_Q_make_124 rfl (lv_at hl 0 rfl) ?_
          refine va_get (D := D) (ci := 7) (v := .int Q_all_21) (C := RR_Q) (T := FF_Q) (N := 41) hx hb hts kin_Q hown hK.1 hP 0 rfl rfl 8 (by decide) (hts _ k4_75) (fun _ h9 => h9) rfl d_Q_make_125 ?_
          refine lv_iload_n hx hb d_Q_make_128 rfl (lv_at hl 2 rfl) ?_
          obtain ⟨h8, hf⟩ := of_gd hf
          obtain ⟨g9, eg9⟩ : ∃ y : Nat → Int32, y = upd Q_which_21 Q_all_21.toNatClampNeg x2_21 := ⟨_, rfl⟩
          have hf := of_nm eg9 hf
          refine va_iast hx hb hK.1 hP hD hS 2 0 rfl rfl (ixb_in h8) d_Q_make_129 (fun H locs hP hD hS => ?_)
          rw [← eg9] at hP hD
          have hP : va_P D vwCl (wv_43 cI cJ cZ aQ aQ_kinds aQ_which aQ_firsts aQ_seconds aQ_thirds aQ_nexts aQ_heads aQ_names aQ_variables aQ_holes aQ_sizes aQ_places aQ_conclusions aQ_premises aQ_counts aQ_hitOf aQ_hitOne aQ_hitTwo aQ_hitTerms aQ_image aQ_bound aQ_waits aQ_waitsFor aQ_seen aQ_goals aQ_steps aQ_looked aQ_under aQ_taken aQ_news aQ_order aQ_there aQ_back Q_thrown Q_all_21 Q_statements Q_hitKind Q_hits Q_tries Q_takenAll Q_takenFirst g7 g9 Q_firsts_21 Q_seconds_21 Q_thirds_21 Q_nexts_21 Q_heads_21 Q_names_21 Q_variables_21 Q_holes_21 Q_sizes_21) H := hP
          have hD : va_D A (wv_43 cI cJ cZ aQ aQ_kinds aQ_which aQ_firsts aQ_seconds aQ_thirds aQ_nexts aQ_heads aQ_names aQ_variables aQ_holes aQ_sizes aQ_places aQ_conclusions aQ_premises aQ_counts aQ_hitOf aQ_hitOne aQ_hitTwo aQ_hitTerms aQ_image aQ_bound aQ_waits aQ_waitsFor aQ_seen aQ_goals aQ_steps aQ_looked aQ_under aQ_taken aQ_news aQ_order aQ_there aQ_back Q_thrown Q_all_21 Q_statements Q_hitKind Q_hits Q_tries Q_takenAll Q_takenFirst g7 g9 Q_firsts_21 Q_seconds_21 Q_thirds_21 Q_nexts_21 Q_heads_21 Q_names_21 Q_variables_21 Q_holes_21 Q_sizes_21) := hD
          refine lv_aload_n hx hb d_Q_make_130 rfl (lv_at hl 0 rfl) ?_
          refine va_get (D := D) (ci := 7) (v := .ref aQ_firsts) (C := RR_Q) (T := FF_Q) (N := 41) hx hb hts kin_Q hown hK.1 hP 0 rfl rfl 3 (by decide) (hts _ k4_70) (fun _ h9 => h9) rfl d_Q_make_131 ?_
          refine lv_aload_n hx hb d_Q_make_134 rfl (lv_at hl 0 rfl) ?_
          refine va_get (D := D) (ci := 7) (v := .int Q_all_21) (C := RR_Q) (T := FF_Q) (N := 41) hx hb hts kin_Q hown hK.1 hP 0 rfl rfl 8 (by decide) (hts _ k4_75) (fun _ h9 => h9) rfl d_Q_make_135 ?_
          refine lv_iload_n hx hb d_Q_make_138 rfl (lv_at hl 3 rfl) ?_
          obtain ⟨h10, hf⟩ := of_gd hf
          obtain ⟨g11, eg11⟩ : ∃ y : Nat → Int32, y = upd Q_firsts_21 Q_all_21.toNatClampNeg x3_21 := ⟨_, rfl⟩
          have hf := of_nm eg11 hf
          refine va_iast hx hb hK.1 hP hD hS 3 0 rfl rfl (ixb_in h10) d_Q_make_139 (fun H locs hP hD hS => ?_)
          rw [← eg11] at hP hD
          have hP : va_P D vwCl (wv_43 cI cJ cZ aQ aQ_kinds aQ_which aQ_firsts aQ_seconds aQ_thirds aQ_nexts aQ_heads aQ_names aQ_variables aQ_holes aQ_sizes aQ_places aQ_conclusions aQ_premises aQ_counts aQ_hitOf aQ_hitOne aQ_hitTwo aQ_hitTerms aQ_image aQ_bound aQ_waits aQ_waitsFor aQ_seen aQ_goals aQ_steps aQ_looked aQ_under aQ_taken aQ_news aQ_order aQ_there aQ_back Q_thrown Q_all_21 Q_statements Q_hitKind Q_hits Q_tries Q_takenAll Q_takenFirst g7 g9 g11 Q_seconds_21 Q_thirds_21 Q_nexts_21 Q_heads_21 Q_names_21 Q_variables_21 Q_holes_21 Q_sizes_21) H := hP
          have hD : va_D A (wv_43 cI cJ cZ aQ aQ_kinds aQ_which aQ_firsts aQ_seconds aQ_thirds aQ_nexts aQ_heads aQ_names aQ_variables aQ_holes aQ_sizes aQ_places aQ_conclusions aQ_premises aQ_counts aQ_hitOf aQ_hitOne aQ_hitTwo aQ_hitTerms aQ_image aQ_bound aQ_waits aQ_waitsFor aQ_seen aQ_goals aQ_steps aQ_looked aQ_under aQ_taken aQ_news aQ_order aQ_there aQ_back Q_thrown Q_all_21 Q_statements Q_hitKind Q_hits Q_tries Q_takenAll Q_takenFirst g7 g9 g11 Q_seconds_21 Q_thirds_21 Q_nexts_21 Q_heads_21 Q_names_21 Q_variables_21 Q_holes_21 Q_sizes_21) := hD
          refine lv_aload_n hx hb d_Q_make_140 rfl (lv_at hl 0 rfl) ?_
          refine va_get (D := D) (ci := 7) (v := .ref aQ_seconds) (C := RR_Q) (T := FF_Q) (N := 41) hx hb hts kin_Q hown hK.1 hP 0 rfl rfl 4 (by decide) (hts _ k4_71) (fun _ h9 => h9) rfl d_Q_make_141 ?_
          refine lv_aload_n hx hb d_Q_make_144 rfl (lv_at hl 0 rfl) ?_
          refine va_get (D := D) (ci := 7) (v := .int Q_all_21) (C := RR_Q) (T := FF_Q) (N := 41) hx hb hts kin_Q hown hK.1 hP 0 rfl rfl 8 (by decide) (hts _ k4_75) (fun _ h9 => h9) rfl d_Q_make_145 ?_
          refine lv_iload hx hb d_Q_make_148 (lv_at hl 4 rfl) ?_
          obtain ⟨h12, hf⟩ := of_gd hf
          obtain ⟨g13, eg13⟩ : ∃ y : Nat → Int32, y = upd Q_seconds_21 Q_all_21.toNatClampNeg x4_21 := ⟨_, rfl⟩
          have hf := of_nm eg13 hf
          refine va_iast hx hb hK.1 hP hD hS 4 0 rfl rfl (ixb_in h12) d_Q_make_150 (fun H locs hP hD hS => ?_)
          rw [← eg13] at hP hD
          have hP : va_P D vwCl (wv_43 cI cJ cZ aQ aQ_kinds aQ_which aQ_firsts aQ_seconds aQ_thirds aQ_nexts aQ_heads aQ_names aQ_variables aQ_holes aQ_sizes aQ_places aQ_conclusions aQ_premises aQ_counts aQ_hitOf aQ_hitOne aQ_hitTwo aQ_hitTerms aQ_image aQ_bound aQ_waits aQ_waitsFor aQ_seen aQ_goals aQ_steps aQ_looked aQ_under aQ_taken aQ_news aQ_order aQ_there aQ_back Q_thrown Q_all_21 Q_statements Q_hitKind Q_hits Q_tries Q_takenAll Q_takenFirst g7 g9 g11 g13 Q_thirds_21 Q_nexts_21 Q_heads_21 Q_names_21 Q_variables_21 Q_holes_21 Q_sizes_21) H := hP
          have hD : va_D A (wv_43 cI cJ cZ aQ aQ_kinds aQ_which aQ_firsts aQ_seconds aQ_thirds aQ_nexts aQ_heads aQ_names aQ_variables aQ_holes aQ_sizes aQ_places aQ_conclusions aQ_premises aQ_counts aQ_hitOf aQ_hitOne aQ_hitTwo aQ_hitTerms aQ_image aQ_bound aQ_waits aQ_waitsFor aQ_seen aQ_goals aQ_steps aQ_looked aQ_under aQ_taken aQ_news aQ_order aQ_there aQ_back Q_thrown Q_all_21 Q_statements Q_hitKind Q_hits Q_tries Q_takenAll Q_takenFirst g7 g9 g11 g13 Q_thirds_21 Q_nexts_21 Q_heads_21 Q_names_21 Q_variables_21 Q_holes_21 Q_sizes_21) := hD
          refine lv_aload_n hx hb d_Q_make_151 rfl (lv_at hl 0 rfl) ?_
          refine va_get (D := D) (ci := 7) (v := .ref aQ_thirds) (C := RR_Q) (T := FF_Q) (N := 41) hx hb hts kin_Q hown hK.1 hP 0 rfl rfl 5 (by decide) (hts _ k4_72) (fun _ h9 => h9) rfl d_Q_make_152 ?_
          refine lv_aload_n hx hb d_Q_make_155 rfl (lv_at hl 0 rfl) ?_
          refine va_get (D := D) (ci := 7) (v := .int Q_all_21) (C := RR_Q) (T := FF_Q) (N := 41) hx hb hts kin_Q hown hK.1 hP 0 rfl rfl 8 (by decide) (hts _ k4_75) (fun _ h9 => h9) rfl d_Q_make_156 ?_
          refine lv_iload hx hb d_Q_make_159 (lv_at hl 5 rfl) ?_
          obtain ⟨h14, hf⟩ := of_gd hf
          obtain ⟨g15, eg15⟩ : ∃ y : Nat → Int32, y = upd Q_thirds_21 Q_all_21.toNatClampNeg x5_21 := ⟨_, rfl⟩
          have hf := of_nm eg15 hf
          refine va_iast hx hb hK.1 hP hD hS 5 0 rfl rfl (ixb_in h14) d_Q_make_161 (fun H locs hP hD hS => ?_)
          rw [← eg15] at hP hD
          have hP : va_P D vwCl (wv_43 cI cJ cZ aQ aQ_kinds aQ_which aQ_firsts aQ_seconds aQ_thirds aQ_nexts aQ_heads aQ_names aQ_variables aQ_holes aQ_sizes aQ_places aQ_conclusions aQ_premises aQ_counts aQ_hitOf aQ_hitOne aQ_hitTwo aQ_hitTerms aQ_image aQ_bound aQ_waits aQ_waitsFor aQ_seen aQ_goals aQ_steps aQ_looked aQ_under aQ_taken aQ_news aQ_order aQ_there aQ_back Q_thrown Q_all_21 Q_statements Q_hitKind Q_hits Q_tries Q_takenAll Q_takenFirst g7 g9 g11 g13 g15 Q_nexts_21 Q_heads_21 Q_names_21 Q_variables_21 Q_holes_21 Q_sizes_21) H := hP
          have hD : va_D A (wv_43 cI cJ cZ aQ aQ_kinds aQ_which aQ_firsts aQ_seconds aQ_thirds aQ_nexts aQ_heads aQ_names aQ_variables aQ_holes aQ_sizes aQ_places aQ_conclusions aQ_premises aQ_counts aQ_hitOf aQ_hitOne aQ_hitTwo aQ_hitTerms aQ_image aQ_bound aQ_waits aQ_waitsFor aQ_seen aQ_goals aQ_steps aQ_looked aQ_under aQ_taken aQ_news aQ_order aQ_there aQ_back Q_thrown Q_all_21 Q_statements Q_hitKind Q_hits Q_tries Q_takenAll Q_takenFirst g7 g9 g11 g13 g15 Q_nexts_21 Q_heads_21 Q_names_21 Q_variables_21 Q_holes_21 Q_sizes_21) := hD
          refine lv_aload_n hx hb d_Q_make_162 rfl (lv_at hl 0 rfl) ?_
          refine va_get (D := D) (ci := 7) (v := .ref aQ_nexts) (C := RR_Q) (T := FF_Q) (N := 41) hx hb hts kin_Q hown hK.1 hP 0 rfl rfl 6 (by decide) (hts _ k4_73) (fun _ h9 => h9) rfl d_Q_make_163 ?_
          refine lv_aload_n hx hb d_Q_make_166 rfl (lv_at hl 0 rfl) ?_
          refine va_get (D := D) (ci := 7) (v := .int Q_all_21) (C := RR_Q) (T := FF_Q) (N := 41) hx hb hts kin_Q hown hK.1 hP 0 rfl rfl 8 (by decide) (hts _ k4_75) (fun _ h9 => h9) rfl d_Q_make_167 ?_
          refine lv_aload_n hx hb d_Q_make_170 rfl (lv_at hl 0 rfl) ?_
          refine va_get (D := D) (ci := 7) (v := .ref aQ_heads) (C := RR_Q) (T := FF_Q) (N := 41) hx hb hts kin_Q hown hK.1 hP 0 rfl rfl 7 (by decide) (hts _ k4_74) (fun _ h9 => h9) rfl d_Q_make_171 ?_
          refine lv_iload hx hb d_Q_make_174 (lv_at hl 7 rfl) ?_
          obtain ⟨h16, hf⟩ := of_gd hf
          refine va_iald hx hb hK.1 hP 7 0 rfl rfl (ixb_in h16) d_Q_make_176 ?_
          obtain ⟨h17, hf⟩ := of_gd hf
          obtain ⟨g18, eg18⟩ : ∃ y : Nat → Int32, y = upd Q_nexts_21 Q_all_21.toNatClampNeg (Q_heads_21 x7_21.toNatClampNeg) := ⟨_, rfl⟩
          have hf := of_nm eg18 hf
          refine va_iast hx hb hK.1 hP hD hS 6 0 rfl rfl (ixb_in h17) d_Q_make_177 (fun H locs hP hD hS => ?_)
          rw [← eg18] at hP hD
          have hP : va_P D vwCl (wv_43 cI cJ cZ aQ aQ_kinds aQ_which aQ_firsts aQ_seconds aQ_thirds aQ_nexts aQ_heads aQ_names aQ_variables aQ_holes aQ_sizes aQ_places aQ_conclusions aQ_premises aQ_counts aQ_hitOf aQ_hitOne aQ_hitTwo aQ_hitTerms aQ_image aQ_bound aQ_waits aQ_waitsFor aQ_seen aQ_goals aQ_steps aQ_looked aQ_under aQ_taken aQ_news aQ_order aQ_there aQ_back Q_thrown Q_all_21 Q_statements Q_hitKind Q_hits Q_tries Q_takenAll Q_takenFirst g7 g9 g11 g13 g15 g18 Q_heads_21 Q_names_21 Q_variables_21 Q_holes_21 Q_sizes_21) H := hP
          have hD : va_D A (wv_43 cI cJ cZ aQ aQ_kinds aQ_which aQ_firsts aQ_seconds aQ_thirds aQ_nexts aQ_heads aQ_names aQ_variables aQ_holes aQ_sizes aQ_places aQ_conclusions aQ_premises aQ_counts aQ_hitOf aQ_hitOne aQ_hitTwo aQ_hitTerms aQ_image aQ_bound aQ_waits aQ_waitsFor aQ_seen aQ_goals aQ_steps aQ_looked aQ_under aQ_taken aQ_news aQ_order aQ_there aQ_back Q_thrown Q_all_21 Q_statements Q_hitKind Q_hits Q_tries Q_takenAll Q_takenFirst g7 g9 g11 g13 g15 g18 Q_heads_21 Q_names_21 Q_variables_21 Q_holes_21 Q_sizes_21) := hD
          refine lv_aload_n hx hb d_Q_make_178 rfl (lv_at hl 0 rfl) ?_
          refine va_get (D := D) (ci := 7) (v := .ref aQ_heads) (C := RR_Q) (T := FF_Q) (N := 41) hx hb hts kin_Q hown hK.1 hP 0 rfl rfl 7 (by decide) (hts _ k4_74) (fun _ h9 => h9) rfl d_Q_make_179 ?_
          refine lv_iload hx hb d_Q_make_182 (lv_at hl 7 rfl) ?_
          refine lv_aload_n hx hb d_Q_make_184 rfl (lv_at hl 0 rfl) ?_
          refine va_get (D := D) (ci := 7) (v := .int Q_all_21) (C := RR_Q) (T := FF_Q) (N := 41) hx hb hts kin_Q hown hK.1 hP 0 rfl rfl 8 (by decide) (hts _ k4_75) (fun _ h9 => h9) rfl d_Q_make_185 ?_
          obtain ⟨h19, hf⟩ := of_gd hf
          obtain ⟨g20, eg20⟩ : ∃ y : Nat → Int32, y = upd Q_heads_21 x7_21.toNatClampNeg Q_all_21 := ⟨_, rfl⟩
          have hf := of_nm eg20 hf
          refine va_iast hx hb hK.1 hP hD hS 7 0 rfl rfl (ixb_in h19) d_Q_make_188 (fun H locs hP hD hS => ?_)
          rw [← eg20] at hP hD
          have hP : va_P D vwCl (wv_43 cI cJ cZ aQ aQ_kinds aQ_which aQ_firsts aQ_seconds aQ_thirds aQ_nexts aQ_heads aQ_names aQ_variables aQ_holes aQ_sizes aQ_places aQ_conclusions aQ_premises aQ_counts aQ_hitOf aQ_hitOne aQ_hitTwo aQ_hitTerms aQ_image aQ_bound aQ_waits aQ_waitsFor aQ_seen aQ_goals aQ_steps aQ_looked aQ_under aQ_taken aQ_news aQ_order aQ_there aQ_back Q_thrown Q_all_21 Q_statements Q_hitKind Q_hits Q_tries Q_takenAll Q_takenFirst g7 g9 g11 g13 g15 g18 g20 Q_names_21 Q_variables_21 Q_holes_21 Q_sizes_21) H := hP
          have hD : va_D A (wv_43 cI cJ cZ aQ aQ_kinds aQ_which aQ_firsts aQ_seconds aQ_thirds aQ_nexts aQ_heads aQ_names aQ_variables aQ_holes aQ_sizes aQ_places aQ_conclusions aQ_premises aQ_counts aQ_hitOf aQ_hitOne aQ_hitTwo aQ_hitTerms aQ_image aQ_bound aQ_waits aQ_waitsFor aQ_seen aQ_goals aQ_steps aQ_looked aQ_under aQ_taken aQ_news aQ_order aQ_there aQ_back Q_thrown Q_all_21 Q_statements Q_hitKind Q_hits Q_tries Q_takenAll Q_takenFirst g7 g9 g11 g13 g15 g18 g20 Q_names_21 Q_variables_21 Q_holes_21 Q_sizes_21) := hD
          refine lv_aload_n hx hb d_Q_make_189 rfl (lv_at hl 0 rfl) ?_
          refine va_get (D := D) (ci := 7) (v := .int Q_all_21) (C := RR_Q) (T := FF_Q) (N := 41) hx hb hts kin_Q hown hK.1 hP 0 rfl rfl 8 (by decide) (hts _ k4_75) (fun _ h9 => h9) rfl d_Q_make_190 ?_
          refine lv_bipush (v := 100) hx hb d_Q_make_193 (by decide) ?_
          refine lv_icmp_ge (tgt := 213) hx hb d_Q_make_195 (by decide) (fun c21 => ?_) (fun c21 => ?_)
          · have hf := ite_t c21 hf
            exact hB213 _ _ _ _ _ _ _ _ _ _ _ _ _ _ hP hD hS _ (lv_sub hl [0] rfl) hf
          · have hf := ite_f c21 hf
            refine lv_iload hx hb d_Q_make_198 (lv_at hl 6 rfl) ?_
            refine lv_bipush (v := 100) hx hb d_Q_make_200 (by decide) ?_
            refine lv_icmp_ne (tgt := 213) hx hb d_Q_make_202 (by decide) (fun c22 => ?_) (fun c22 => ?_)
            · have hf := ite_f c22 hf
              exact hB213 _ _ _ _ _ _ _ _ _ _ _ _ _ _ hP hD hS _ (lv_sub hl [0] rfl) hf
            · have hf := ite_t c22 hf
              refine lv_aload_n hx hb d_Q_make_205 rfl (lv_at hl 0 rfl) ?_
              refine lv_aload_n hx hb d_Q_make_206 rfl (lv_at hl 0 rfl) ?_
              refine va_get (D := D) (ci := 7) (v := .int Q_all_21) (C := RR_Q) (T := FF_Q) (N := 41) hx hb hts kin_Q hown hK.1 hP 0 rfl rfl 8 (by decide) (hts _ k4_75) (fun _ h9 => h9) rfl d_Q_make_207 ?_
              obtain ⟨r23, hr23, hf⟩ := of_bd hf
              refine wr_call (ws' := (wv_43 cI cJ cZ aQ aQ_kinds aQ_which aQ_firsts aQ_seconds aQ_thirds aQ_nexts aQ_heads aQ_names aQ_variables aQ_holes aQ_sizes aQ_places aQ_conclusions aQ_premises aQ_counts aQ_hitOf aQ_hitOne aQ_hitTwo aQ_hitTerms aQ_image aQ_bound aQ_waits aQ_waitsFor aQ_seen aQ_goals aQ_steps aQ_looked aQ_under aQ_taken aQ_news aQ_order aQ_there aQ_back Q_thrown Q_all_21 Q_statements Q_hitKind Q_hits Q_tries Q_takenAll Q_takenFirst g7 g9 g11 g13 g15 g18 g20 r23.1 r23.2.1 r23.2.2.1 r23.2.2.2)) (va_runV (As := [.int Q_all_21]) (rest := []) ⟨hx, hb, hml, hown, hts⟩ (c_Q_tell l D cI cJ cZ aQ aQ_kinds aQ_which aQ_firsts aQ_seconds aQ_thirds aQ_nexts aQ_heads aQ_names aQ_variables aQ_holes aQ_sizes aQ_places aQ_conclusions aQ_premises aQ_counts aQ_hitOf aQ_hitOne aQ_hitTwo aQ_hitTerms aQ_image aQ_bound aQ_waits aQ_waitsFor aQ_seen aQ_goals aQ_steps aQ_looked aQ_under aQ_taken aQ_news aQ_order aQ_there aQ_back _ Q_thrown Q_all_21 Q_statements Q_hitKind Q_hits Q_tries Q_takenAll Q_takenFirst g7 g9 g11 g13 g15 Q_names_21 Q_variables_21 Q_holes_21 Q_sizes_21 Q_all_21 r23 hr23) (bigV 1 hts k4_214 k4_216 ks_Q_tell k1_9 k4_217 rfl rfl hd_Q_tell ⟨Nat.le_of_ble_eq_true rfl, Nat.le_of_ble_eq_true rfl⟩) (wr_preV hK hP hD [0, 1, 2, 3, 4, 5, 8, 9, 10, 11] rfl (by decide) rfl 0 rfl rfl rfl) rfl rfl hl.1 rfl (lv_room (Nat.le_of_ble_eq_true rfl)) d_Q_make_210 ⟨Nat.le_of_ble_eq_true rfl, Nat.le_of_ble_eq_true rfl⟩) hP hD hS hA [0, 1, 2, 3, 4, 5, 8, 9, 10, 11] [6, 7] rfl rfl (by decide) (by decide) [2, 3, 4, 5, 6, 7, 0, 1, 8, 9, 10, 11] (by decide) rfl (fun H locs hP hD hS => ?_)
              exact hB213 _ _ _ _ _ _ _ _ _ _ _ _ _ _ hP hD hS _ (lv_sub hl [0] rfl) hf
        · have hf := ite_t c5 hf
          refine lv_iconst (v := -1) hx hb d_Q_make_108 (by decide) ?_
          obtain rfl := Option.some.inj hf
          exact W.iret (v := (-1 : Int32)) hx hb hr (fun t ht hW => ⟨rfl, by rw [ht]; exact hP, hD, hS.F ht⟩) hS.2.2 d_Q_make_109
      · have hf := ite_f c4 hf
        refine lv_aload_n hx hb d_Q_make_27 rfl (lv_at hl 0 rfl) ?_
        refine va_get (D := D) (ci := 7) (v := .ref aQ_kinds) (C := RR_Q) (T := FF_Q) (N := 41) hx hb hts kin_Q hown hK.1 hP 0 rfl rfl 1 (by decide) (hts _ k4_68) (fun _ h9 => h9) rfl d_Q_make_28 ?_
        refine lv_iload hx hb d_Q_make_31 (lv_at hl 8 rfl) ?_
        obtain ⟨h24, hf⟩ := of_gd hf
        refine va_iald hx hb hK.1 hP 1 0 rfl rfl (ixb_in h24) d_Q_make_33 ?_
        refine lv_iload_n hx hb d_Q_make_34 rfl (lv_at hl 1 rfl) ?_
        refine lv_icmp_ne (tgt := 87) hx hb d_Q_make_35 (by decide) (fun c25 => ?_) (fun c25 => ?_)
        · have hf := ite_f c25 hf
          exact hB87 _ _ _ _ _ _ _ _ _ _ _ _ _ _ _ _ _ _ _ _ _ _ hP hD hS _ (lv_sub hl [0, 1, 2, 3, 4, 5, 6, 7, 8] rfl) hf
        · have hf := ite_t c25 hf
          refine lv_aload_n hx hb d_Q_make_38 rfl (lv_at hl 0 rfl) ?_
          refine va_get (D := D) (ci := 7) (v := .ref aQ_which) (C := RR_Q) (T := FF_Q) (N := 41) hx hb hts kin_Q hown hK.1 hP 0 rfl rfl 2 (by decide) (hts _ k4_69) (fun _ h9 => h9) rfl d_Q_make_39 ?_
          refine lv_iload hx hb d_Q_make_42 (lv_at hl 8 rfl) ?_
          obtain ⟨h26, hf⟩ := of_gd hf
          refine va_iald hx hb hK.1 hP 2 0 rfl rfl (ixb_in h26) d_Q_make_44 ?_
          refine lv_iload_n hx hb d_Q_make_45 rfl (lv_at hl 2 rfl) ?_
          refine lv_icmp_ne (tgt := 87) hx hb d_Q_make_46 (by decide) (fun c27 => ?_) (fun c27 => ?_)
          · have hf := ite_f c27 hf
            exact hB87 _ _ _ _ _ _ _ _ _ _ _ _ _ _ _ _ _ _ _ _ _ _ hP hD hS _ (lv_sub hl [0, 1, 2, 3, 4, 5, 6, 7, 8] rfl) hf
          · have hf := ite_t c27 hf
            refine lv_aload_n hx hb d_Q_make_49 rfl (lv_at hl 0 rfl) ?_
            refine va_get (D := D) (ci := 7) (v := .ref aQ_firsts) (C := RR_Q) (T := FF_Q) (N := 41) hx hb hts kin_Q hown hK.1 hP 0 rfl rfl 3 (by decide) (hts _ k4_70) (fun _ h9 => h9) rfl d_Q_make_50 ?_
            refine lv_iload hx hb d_Q_make_53 (lv_at hl 8 rfl) ?_
            obtain ⟨h28, hf⟩ := of_gd hf
            refine va_iald hx hb hK.1 hP 3 0 rfl rfl (ixb_in h28) d_Q_make_55 ?_
            refine lv_iload_n hx hb d_Q_make_56 rfl (lv_at hl 3 rfl) ?_
            refine lv_icmp_ne (tgt := 87) hx hb d_Q_make_57 (by decide) (fun c29 => ?_) (fun c29 => ?_)
            · have hf := ite_f c29 hf
              exact hB87 _ _ _ _ _ _ _ _ _ _ _ _ _ _ _ _ _ _ _ _ _ _ hP hD hS _ (lv_sub hl [0, 1, 2, 3, 4, 5, 6, 7, 8] rfl) hf
            · have hf := ite_t c29 hf
              refine lv_aload_n hx hb d_Q_make_60 rfl (lv_at hl 0 rfl) ?_
              refine va_get (D := D) (ci := 7) (v := .ref aQ_seconds) (C := RR_Q) (T := FF_Q) (N := 41) hx hb hts kin_Q hown hK.1 hP 0 rfl rfl 4 (by decide) (hts _ k4_71) (fun _ h9 => h9) rfl d_Q_make_61 ?_
              refine lv_iload hx hb d_Q_make_64 (lv_at hl 8 rfl) ?_
              obtain ⟨h30, hf⟩ := of_gd hf
              refine va_iald hx hb hK.1 hP 4 0 rfl rfl (ixb_in h30) d_Q_make_66 ?_
              refine lv_iload hx hb d_Q_make_67 (lv_at hl 4 rfl) ?_
              refine lv_icmp_ne (tgt := 87) hx hb d_Q_make_69 (by decide) (fun c31 => ?_) (fun c31 => ?_)
              · have hf := ite_f c31 hf
                exact hB87 _ _ _ _ _ _ _ _ _ _ _ _ _ _ _ _ _ _ _ _ _ _ hP hD hS _ (lv_sub hl [0, 1, 2, 3, 4, 5, 6, 7, 8] rfl) hf
              · have hf := ite_t c31 hf
                refine lv_aload_n hx hb d_Q_make_72 rfl (lv_at hl 0 rfl) ?_
                refine va_get (D := D) (ci := 7) (v := .ref aQ_thirds) (C := RR_Q) (T := FF_Q) (N := 41) hx hb hts kin_Q hown hK.1 hP 0 rfl rfl 5 (by decide) (hts _ k4_72) (fun _ h9 => h9) rfl d_Q_make_73 ?_
                refine lv_iload hx hb d_Q_make_76 (lv_at hl 8 rfl) ?_
                obtain ⟨h32, hf⟩ := of_gd hf
                refine va_iald hx hb hK.1 hP 5 0 rfl rfl (ixb_in h32) d_Q_make_78 ?_
                refine lv_iload hx hb d_Q_make_79 (lv_at hl 5 rfl) ?_
                refine lv_icmp_ne (tgt := 87) hx hb d_Q_make_81 (by decide) (fun c33 => ?_) (fun c33 => ?_)
                · have hf := ite_f c33 hf
                  exact hB87 _ _ _ _ _ _ _ _ _ _ _ _ _ _ _ _ _ _ _ _ _ _ hP hD hS _ (lv_sub hl [0, 1, 2, 3, 4, 5, 6, 7, 8] rfl) hf
                · have hf := ite_t c33 hf
                  refine lv_iload hx hb d_Q_make_84 (lv_at hl 8 rfl) ?_
                  obtain rfl := Option.some.inj hf
                  exact W.iret (v := x8_21) hx hb hr (fun t ht hW => ⟨rfl, by rw [ht]; exact hP, hD, hS.F ht⟩) hS.2.2 d_Q_make_86
  rw [f_Q_make] at hf
  refine lv_iload_n hx hb d_Q_make_0 rfl (lv_at hl 1 rfl) ?_
  refine lv_iload_n hx hb d_Q_make_1 rfl (lv_at hl 2 rfl) ?_
  refine lv_iload_n hx hb d_Q_make_2 rfl (lv_at hl 3 rfl) ?_
  refine lv_iload hx hb d_Q_make_3 (lv_at hl 4 rfl) ?_
  refine lv_iload hx hb d_Q_make_5 (lv_at hl 5 rfl) ?_
  obtain ⟨r1, hr1, hf⟩ := of_bd hf
  refine rd_call (va_runS (As := [.int p0, .int p1, .int p2, .int p3, .int p4]) (rest := []) ⟨hx, hb, hml, hown, hts⟩ (c_Q_headOf l D cI cJ cZ p0 p1 p2 p3 p4 r1 hr1) (bigS 5 hts k4_211 k4_212 k1_9 k4_213 rfl rfl hd_Q_headOf ⟨Nat.le_of_ble_eq_true rfl, Nat.le_of_ble_eq_true rfl⟩) (rd_preS hK hP [] rfl) rfl rfl hl.1 rfl (lv_room (Nat.le_of_ble_eq_true rfl)) d_Q_make_7 ⟨Nat.le_of_ble_eq_true rfl, Nat.le_of_ble_eq_true rfl⟩) ?_
  refine lv_istore (lv' := [(7, .int r1), (0, .ref aQ), (1, .int p0), (2, .int p1), (3, .int p2), (4, .int p3), (5, .int p4), (6, .int p5)]) hx hb d_Q_make_10 hl (by decide) rfl (fun ls hl => ?_)
  refine lv_aload_n hx hb d_Q_make_12 rfl (lv_at hl 1 rfl) ?_
  refine va_get (D := D) (ci := 7) (v := .ref aQ_heads) (C := RR_Q) (T := FF_Q) (N := 41) hx hb hts kin_Q hown hK.1 hP 0 rfl rfl 7 (by decide) (hts _ k4_74) (fun _ h9 => h9) rfl d_Q_make_13 ?_
  refine lv_iload hx hb d_Q_make_16 (lv_at hl 0 rfl) ?_
  obtain ⟨h2, hf⟩ := of_gd hf
  refine va_iald hx hb hK.1 hP 7 0 rfl rfl (ixb_in h2) d_Q_make_18 ?_
  refine lv_topi (fun x3 ex3 => ?_)
  have hf := of_nm ex3 hf
  refine lv_istore (lv' := [(8, .int x3), (7, .int r1), (0, .ref aQ), (1, .int p0), (2, .int p1), (3, .int p2), (4, .int p3), (5, .int p4), (6, .int p5)]) hx hb d_Q_make_19 hl (by decide) rfl (fun ls hl => ?_)
  exact hL21 FU _ _ _ _ _ _ _ _ _ _ _ _ _ _ _ _ _ _ _ _ _ _ hP hD hS _ (lv_sub hl [2, 3, 4, 5, 6, 7, 8, 1, 0] rfl) hf
def f_Q_made_B11 (Q_thrown_11 : Int32) (x1_11 : Int32) (s1_11 : Int32) : Option (Int32 × Int32) :=
  if x1_11 = (-1 : Int32) then
    some ((0 : Int32), s1_11)
  else
    some (x1_11, s1_11)
def f_Q_made (Q_thrown : Int32) (p0 : Int32) (p1 : Int32) : Option (Int32 × Int32) :=
  if p0 = (-1 : Int32) then
    f_Q_made_B11 Q_thrown p0 p1
  else
    f_Q_made_B11 Q_thrown p0 (0 : Int32)
abbrev rm_Q_made : Room := { frames := 0, cells := 0, slots := 0, locals := 0 }
set_option maxHeartbeats 4000000 in
set_option maxRecDepth 100000 in
theorem c_Q_made (l : Launch) (D : va_G) (cI cJ cZ : ClassId) (aQ aQ_kinds aQ_which aQ_firsts aQ_seconds aQ_thirds aQ_nexts aQ_heads aQ_names aQ_variables aQ_holes aQ_sizes aQ_places aQ_conclusions aQ_premises aQ_counts aQ_hitOf aQ_hitOne aQ_hitTwo aQ_hitTerms aQ_image aQ_bound aQ_waits aQ_waitsFor aQ_seen aQ_goals aQ_steps aQ_looked aQ_under aQ_taken aQ_news aQ_order aQ_there aQ_back : Nat) (sz : Nat) (Q_thrown : Int32) (Q_all : Int32) (Q_statements : Int32) (Q_hitKind : Int32) (Q_hits : Int32) (Q_tries : Int32) (Q_takenAll : Int32) (Q_takenFirst : Int32) (p0 : Int32) (p1 : Int32) (o : Int32 × Int32) (hf : f_Q_made Q_thrown p0 p1 = some o) : Met l y_Q_made (ws_Q_made) rm_Q_made (WPc D vwCl cI cJ cZ [.ref aQ, .int p0, .int p1] (wv_39 cI cJ cZ aQ aQ_kinds aQ_which aQ_firsts aQ_seconds aQ_thirds aQ_nexts aQ_heads aQ_names aQ_variables aQ_holes aQ_sizes aQ_places aQ_conclusions aQ_premises aQ_counts aQ_hitOf aQ_hitOne aQ_hitTwo aQ_hitTerms aQ_image aQ_bound aQ_waits aQ_waitsFor aQ_seen aQ_goals aQ_steps aQ_looked aQ_under aQ_taken aQ_news aQ_order aQ_there aQ_back Q_thrown Q_all Q_statements Q_hitKind Q_hits Q_tries Q_takenAll Q_takenFirst) sz) (WQ D vwCl (some (.int o.1)) (wv_39 cI cJ cZ aQ aQ_kinds aQ_which aQ_firsts aQ_seconds aQ_thirds aQ_nexts aQ_heads aQ_names aQ_variables aQ_holes aQ_sizes aQ_places aQ_conclusions aQ_premises aQ_counts aQ_hitOf aQ_hitOne aQ_hitTwo aQ_hitTerms aQ_image aQ_bound aQ_waits aQ_waitsFor aQ_seen aQ_goals aQ_steps aQ_looked aQ_under aQ_taken aQ_news aQ_order aQ_there aQ_back o.2 Q_all Q_statements Q_hitKind Q_hits Q_tries Q_takenAll Q_takenFirst) (va_A (wv_39 cI cJ cZ aQ aQ_kinds aQ_which aQ_firsts aQ_seconds aQ_thirds aQ_nexts aQ_heads aQ_names aQ_variables aQ_holes aQ_sizes aQ_places aQ_conclusions aQ_premises aQ_counts aQ_hitOf aQ_hitOne aQ_hitTwo aQ_hitTerms aQ_image aQ_bound aQ_waits aQ_waitsFor aQ_seen aQ_goals aQ_steps aQ_looked aQ_under aQ_taken aQ_news aQ_order aQ_there aQ_back Q_thrown Q_all Q_statements Q_hitKind Q_hits Q_tries Q_takenAll Q_takenFirst) sz)) 0 0 (va_A (wv_39 cI cJ cZ aQ aQ_kinds aQ_which aQ_firsts aQ_seconds aQ_thirds aQ_nexts aQ_heads aQ_names aQ_variables aQ_holes aQ_sizes aQ_places aQ_conclusions aQ_premises aQ_counts aQ_hitOf aQ_hitOne aQ_hitTwo aQ_hitTerms aQ_image aQ_bound aQ_waits aQ_waitsFor aQ_seen aQ_goals aQ_steps aQ_looked aQ_under aQ_taken aQ_news aQ_order aQ_there aQ_back Q_thrown Q_all Q_statements Q_hitKind Q_hits Q_tries Q_takenAll Q_takenFirst) sz) := by
  refine Met.ofW (cc := b_Q_made) (maxL := 3) (ret := (some .int)) (by decide) rfl ?_
  intro p e s m args below meth c s₁ B hml hv
  obtain ⟨rfl, rfl, hP, hK, hD0⟩ := hv
  have hx := B.exec
  have hb := B.bytes
  have hr := B.returns
  have hts : ∀ w ∈ BG, w.before _ s = true := fun w h => atoms_spec (ws := (ws_Q_made)) B.pre w (List.mem_cons_of_mem _ h)
  have hown : s.vm.findClass RR_Q = some m.cls := findClass_of_methodNamed B.named
  have hlocks := B.notSynchronized
  have hD := hD0.self (sz := s.heap.size)
  have hA : ∀ q : Nat, s.heap.size ≤ q → va_A (wv_39 cI cJ cZ aQ aQ_kinds aQ_which aQ_firsts aQ_seconds aQ_thirds aQ_nexts aQ_heads aQ_names aQ_variables aQ_holes aQ_sizes aQ_places aQ_conclusions aQ_premises aQ_counts aQ_hitOf aQ_hitOne aQ_hitTwo aQ_hitTerms aQ_image aQ_bound aQ_waits aQ_waitsFor aQ_seen aQ_goals aQ_steps aQ_looked aQ_under aQ_taken aQ_news aQ_order aQ_there aQ_back Q_thrown Q_all Q_statements Q_hitKind Q_hits Q_tries Q_takenAll Q_takenFirst) s.heap.size q := fun q h => Or.inr h
  have hS : va_S (va_A (wv_39 cI cJ cZ aQ aQ_kinds aQ_which aQ_firsts aQ_seconds aQ_thirds aQ_nexts aQ_heads aQ_names aQ_variables aQ_holes aQ_sizes aQ_places aQ_conclusions aQ_premises aQ_counts aQ_hitOf aQ_hitOne aQ_hitTwo aQ_hitTerms aQ_image aQ_bound aQ_waits aQ_waitsFor aQ_seen aQ_goals aQ_steps aQ_looked aQ_under aQ_taken aQ_news aQ_order aQ_there aQ_back Q_thrown Q_all Q_statements Q_hitKind Q_hits Q_tries Q_takenAll Q_takenFirst) s.heap.size) s.heap s.heap [] := va_S.rf
  generalize va_A (wv_39 cI cJ cZ aQ aQ_kinds aQ_which aQ_firsts aQ_seconds aQ_thirds aQ_nexts aQ_heads aQ_names aQ_variables aQ_holes aQ_sizes aQ_places aQ_conclusions aQ_premises aQ_counts aQ_hitOf aQ_hitOne aQ_hitTwo aQ_hitTerms aQ_image aQ_bound aQ_waits aQ_waitsFor aQ_seen aQ_goals aQ_steps aQ_looked aQ_under aQ_taken aQ_news aQ_order aQ_there aQ_back Q_thrown Q_all Q_statements Q_hitKind Q_hits Q_tries Q_takenAll Q_takenFirst) s.heap.size = A at hD hA hS ⊢
  have hl := lv_entry ([.ref aQ, .int p0, .int p1]) (n := 3) (Nat.le_of_ble_eq_true rfl)
  rw [lg_entry_eq]
  generalize (lg_sl ([.ref aQ, .int p0, .int p1]) ++ List.replicate (3 - (lg_sl ([.ref aQ, .int p0, .int p1])).length) Slot.unset).toArray = ls at hl ⊢
  have hl : lv_has ls 3 [(0, .ref aQ), (1, .int p0), (2, .int p1)] := hl
  have hB11 : ∀ (Q_thrown_11 : Int32) (x1_11 : Int32) (s1_11 : Int32), ∀ (H : Heap) (locs : List Loc), va_P D vwCl (wv_39 cI cJ cZ aQ aQ_kinds aQ_which aQ_firsts aQ_seconds aQ_thirds aQ_nexts aQ_heads aQ_names aQ_variables aQ_holes aQ_sizes aQ_places aQ_conclusions aQ_premises aQ_counts aQ_hitOf aQ_hitOne aQ_hitTwo aQ_hitTerms aQ_image aQ_bound aQ_waits aQ_waitsFor aQ_seen aQ_goals aQ_steps aQ_looked aQ_under aQ_taken aQ_news aQ_order aQ_there aQ_back Q_thrown_11 Q_all Q_statements Q_hitKind Q_hits Q_tries Q_takenAll Q_takenFirst) H → va_D A (wv_39 cI cJ cZ aQ aQ_kinds aQ_which aQ_firsts aQ_seconds aQ_thirds aQ_nexts aQ_heads aQ_names aQ_variables aQ_holes aQ_sizes aQ_places aQ_conclusions aQ_premises aQ_counts aQ_hitOf aQ_hitOne aQ_hitTwo aQ_hitTerms aQ_image aQ_bound aQ_waits aQ_waitsFor aQ_seen aQ_goals aQ_steps aQ_looked aQ_under aQ_taken aQ_news aQ_order aQ_there aQ_back Q_thrown_11 Q_all Q_statements Q_hitKind Q_hits Q_tries Q_takenAll Q_takenFirst) → va_S A s.heap H locs → ∀ (ls : Array Slot), lv_has ls 3 [(1, .int x1_11)] → f_Q_made_B11 Q_thrown_11 x1_11 s1_11 = some o → W p l e (headSpec (ws_Q_made) rm_Q_made).room s m ([.ref aQ, .int p0, .int p1] : List Value).toArray below meth c H locs 0 0 (MQ below (WQ D vwCl (some (.int o.1)) (wv_39 cI cJ cZ aQ aQ_kinds aQ_which aQ_firsts aQ_seconds aQ_thirds aQ_nexts aQ_heads aQ_names aQ_variables aQ_holes aQ_sizes aQ_places aQ_conclusions aQ_premises aQ_counts aQ_hitOf aQ_hitOne aQ_hitTwo aQ_hitTerms aQ_image aQ_bound aQ_waits aQ_waitsFor aQ_seen aQ_goals aQ_steps aQ_looked aQ_under aQ_taken aQ_news aQ_order aQ_there aQ_back o.2 Q_all Q_statements Q_hitKind Q_hits Q_tries Q_takenAll Q_takenFirst) A) ([.ref aQ, .int p0, .int p1] : List Value).toArray s 0 0 A) (F0 m 11 ls [.int s1_11, .ref aQ]) := by
    intro Q_thrown_11 x1_11 s1_11 H locs hP hD hS ls hl hf
    rw [f_Q_made_B11] at hf
    refine va_put (D := D) (ci := 7) (v := .int s1_11) (ty := .int) (C := RR_Q) (T := FF_Q) (N := 41) hx hb hts kin_Q TT_Q tok_Q nok_Q hown hK.1 hP hD hS 0 rfl rfl 0 (by decide) (hts _ k4_67) (fun _ h9 => h9) rfl (by decide +kernel) rfl rfl (Nat.le_of_ble_eq_true rfl) d_Q_made_11 (fun H locs hP hD hS => ?_)
    have hP : va_P D vwCl (wv_39 cI cJ cZ aQ aQ_kinds aQ_which aQ_firsts aQ_seconds aQ_thirds aQ_nexts aQ_heads aQ_names aQ_variables aQ_holes aQ_sizes aQ_places aQ_conclusions aQ_premises aQ_counts aQ_hitOf aQ_hitOne aQ_hitTwo aQ_hitTerms aQ_image aQ_bound aQ_waits aQ_waitsFor aQ_seen aQ_goals aQ_steps aQ_looked aQ_under aQ_taken aQ_news aQ_order aQ_there aQ_back s1_11 Q_all Q_statements Q_hitKind Q_hits Q_tries Q_takenAll Q_takenFirst) H := hP
    have hD : va_D A (wv_39 cI cJ cZ aQ aQ_kinds aQ_which aQ_firsts aQ_seconds aQ_thirds aQ_nexts aQ_heads aQ_names aQ_variables aQ_holes aQ_sizes aQ_places aQ_conclusions aQ_premises aQ_counts aQ_hitOf aQ_hitOne aQ_hitTwo aQ_hitTerms aQ_image aQ_bound aQ_waits aQ_waitsFor aQ_seen aQ_goals aQ_steps aQ_looked aQ_under aQ_taken aQ_news aQ_order aQ_there aQ_back s1_11 Q_all Q_statements Q_hitKind Q_hits Q_tries Q_takenAll Q_takenFirst) := hD
    refine lv_iload_n hx hb d_Q_made_14 rfl (lv_at hl 0 rfl) ?_
    refine lv_iconst (v := -1) hx hb d_Q_made_15 (by decide) ?_
    refine lv_icmp_ne (tgt := 23) hx hb d_Q_made_16 (by decide) (fun c2 => ?_) (fun c2 => ?_)
    · have hf := ite_f c2 hf
      refine lv_iload_n hx hb d_Q_made_23 rfl (lv_at hl 0 rfl) ?_
      obtain rfl := Option.some.inj hf
      exact W.iret (v := x1_11) hx hb hr (fun t ht hW => ⟨rfl, by rw [ht]; exact hP, hD, hS.F ht⟩) hS.2.2 d_Q_made_24
    · have hf := ite_t c2 hf
      refine lv_iconst (v := 0) hx hb d_Q_made_19 (by decide) ?_
      refine lv_goto (tgt := 24) hx hb d_Q_made_20 (by decide) ?_
      obtain rfl := Option.some.inj hf
      exact W.iret (v := (0 : Int32)) hx hb hr (fun t ht hW => ⟨rfl, by rw [ht]; exact hP, hD, hS.F ht⟩) hS.2.2 d_Q_made_24
  rw [f_Q_made] at hf
  refine lv_aload_n hx hb d_Q_made_0 rfl (lv_at hl 0 rfl) ?_
  refine lv_iload_n hx hb d_Q_made_1 rfl (lv_at hl 1 rfl) ?_
  refine lv_iconst (v := -1) hx hb d_Q_made_2 (by decide) ?_
  refine lv_icmp_ne (tgt := 10) hx hb d_Q_made_3 (by decide) (fun c1 => ?_) (fun c1 => ?_)
  · have hf := ite_f c1 hf
    refine lv_iconst (v := 0) hx hb d_Q_made_10 (by decide) ?_
    exact hB11 _ _ _ _ _ hP hD hS _ (lv_sub hl [1] rfl) hf
  · have hf := ite_t c1 hf
    refine lv_iload_n hx hb d_Q_made_6 rfl (lv_at hl 2 rfl) ?_
    refine lv_goto (tgt := 11) hx hb d_Q_made_7 (by decide) ?_
    exact hB11 _ _ _ _ _ hP hD hS _ (lv_sub hl [1] rfl) hf
def f_Q_name_B172 (Q_thrown_172 : Int32) (Q_all_172 : Int32) (Q_kinds_172 : (Nat → Int32)) (Q_which_172 : (Nat → Int32)) (Q_firsts_172 : (Nat → Int32)) (Q_seconds_172 : (Nat → Int32)) (Q_thirds_172 : (Nat → Int32)) (Q_nexts_172 : (Nat → Int32)) (Q_heads_172 : (Nat → Int32)) (Q_names_172 : (Nat → Int32)) (Q_variables_172 : (Nat → Int32)) (Q_holes_172 : (Nat → Int32)) (Q_sizes_172 : (Nat → Int32)) (Q_places_172 : (Nat → Int32)) (x1_172 : Int32) (x5_172 : Int32) (s1_172 : Int32) (s2_172 : Int32) (s3_172 : Int32) (s4_172 : Int32) (s5_172 : Int32) : Option (Int32 × Int32 × Int32 × (Nat → Int32) × (Nat → Int32) × (Nat → Int32) × (Nat → Int32) × (Nat → Int32) × (Nat → Int32) × (Nat → Int32) × (Nat → Int32) × (Nat → Int32) × (Nat → Int32) × (Nat → Int32) × (Nat → Int32)) :=
  (f_Q_make Q_all_172 Q_kinds_172 Q_which_172 Q_firsts_172 Q_seconds_172 Q_thirds_172 Q_nexts_172 Q_heads_172 Q_names_172 Q_variables_172 Q_holes_172 Q_sizes_172 s1_172 s2_172 s3_172 s4_172 s5_172 (100 : Int32)).bind fun r25 =>
  if r25.1 = (-1 : Int32) then
    (f_Q_made Q_thrown_172 r25.1 (3 : Int32)).bind fun r27 =>
    some (r27.1, r27.2, r25.2.1, r25.2.2.1, r25.2.2.2.1, r25.2.2.2.2.1, r25.2.2.2.2.2.1, r25.2.2.2.2.2.2.1, r25.2.2.2.2.2.2.2.1, r25.2.2.2.2.2.2.2.2.1, r25.2.2.2.2.2.2.2.2.2.1, r25.2.2.2.2.2.2.2.2.2.2.1, r25.2.2.2.2.2.2.2.2.2.2.2.1, r25.2.2.2.2.2.2.2.2.2.2.2.2, Q_places_172)
  else
    gd (ixb x1_172 30) <| nm (upd Q_places_172 x1_172.toNatClampNeg x5_172) fun g29 =>
    (f_Q_made Q_thrown_172 r25.1 (3 : Int32)).bind fun r30 =>
    some (r30.1, r30.2, r25.2.1, r25.2.2.1, r25.2.2.2.1, r25.2.2.2.2.1, r25.2.2.2.2.2.1, r25.2.2.2.2.2.2.1, r25.2.2.2.2.2.2.2.1, r25.2.2.2.2.2.2.2.2.1, r25.2.2.2.2.2.2.2.2.2.1, r25.2.2.2.2.2.2.2.2.2.2.1, r25.2.2.2.2.2.2.2.2.2.2.2.1, r25.2.2.2.2.2.2.2.2.2.2.2.2, g29)
def f_Q_name_B160 (Q_thrown_160 : Int32) (Q_all_160 : Int32) (Q_kinds_160 : (Nat → Int32)) (Q_which_160 : (Nat → Int32)) (Q_firsts_160 : (Nat → Int32)) (Q_seconds_160 : (Nat → Int32)) (Q_thirds_160 : (Nat → Int32)) (Q_nexts_160 : (Nat → Int32)) (Q_heads_160 : (Nat → Int32)) (Q_names_160 : (Nat → Int32)) (Q_variables_160 : (Nat → Int32)) (Q_holes_160 : (Nat → Int32)) (Q_sizes_160 : (Nat → Int32)) (Q_places_160 : (Nat → Int32)) (x1_160 : Int32) (x4_160 : Int32) (x5_160 : Int32) (s1_160 : Int32) (s2_160 : Int32) (s3_160 : Int32) (s4_160 : Int32) : Option (Int32 × Int32 × Int32 × (Nat → Int32) × (Nat → Int32) × (Nat → Int32) × (Nat → Int32) × (Nat → Int32) × (Nat → Int32) × (Nat → Int32) × (Nat → Int32) × (Nat → Int32) × (Nat → Int32) × (Nat → Int32) × (Nat → Int32)) :=
  if (3 : Int32) ≤ x5_160 then
    f_Q_name_B172 Q_thrown_160 Q_all_160 Q_kinds_160 Q_which_160 Q_firsts_160 Q_seconds_160 Q_thirds_160 Q_nexts_160 Q_heads_160 Q_names_160 Q_variables_160 Q_holes_160 Q_sizes_160 Q_places_160 x1_160 x5_160 s1_160 s2_160 s3_160 s4_160 x4_160
  else
    f_Q_name_B172 Q_thrown_160 Q_all_160 Q_kinds_160 Q_which_160 Q_firsts_160 Q_seconds_160 Q_thirds_160 Q_nexts_160 Q_heads_160 Q_names_160 Q_variables_160 Q_holes_160 Q_sizes_160 Q_places_160 x1_160 x5_160 s1_160 s2_160 s3_160 s4_160 (-1 : Int32)
def f_Q_name_B149 (Q_thrown_149 : Int32) (Q_all_149 : Int32) (Q_kinds_149 : (Nat → Int32)) (Q_which_149 : (Nat → Int32)) (Q_firsts_149 : (Nat → Int32)) (Q_seconds_149 : (Nat → Int32)) (Q_thirds_149 : (Nat → Int32)) (Q_nexts_149 : (Nat → Int32)) (Q_heads_149 : (Nat → Int32)) (Q_names_149 : (Nat → Int32)) (Q_variables_149 : (Nat → Int32)) (Q_holes_149 : (Nat → Int32)) (Q_sizes_149 : (Nat → Int32)) (Q_places_149 : (Nat → Int32)) (x1_149 : Int32) (x3_149 : Int32) (x4_149 : Int32) (x5_149 : Int32) (s1_149 : Int32) (s2_149 : Int32) (s3_149 : Int32) : Option (Int32 × Int32 × Int32 × (Nat → Int32) × (Nat → Int32) × (Nat → Int32) × (Nat → Int32) × (Nat → Int32) × (Nat → Int32) × (Nat → Int32) × (Nat → Int32) × (Nat → Int32) × (Nat → Int32) × (Nat → Int32) × (Nat → Int32)) :=
  if (2 : Int32) ≤ x5_149 then
    f_Q_name_B160 Q_thrown_149 Q_all_149 Q_kinds_149 Q_which_149 Q_firsts_149 Q_seconds_149 Q_thirds_149 Q_nexts_149 Q_heads_149 Q_names_149 Q_variables_149 Q_holes_149 Q_sizes_149 Q_places_149 x1_149 x4_149 x5_149 s1_149 s2_149 s3_149 x3_149
  else
    f_Q_name_B160 Q_thrown_149 Q_all_149 Q_kinds_149 Q_which_149 Q_firsts_149 Q_seconds_149 Q_thirds_149 Q_nexts_149 Q_heads_149 Q_names_149 Q_variables_149 Q_holes_149 Q_sizes_149 Q_places_149 x1_149 x4_149 x5_149 s1_149 s2_149 s3_149 (-1 : Int32)
def f_Q_name_B127 (Q_thrown_127 : Int32) (Q_all_127 : Int32) (Q_kinds_127 : (Nat → Int32)) (Q_which_127 : (Nat → Int32)) (Q_firsts_127 : (Nat → Int32)) (Q_seconds_127 : (Nat → Int32)) (Q_thirds_127 : (Nat → Int32)) (Q_nexts_127 : (Nat → Int32)) (Q_heads_127 : (Nat → Int32)) (Q_names_127 : (Nat → Int32)) (Q_variables_127 : (Nat → Int32)) (Q_holes_127 : (Nat → Int32)) (Q_sizes_127 : (Nat → Int32)) (Q_places_127 : (Nat → Int32)) (x1_127 : Int32) (x2_127 : Int32) (x3_127 : Int32) (x4_127 : Int32) (x5_127 : Int32) (s1_127 : Int32) : Option (Int32 × Int32 × Int32 × (Nat → Int32) × (Nat → Int32) × (Nat → Int32) × (Nat → Int32) × (Nat → Int32) × (Nat → Int32) × (Nat → Int32) × (Nat → Int32) × (Nat → Int32) × (Nat → Int32) × (Nat → Int32) × (Nat → Int32)) :=
  (f_Q_refuses Q_thrown_127 s1_127).bind fun r20 =>
  if r20.1 = 0 then
    if (1 : Int32) ≤ x5_127 then
      f_Q_name_B149 r20.2 Q_all_127 Q_kinds_127 Q_which_127 Q_firsts_127 Q_seconds_127 Q_thirds_127 Q_nexts_127 Q_heads_127 Q_names_127 Q_variables_127 Q_holes_127 Q_sizes_127 Q_places_127 x1_127 x3_127 x4_127 x5_127 (0 : Int32) x1_127 x2_127
    else
      f_Q_name_B149 r20.2 Q_all_127 Q_kinds_127 Q_which_127 Q_firsts_127 Q_seconds_127 Q_thirds_127 Q_nexts_127 Q_heads_127 Q_names_127 Q_variables_127 Q_holes_127 Q_sizes_127 Q_places_127 x1_127 x3_127 x4_127 x5_127 (0 : Int32) x1_127 (-1 : Int32)
  else
    some ((0 : Int32), r20.2, Q_all_127, Q_kinds_127, Q_which_127, Q_firsts_127, Q_seconds_127, Q_thirds_127, Q_nexts_127, Q_heads_127, Q_names_127, Q_variables_127, Q_holes_127, Q_sizes_127, Q_places_127)
def f_Q_name_B89 (Q_thrown_89 : Int32) (Q_all_89 : Int32) (Q_kinds_89 : (Nat → Int32)) (Q_which_89 : (Nat → Int32)) (Q_firsts_89 : (Nat → Int32)) (Q_seconds_89 : (Nat → Int32)) (Q_thirds_89 : (Nat → Int32)) (Q_nexts_89 : (Nat → Int32)) (Q_heads_89 : (Nat → Int32)) (Q_names_89 : (Nat → Int32)) (Q_variables_89 : (Nat → Int32)) (Q_holes_89 : (Nat → Int32)) (Q_sizes_89 : (Nat → Int32)) (Q_places_89 : (Nat → Int32)) (x1_89 : Int32) (x2_89 : Int32) (x3_89 : Int32) (x4_89 : Int32) (x5_89 : Int32) (s0_89 : Int32) : Option (Int32 × Int32 × Int32 × (Nat → Int32) × (Nat → Int32) × (Nat → Int32) × (Nat → Int32) × (Nat → Int32) × (Nat → Int32) × (Nat → Int32) × (Nat → Int32) × (Nat → Int32) × (Nat → Int32) × (Nat → Int32) × (Nat → Int32)) :=
  if s0_89 = 0 then
    f_Q_name_B127 Q_thrown_89 Q_all_89 Q_kinds_89 Q_which_89 Q_firsts_89 Q_seconds_89 Q_thirds_89 Q_nexts_89 Q_heads_89 Q_names_89 Q_variables_89 Q_holes_89 Q_sizes_89 Q_places_89 x1_89 x2_89 x3_89 x4_89 x5_89 (1 : Int32)
  else
    gd (ixb x1_89 30) <|
    if (Q_places_89 x1_89.toNatClampNeg) = (-1 : Int32) then
      f_Q_name_B127 Q_thrown_89 Q_all_89 Q_kinds_89 Q_which_89 Q_firsts_89 Q_seconds_89 Q_thirds_89 Q_nexts_89 Q_heads_89 Q_names_89 Q_variables_89 Q_holes_89 Q_sizes_89 Q_places_89 x1_89 x2_89 x3_89 x4_89 x5_89 (0 : Int32)
    else
      gd (ixb x1_89 30) <|
      if (Q_places_89 x1_89.toNatClampNeg) = x5_89 then
        f_Q_name_B127 Q_thrown_89 Q_all_89 Q_kinds_89 Q_which_89 Q_firsts_89 Q_seconds_89 Q_thirds_89 Q_nexts_89 Q_heads_89 Q_names_89 Q_variables_89 Q_holes_89 Q_sizes_89 Q_places_89 x1_89 x2_89 x3_89 x4_89 x5_89 (0 : Int32)
      else
        f_Q_name_B127 Q_thrown_89 Q_all_89 Q_kinds_89 Q_which_89 Q_firsts_89 Q_seconds_89 Q_thirds_89 Q_nexts_89 Q_heads_89 Q_names_89 Q_variables_89 Q_holes_89 Q_sizes_89 Q_places_89 x1_89 x2_89 x3_89 x4_89 x5_89 (2 : Int32)
def f_Q_name_B69 (Q_thrown_69 : Int32) (Q_all_69 : Int32) (Q_kinds_69 : (Nat → Int32)) (Q_which_69 : (Nat → Int32)) (Q_firsts_69 : (Nat → Int32)) (Q_seconds_69 : (Nat → Int32)) (Q_thirds_69 : (Nat → Int32)) (Q_nexts_69 : (Nat → Int32)) (Q_heads_69 : (Nat → Int32)) (Q_names_69 : (Nat → Int32)) (Q_variables_69 : (Nat → Int32)) (Q_holes_69 : (Nat → Int32)) (Q_sizes_69 : (Nat → Int32)) (Q_places_69 : (Nat → Int32)) (x1_69 : Int32) (x2_69 : Int32) (x3_69 : Int32) (x4_69 : Int32) (x5_69 : Int32) : Option (Int32 × Int32 × Int32 × (Nat → Int32) × (Nat → Int32) × (Nat → Int32) × (Nat → Int32) × (Nat → Int32) × (Nat → Int32) × (Nat → Int32) × (Nat → Int32) × (Nat → Int32) × (Nat → Int32) × (Nat → Int32) × (Nat → Int32)) :=
  if x5_69 < (3 : Int32) then
    f_Q_name_B89 Q_thrown_69 Q_all_69 Q_kinds_69 Q_which_69 Q_firsts_69 Q_seconds_69 Q_thirds_69 Q_nexts_69 Q_heads_69 Q_names_69 Q_variables_69 Q_holes_69 Q_sizes_69 Q_places_69 x1_69 x2_69 x3_69 x4_69 x5_69 (1 : Int32)
  else
    (f_Q_isTerm Q_all_69 x4_69).bind fun r13 =>
    if r13 = 0 then
      f_Q_name_B89 Q_thrown_69 Q_all_69 Q_kinds_69 Q_which_69 Q_firsts_69 Q_seconds_69 Q_thirds_69 Q_nexts_69 Q_heads_69 Q_names_69 Q_variables_69 Q_holes_69 Q_sizes_69 Q_places_69 x1_69 x2_69 x3_69 x4_69 x5_69 (0 : Int32)
    else
      f_Q_name_B89 Q_thrown_69 Q_all_69 Q_kinds_69 Q_which_69 Q_firsts_69 Q_seconds_69 Q_thirds_69 Q_nexts_69 Q_heads_69 Q_names_69 Q_variables_69 Q_holes_69 Q_sizes_69 Q_places_69 x1_69 x2_69 x3_69 x4_69 x5_69 (1 : Int32)
def f_Q_name_B55 (Q_thrown_55 : Int32) (Q_all_55 : Int32) (Q_kinds_55 : (Nat → Int32)) (Q_which_55 : (Nat → Int32)) (Q_firsts_55 : (Nat → Int32)) (Q_seconds_55 : (Nat → Int32)) (Q_thirds_55 : (Nat → Int32)) (Q_nexts_55 : (Nat → Int32)) (Q_heads_55 : (Nat → Int32)) (Q_names_55 : (Nat → Int32)) (Q_variables_55 : (Nat → Int32)) (Q_holes_55 : (Nat → Int32)) (Q_sizes_55 : (Nat → Int32)) (Q_places_55 : (Nat → Int32)) (x1_55 : Int32) (x2_55 : Int32) (x3_55 : Int32) (x4_55 : Int32) (x5_55 : Int32) : Option (Int32 × Int32 × Int32 × (Nat → Int32) × (Nat → Int32) × (Nat → Int32) × (Nat → Int32) × (Nat → Int32) × (Nat → Int32) × (Nat → Int32) × (Nat → Int32) × (Nat → Int32) × (Nat → Int32) × (Nat → Int32) × (Nat → Int32)) :=
  if x5_55 < (2 : Int32) then
    f_Q_name_B69 Q_thrown_55 Q_all_55 Q_kinds_55 Q_which_55 Q_firsts_55 Q_seconds_55 Q_thirds_55 Q_nexts_55 Q_heads_55 Q_names_55 Q_variables_55 Q_holes_55 Q_sizes_55 Q_places_55 x1_55 x2_55 x3_55 x4_55 x5_55
  else
    (f_Q_isTerm Q_all_55 x3_55).bind fun r10 =>
    if r10 = 0 then
      f_Q_name_B89 Q_thrown_55 Q_all_55 Q_kinds_55 Q_which_55 Q_firsts_55 Q_seconds_55 Q_thirds_55 Q_nexts_55 Q_heads_55 Q_names_55 Q_variables_55 Q_holes_55 Q_sizes_55 Q_places_55 x1_55 x2_55 x3_55 x4_55 x5_55 (0 : Int32)
    else
      f_Q_name_B69 Q_thrown_55 Q_all_55 Q_kinds_55 Q_which_55 Q_firsts_55 Q_seconds_55 Q_thirds_55 Q_nexts_55 Q_heads_55 Q_names_55 Q_variables_55 Q_holes_55 Q_sizes_55 Q_places_55 x1_55 x2_55 x3_55 x4_55 x5_55
def f_Q_name_B29 (Q_thrown_29 : Int32) (Q_all_29 : Int32) (Q_kinds_29 : (Nat → Int32)) (Q_which_29 : (Nat → Int32)) (Q_firsts_29 : (Nat → Int32)) (Q_seconds_29 : (Nat → Int32)) (Q_thirds_29 : (Nat → Int32)) (Q_nexts_29 : (Nat → Int32)) (Q_heads_29 : (Nat → Int32)) (Q_names_29 : (Nat → Int32)) (Q_variables_29 : (Nat → Int32)) (Q_holes_29 : (Nat → Int32)) (Q_sizes_29 : (Nat → Int32)) (Q_places_29 : (Nat → Int32)) (x1_29 : Int32) (x2_29 : Int32) (x3_29 : Int32) (x4_29 : Int32) (s0_29 : Int32) : Option (Int32 × Int32 × Int32 × (Nat → Int32) × (Nat → Int32) × (Nat → Int32) × (Nat → Int32) × (Nat → Int32) × (Nat → Int32) × (Nat → Int32) × (Nat → Int32) × (Nat → Int32) × (Nat → Int32) × (Nat → Int32) × (Nat → Int32)) :=
  if x1_29 < 0 then
    f_Q_name_B89 Q_thrown_29 Q_all_29 Q_kinds_29 Q_which_29 Q_firsts_29 Q_seconds_29 Q_thirds_29 Q_nexts_29 Q_heads_29 Q_names_29 Q_variables_29 Q_holes_29 Q_sizes_29 Q_places_29 x1_29 x2_29 x3_29 x4_29 s0_29 (0 : Int32)
  else
    if (30 : Int32) ≤ x1_29 then
      f_Q_name_B89 Q_thrown_29 Q_all_29 Q_kinds_29 Q_which_29 Q_firsts_29 Q_seconds_29 Q_thirds_29 Q_nexts_29 Q_heads_29 Q_names_29 Q_variables_29 Q_holes_29 Q_sizes_29 Q_places_29 x1_29 x2_29 x3_29 x4_29 s0_29 (0 : Int32)
    else
      if s0_29 < (1 : Int32) then
        f_Q_name_B55 Q_thrown_29 Q_all_29 Q_kinds_29 Q_which_29 Q_firsts_29 Q_seconds_29 Q_thirds_29 Q_nexts_29 Q_heads_29 Q_names_29 Q_variables_29 Q_holes_29 Q_sizes_29 Q_places_29 x1_29 x2_29 x3_29 x4_29 s0_29
      else
        (f_Q_isTerm Q_all_29 x2_29).bind fun r7 =>
        if r7 = 0 then
          f_Q_name_B89 Q_thrown_29 Q_all_29 Q_kinds_29 Q_which_29 Q_firsts_29 Q_seconds_29 Q_thirds_29 Q_nexts_29 Q_heads_29 Q_names_29 Q_variables_29 Q_holes_29 Q_sizes_29 Q_places_29 x1_29 x2_29 x3_29 x4_29 s0_29 (0 : Int32)
        else
          f_Q_name_B55 Q_thrown_29 Q_all_29 Q_kinds_29 Q_which_29 Q_firsts_29 Q_seconds_29 Q_thirds_29 Q_nexts_29 Q_heads_29 Q_names_29 Q_variables_29 Q_holes_29 Q_sizes_29 Q_places_29 x1_29 x2_29 x3_29 x4_29 s0_29
def f_Q_name (Q_thrown : Int32) (Q_all : Int32) (Q_kinds : (Nat → Int32)) (Q_which : (Nat → Int32)) (Q_firsts : (Nat → Int32)) (Q_seconds : (Nat → Int32)) (Q_thirds : (Nat → Int32)) (Q_nexts : (Nat → Int32)) (Q_heads : (Nat → Int32)) (Q_names : (Nat → Int32)) (Q_variables : (Nat → Int32)) (Q_holes : (Nat → Int32)) (Q_sizes : (Nat → Int32)) (Q_places : (Nat → Int32)) (p0 : Int32) (p1 : Int32) (p2 : Int32) (p3 : Int32) : Option (Int32 × Int32 × Int32 × (Nat → Int32) × (Nat → Int32) × (Nat → Int32) × (Nat → Int32) × (Nat → Int32) × (Nat → Int32) × (Nat → Int32) × (Nat → Int32) × (Nat → Int32) × (Nat → Int32) × (Nat → Int32) × (Nat → Int32)) :=
  if p1 = (-1 : Int32) then
    f_Q_name_B29 Q_thrown Q_all Q_kinds Q_which Q_firsts Q_seconds Q_thirds Q_nexts Q_heads Q_names Q_variables Q_holes Q_sizes Q_places p0 p1 p2 p3 (0 : Int32)
  else
    if p2 = (-1 : Int32) then
      f_Q_name_B29 Q_thrown Q_all Q_kinds Q_which Q_firsts Q_seconds Q_thirds Q_nexts Q_heads Q_names Q_variables Q_holes Q_sizes Q_places p0 p1 p2 p3 (1 : Int32)
    else
      if p3 = (-1 : Int32) then
        f_Q_name_B29 Q_thrown Q_all Q_kinds Q_which Q_firsts Q_seconds Q_thirds Q_nexts Q_heads Q_names Q_variables Q_holes Q_sizes Q_places p0 p1 p2 p3 (2 : Int32)
      else
        f_Q_name_B29 Q_thrown Q_all Q_kinds Q_which Q_firsts Q_seconds Q_thirds Q_nexts Q_heads Q_names Q_variables Q_holes Q_sizes Q_places p0 p1 p2 p3 (3 : Int32)
abbrev rm_Q_name : Room := { frames := 3, cells := 0, slots := 0, locals := 73 }
set_option maxHeartbeats 4000000 in
set_option maxRecDepth 100000 in
theorem c_Q_name (l : Launch) (D : va_G) (cI cJ cZ : ClassId) (aQ aQ_kinds aQ_which aQ_firsts aQ_seconds aQ_thirds aQ_nexts aQ_heads aQ_names aQ_variables aQ_holes aQ_sizes aQ_places aQ_conclusions aQ_premises aQ_counts aQ_hitOf aQ_hitOne aQ_hitTwo aQ_hitTerms aQ_image aQ_bound aQ_waits aQ_waitsFor aQ_seen aQ_goals aQ_steps aQ_looked aQ_under aQ_taken aQ_news aQ_order aQ_there aQ_back : Nat) (sz : Nat) (Q_thrown : Int32) (Q_all : Int32) (Q_statements : Int32) (Q_hitKind : Int32) (Q_hits : Int32) (Q_tries : Int32) (Q_takenAll : Int32) (Q_takenFirst : Int32) (Q_kinds : (Nat → Int32)) (Q_which : (Nat → Int32)) (Q_firsts : (Nat → Int32)) (Q_seconds : (Nat → Int32)) (Q_thirds : (Nat → Int32)) (Q_nexts : (Nat → Int32)) (Q_heads : (Nat → Int32)) (Q_names : (Nat → Int32)) (Q_variables : (Nat → Int32)) (Q_holes : (Nat → Int32)) (Q_sizes : (Nat → Int32)) (Q_places : (Nat → Int32)) (p0 : Int32) (p1 : Int32) (p2 : Int32) (p3 : Int32) (o : Int32 × Int32 × Int32 × (Nat → Int32) × (Nat → Int32) × (Nat → Int32) × (Nat → Int32) × (Nat → Int32) × (Nat → Int32) × (Nat → Int32) × (Nat → Int32) × (Nat → Int32) × (Nat → Int32) × (Nat → Int32) × (Nat → Int32)) (hf : f_Q_name Q_thrown Q_all Q_kinds Q_which Q_firsts Q_seconds Q_thirds Q_nexts Q_heads Q_names Q_variables Q_holes Q_sizes Q_places p0 p1 p2 p3 = some o) : Met l y_Q_name (ws_Q_name) rm_Q_name (WPc D vwCl cI cJ cZ [.ref aQ, .int p0, .int p1, .int p2, .int p3] (wv_44 cI cJ cZ aQ aQ_kinds aQ_which aQ_firsts aQ_seconds aQ_thirds aQ_nexts aQ_heads aQ_names aQ_variables aQ_holes aQ_sizes aQ_places aQ_conclusions aQ_premises aQ_counts aQ_hitOf aQ_hitOne aQ_hitTwo aQ_hitTerms aQ_image aQ_bound aQ_waits aQ_waitsFor aQ_seen aQ_goals aQ_steps aQ_looked aQ_under aQ_taken aQ_news aQ_order aQ_there aQ_back Q_thrown Q_all Q_statements Q_hitKind Q_hits Q_tries Q_takenAll Q_takenFirst Q_kinds Q_which Q_firsts Q_seconds Q_thirds Q_nexts Q_heads Q_names Q_variables Q_holes Q_sizes Q_places) sz) (WQ D vwCl (some (.int o.1)) (wv_44 cI cJ cZ aQ aQ_kinds aQ_which aQ_firsts aQ_seconds aQ_thirds aQ_nexts aQ_heads aQ_names aQ_variables aQ_holes aQ_sizes aQ_places aQ_conclusions aQ_premises aQ_counts aQ_hitOf aQ_hitOne aQ_hitTwo aQ_hitTerms aQ_image aQ_bound aQ_waits aQ_waitsFor aQ_seen aQ_goals aQ_steps aQ_looked aQ_under aQ_taken aQ_news aQ_order aQ_there aQ_back o.2.1 o.2.2.1 Q_statements Q_hitKind Q_hits Q_tries Q_takenAll Q_takenFirst o.2.2.2.1 o.2.2.2.2.1 o.2.2.2.2.2.1 o.2.2.2.2.2.2.1 o.2.2.2.2.2.2.2.1 o.2.2.2.2.2.2.2.2.1 o.2.2.2.2.2.2.2.2.2.1 o.2.2.2.2.2.2.2.2.2.2.1 o.2.2.2.2.2.2.2.2.2.2.2.1 o.2.2.2.2.2.2.2.2.2.2.2.2.1 o.2.2.2.2.2.2.2.2.2.2.2.2.2.1 o.2.2.2.2.2.2.2.2.2.2.2.2.2.2) (va_A (wv_44 cI cJ cZ aQ aQ_kinds aQ_which aQ_firsts aQ_seconds aQ_thirds aQ_nexts aQ_heads aQ_names aQ_variables aQ_holes aQ_sizes aQ_places aQ_conclusions aQ_premises aQ_counts aQ_hitOf aQ_hitOne aQ_hitTwo aQ_hitTerms aQ_image aQ_bound aQ_waits aQ_waitsFor aQ_seen aQ_goals aQ_steps aQ_looked aQ_under aQ_taken aQ_news aQ_order aQ_there aQ_back Q_thrown Q_all Q_statements Q_hitKind Q_hits Q_tries Q_takenAll Q_takenFirst Q_kinds Q_which Q_firsts Q_seconds Q_thirds Q_nexts Q_heads Q_names Q_variables Q_holes Q_sizes Q_places) sz)) 0 0 (va_A (wv_44 cI cJ cZ aQ aQ_kinds aQ_which aQ_firsts aQ_seconds aQ_thirds aQ_nexts aQ_heads aQ_names aQ_variables aQ_holes aQ_sizes aQ_places aQ_conclusions aQ_premises aQ_counts aQ_hitOf aQ_hitOne aQ_hitTwo aQ_hitTerms aQ_image aQ_bound aQ_waits aQ_waitsFor aQ_seen aQ_goals aQ_steps aQ_looked aQ_under aQ_taken aQ_news aQ_order aQ_there aQ_back Q_thrown Q_all Q_statements Q_hitKind Q_hits Q_tries Q_takenAll Q_takenFirst Q_kinds Q_which Q_firsts Q_seconds Q_thirds Q_nexts Q_heads Q_names Q_variables Q_holes Q_sizes Q_places) sz) := by
  refine Met.ofW (cc := b_Q_name) (maxL := 8) (ret := (some .int)) (by decide) rfl ?_
  intro p e s m args below meth c s₁ B hml hv
  obtain ⟨rfl, rfl, hP, hK, hD0⟩ := hv
  have hx := B.exec
  have hb := B.bytes
  have hr := B.returns
  have hts : ∀ w ∈ BG, w.before _ s = true := fun w h => atoms_spec (ws := (ws_Q_name)) B.pre w (List.mem_cons_of_mem _ h)
  have hown : s.vm.findClass RR_Q = some m.cls := findClass_of_methodNamed B.named
  have hlocks := B.notSynchronized
  have hD := hD0.self (sz := s.heap.size)
  have hA : ∀ q : Nat, s.heap.size ≤ q → va_A (wv_44 cI cJ cZ aQ aQ_kinds aQ_which aQ_firsts aQ_seconds aQ_thirds aQ_nexts aQ_heads aQ_names aQ_variables aQ_holes aQ_sizes aQ_places aQ_conclusions aQ_premises aQ_counts aQ_hitOf aQ_hitOne aQ_hitTwo aQ_hitTerms aQ_image aQ_bound aQ_waits aQ_waitsFor aQ_seen aQ_goals aQ_steps aQ_looked aQ_under aQ_taken aQ_news aQ_order aQ_there aQ_back Q_thrown Q_all Q_statements Q_hitKind Q_hits Q_tries Q_takenAll Q_takenFirst Q_kinds Q_which Q_firsts Q_seconds Q_thirds Q_nexts Q_heads Q_names Q_variables Q_holes Q_sizes Q_places) s.heap.size q := fun q h => Or.inr h
  have hS : va_S (va_A (wv_44 cI cJ cZ aQ aQ_kinds aQ_which aQ_firsts aQ_seconds aQ_thirds aQ_nexts aQ_heads aQ_names aQ_variables aQ_holes aQ_sizes aQ_places aQ_conclusions aQ_premises aQ_counts aQ_hitOf aQ_hitOne aQ_hitTwo aQ_hitTerms aQ_image aQ_bound aQ_waits aQ_waitsFor aQ_seen aQ_goals aQ_steps aQ_looked aQ_under aQ_taken aQ_news aQ_order aQ_there aQ_back Q_thrown Q_all Q_statements Q_hitKind Q_hits Q_tries Q_takenAll Q_takenFirst Q_kinds Q_which Q_firsts Q_seconds Q_thirds Q_nexts Q_heads Q_names Q_variables Q_holes Q_sizes Q_places) s.heap.size) s.heap s.heap [] := va_S.rf
  generalize va_A (wv_44 cI cJ cZ aQ aQ_kinds aQ_which aQ_firsts aQ_seconds aQ_thirds aQ_nexts aQ_heads aQ_names aQ_variables aQ_holes aQ_sizes aQ_places aQ_conclusions aQ_premises aQ_counts aQ_hitOf aQ_hitOne aQ_hitTwo aQ_hitTerms aQ_image aQ_bound aQ_waits aQ_waitsFor aQ_seen aQ_goals aQ_steps aQ_looked aQ_under aQ_taken aQ_news aQ_order aQ_there aQ_back Q_thrown Q_all Q_statements Q_hitKind Q_hits Q_tries Q_takenAll Q_takenFirst Q_kinds Q_which Q_firsts Q_seconds Q_thirds Q_nexts Q_heads Q_names Q_variables Q_holes Q_sizes Q_places) s.heap.size = A at hD hA hS ⊢
  have hl := lv_entry ([.ref aQ, .int p0, .int p1, .int p2, .int p3]) (n := 8) (Nat.le_of_ble_eq_true rfl)
  rw [lg_entry_eq]
  generalize (lg_sl ([.ref aQ, .int p0, .int p1, .int p2, .int p3]) ++ List.replicate (8 - (lg_sl ([.ref aQ, .int p0, .int p1, .int p2, .int p3])).length) Slot.unset).toArray = ls at hl ⊢
  have hl : lv_has ls 8 [(0, .ref aQ), (1, .int p0), (2, .int p1), (3, .int p2), (4, .int p3)] := hl
  have hB172 : ∀ (Q_thrown_172 : Int32) (Q_all_172 : Int32) (Q_kinds_172 : (Nat → Int32)) (Q_which_172 : (Nat → Int32)) (Q_firsts_172 : (Nat → Int32)) (Q_seconds_172 : (Nat → Int32)) (Q_thirds_172 : (Nat → Int32)) (Q_nexts_172 : (Nat → Int32)) (Q_heads_172 : (Nat → Int32)) (Q_names_172 : (Nat → Int32)) (Q_variables_172 : (Nat → Int32)) (Q_holes_172 : (Nat → Int32)) (Q_sizes_172 : (Nat → Int32)) (Q_places_172 : (Nat → Int32)) (x1_172 : Int32) (x5_172 : Int32) (s1_172 : Int32) (s2_172 : Int32) (s3_172 : Int32) (s4_172 : Int32) (s5_172 : Int32), ∀ (H : Heap) (locs : List Loc), va_P D vwCl (wv_44 cI cJ cZ aQ aQ_kinds aQ_which aQ_firsts aQ_seconds aQ_thirds aQ_nexts aQ_heads aQ_names aQ_variables aQ_holes aQ_sizes aQ_places aQ_conclusions aQ_premises aQ_counts aQ_hitOf aQ_hitOne aQ_hitTwo aQ_hitTerms aQ_image aQ_bound aQ_waits aQ_waitsFor aQ_seen aQ_goals aQ_steps aQ_looked aQ_under aQ_taken aQ_news aQ_order aQ_there aQ_back Q_thrown_172 Q_all_172 Q_statements Q_hitKind Q_hits Q_tries Q_takenAll Q_takenFirst Q_kinds_172 Q_which_172 Q_firsts_172 Q_seconds_172 Q_thirds_172 Q_nexts_172 Q_heads_172 Q_names_172 Q_variables_172 Q_holes_172 Q_sizes_172 Q_places_172) H → va_D A (wv_44 cI cJ cZ aQ aQ_kinds aQ_which aQ_firsts aQ_seconds aQ_thirds aQ_nexts aQ_heads aQ_names aQ_variables aQ_holes aQ_sizes aQ_places aQ_conclusions aQ_premises aQ_counts aQ_hitOf aQ_hitOne aQ_hitTwo aQ_hitTerms aQ_image aQ_bound aQ_waits aQ_waitsFor aQ_seen aQ_goals aQ_steps aQ_looked aQ_under aQ_taken aQ_news aQ_order aQ_there aQ_back Q_thrown_172 Q_all_172 Q_statements Q_hitKind Q_hits Q_tries Q_takenAll Q_takenFirst Q_kinds_172 Q_which_172 Q_firsts_172 Q_seconds_172 Q_thirds_172 Q_nexts_172 Q_heads_172 Q_names_172 Q_variables_172 Q_holes_172 Q_sizes_172 Q_places_172) → va_S A s.heap H locs → ∀ (ls : Array Slot), lv_has ls 8 [(0, .ref aQ), (1, .int x1_172), (5, .int x5_172)] → f_Q_name_B172 Q_thrown_172 Q_all_172 Q_kinds_172 Q_which_172 Q_firsts_172 Q_seconds_172 Q_thirds_172 Q_nexts_172 Q_heads_172 Q_names_172 Q_variables_172 Q_holes_172 Q_sizes_172 Q_places_172 x1_172 x5_172 s1_172 s2_172 s3_172 s4_172 s5_172 = some o → W p l e (headSpec (ws_Q_name) rm_Q_name).room s m ([.ref aQ, .int p0, .int p1, .int p2, .int p3] : List Value).toArray below meth c H locs 0 0 (MQ below (WQ D vwCl (some (.int o.1)) (wv_44 cI cJ cZ aQ aQ_kinds aQ_which aQ_firsts aQ_seconds aQ_thirds aQ_nexts aQ_heads aQ_names aQ_variables aQ_holes aQ_sizes aQ_places aQ_conclusions aQ_premises aQ_counts aQ_hitOf aQ_hitOne aQ_hitTwo aQ_hitTerms aQ_image aQ_bound aQ_waits aQ_waitsFor aQ_seen aQ_goals aQ_steps aQ_looked aQ_under aQ_taken aQ_news aQ_order aQ_there aQ_back o.2.1 o.2.2.1 Q_statements Q_hitKind Q_hits Q_tries Q_takenAll Q_takenFirst o.2.2.2.1 o.2.2.2.2.1 o.2.2.2.2.2.1 o.2.2.2.2.2.2.1 o.2.2.2.2.2.2.2.1 o.2.2.2.2.2.2.2.2.1 o.2.2.2.2.2.2.2.2.2.1 o.2.2.2.2.2.2.2.2.2.2.1 o.2.2.2.2.2.2.2.2.2.2.2.1 o.2.2.2.2.2.2.2.2.2.2.2.2.1 o.2.2.2.2.2.2.2.2.2.2.2.2.2.1 o.2.2.2.2.2.2.2.2.2.2.2.2.2.2) A) ([.ref aQ, .int p0, .int p1, .int p2, .int p3] : List Value).toArray s 0 0 A) (F0 m 172 ls [.int s5_172, .int s4_172, .int s3_172, .int s2_172, .int s1_172, .ref aQ]) := by
    intro Q_thrown_172 Q_all_172 Q_kinds_172 Q_which_172 Q_firsts_172 Q_seconds_172 Q_thirds_172 Q_nexts_172 Q_heads_172 Q_names_172 Q_variables_172 Q_holes_172 Q_sizes_172 Q_places_172 x1_172 x5_172 s1_172 s2_172 s3_172 s4_172 s5_172 H locs hP hD hS ls hl hf
    rw [f_Q_name_B172] at hf
    refine lv_bipush (v := 100) hx hb d_Q_name_172 (by decide) ?_
    obtain ⟨r25, hr25, hf⟩ := of_bd hf
    refine wr_call (ws' := (wv_44 cI cJ cZ aQ aQ_kinds aQ_which aQ_firsts aQ_seconds aQ_thirds aQ_nexts aQ_heads aQ_names aQ_variables aQ_holes aQ_sizes aQ_places aQ_conclusions aQ_premises aQ_counts aQ_hitOf aQ_hitOne aQ_hitTwo aQ_hitTerms aQ_image aQ_bound aQ_waits aQ_waitsFor aQ_seen aQ_goals aQ_steps aQ_looked aQ_under aQ_taken aQ_news aQ_order aQ_there aQ_back Q_thrown_172 r25.2.1 Q_statements Q_hitKind Q_hits Q_tries Q_takenAll Q_takenFirst r25.2.2.1 r25.2.2.2.1 r25.2.2.2.2.1 r25.2.2.2.2.2.1 r25.2.2.2.2.2.2.1 r25.2.2.2.2.2.2.2.1 r25.2.2.2.2.2.2.2.2.1 r25.2.2.2.2.2.2.2.2.2.1 r25.2.2.2.2.2.2.2.2.2.2.1 r25.2.2.2.2.2.2.2.2.2.2.2.1 r25.2.2.2.2.2.2.2.2.2.2.2.2 Q_places_172)) (va_runV (As := [.int s1_172, .int s2_172, .int s3_172, .int s4_172, .int s5_172, .int (100 : Int32)]) (rest := []) ⟨hx, hb, hml, hown, hts⟩ (c_Q_make l D cI cJ cZ aQ aQ_kinds aQ_which aQ_firsts aQ_seconds aQ_thirds aQ_nexts aQ_heads aQ_names aQ_variables aQ_holes aQ_sizes aQ_places aQ_conclusions aQ_premises aQ_counts aQ_hitOf aQ_hitOne aQ_hitTwo aQ_hitTerms aQ_image aQ_bound aQ_waits aQ_waitsFor aQ_seen aQ_goals aQ_steps aQ_looked aQ_under aQ_taken aQ_news aQ_order aQ_there aQ_back _ Q_thrown_172 Q_all_172 Q_statements Q_hitKind Q_hits Q_tries Q_takenAll Q_takenFirst Q_kinds_172 Q_which_172 Q_firsts_172 Q_seconds_172 Q_thirds_172 Q_nexts_172 Q_heads_172 Q_names_172 Q_variables_172 Q_holes_172 Q_sizes_172 s1_172 s2_172 s3_172 s4_172 s5_172 (100 : Int32) r25 hr25) (bigV 6 hts k4_207 k4_209 ks_Q_make k1_9 k4_210 rfl rfl hd_Q_make ⟨Nat.le_of_ble_eq_true rfl, Nat.le_of_ble_eq_true rfl⟩) (wr_preV hK hP hD [0, 1, 2, 3, 4, 5, 6, 7, 8, 9, 10, 11] rfl (by decide) rfl 0 rfl rfl rfl) rfl rfl hl.1 rfl (lv_room (Nat.le_of_ble_eq_true rfl)) d_Q_name_174 ⟨Nat.le_of_ble_eq_true rfl, Nat.le_of_ble_eq_true rfl⟩) hP hD hS hA [0, 1, 2, 3, 4, 5, 6, 7, 8, 9, 10, 11] [12] rfl rfl (by decide) (by decide) [1, 2, 3, 4, 5, 6, 7, 8, 9, 10, 11, 12, 0] (by decide) rfl (fun H locs hP hD hS => ?_)
    refine lv_istore (lv' := [(7, .int r25.1), (0, .ref aQ), (1, .int x1_172), (5, .int x5_172)]) hx hb d_Q_name_177 hl (by decide) rfl (fun ls hl => ?_)
    refine lv_iload hx hb d_Q_name_179 (lv_at hl 0 rfl) ?_
    refine lv_iconst (v := -1) hx hb d_Q_name_181 (by decide) ?_
    refine lv_icmp_eq (tgt := 193) hx hb d_Q_name_182 (by decide) (fun c26 => ?_) (fun c26 => ?_)
    · have hf := ite_t c26 hf
      refine lv_aload_n hx hb d_Q_name_193 rfl (lv_at hl 1 rfl) ?_
      refine lv_iload hx hb d_Q_name_194 (lv_at hl 0 rfl) ?_
      refine lv_iconst (v := 3) hx hb d_Q_name_196 (by decide) ?_
      obtain ⟨r27, hr27, hf⟩ := of_bd hf
      refine wr_call (ws' := (wv_44 cI cJ cZ aQ aQ_kinds aQ_which aQ_firsts aQ_seconds aQ_thirds aQ_nexts aQ_heads aQ_names aQ_variables aQ_holes aQ_sizes aQ_places aQ_conclusions aQ_premises aQ_counts aQ_hitOf aQ_hitOne aQ_hitTwo aQ_hitTerms aQ_image aQ_bound aQ_waits aQ_waitsFor aQ_seen aQ_goals aQ_steps aQ_looked aQ_under aQ_taken aQ_news aQ_order aQ_there aQ_back r27.2 r25.2.1 Q_statements Q_hitKind Q_hits Q_tries Q_takenAll Q_takenFirst r25.2.2.1 r25.2.2.2.1 r25.2.2.2.2.1 r25.2.2.2.2.2.1 r25.2.2.2.2.2.2.1 r25.2.2.2.2.2.2.2.1 r25.2.2.2.2.2.2.2.2.1 r25.2.2.2.2.2.2.2.2.2.1 r25.2.2.2.2.2.2.2.2.2.2.1 r25.2.2.2.2.2.2.2.2.2.2.2.1 r25.2.2.2.2.2.2.2.2.2.2.2.2 Q_places_172)) (va_runV (As := [.int r25.1, .int (3 : Int32)]) (rest := []) ⟨hx, hb, hml, hown, hts⟩ (c_Q_made l D cI cJ cZ aQ aQ_kinds aQ_which aQ_firsts aQ_seconds aQ_thirds aQ_nexts aQ_heads aQ_names aQ_variables aQ_holes aQ_sizes aQ_places aQ_conclusions aQ_premises aQ_counts aQ_hitOf aQ_hitOne aQ_hitTwo aQ_hitTerms aQ_image aQ_bound aQ_waits aQ_waitsFor aQ_seen aQ_goals aQ_steps aQ_looked aQ_under aQ_taken aQ_news aQ_order aQ_there aQ_back _ Q_thrown_172 r25.2.1 Q_statements Q_hitKind Q_hits Q_tries Q_takenAll Q_takenFirst r25.1 (3 : Int32) r27 hr27) (bigV 2 hts k4_223 k4_225 ks_Q_made k1_9 k4_226 rfl rfl hd_Q_made ⟨Nat.le_of_ble_eq_true rfl, Nat.le_of_ble_eq_true rfl⟩) (wr_preV hK hP hD [0] rfl (by decide) rfl 0 rfl rfl rfl) rfl rfl hl.1 rfl (lv_room (Nat.le_of_ble_eq_true rfl)) d_Q_name_197 ⟨Nat.le_of_ble_eq_true rfl, Nat.le_of_ble_eq_true rfl⟩) hP hD hS hA [0] [1, 2, 3, 4, 5, 6, 7, 8, 9, 10, 11, 12] rfl rfl (by decide) (by decide) [12, 0, 1, 2, 3, 4, 5, 6, 7, 8, 9, 10, 11] (by decide) rfl (fun H locs hP hD hS => ?_)
      obtain rfl := Option.some.inj hf
      exact W.iret (v := r27.1) hx hb hr (fun t ht hW => ⟨rfl, by rw [ht]; exact hP, hD, hS.F ht⟩) hS.2.2 d_Q_name_200
    · have hf := ite_f c26 hf
      refine lv_aload_n hx hb d_Q_name_185 rfl (lv_at hl 1 rfl) ?_
      refine va_get (D := D) (ci := 7) (v := .ref aQ_places) (C := RR_Q) (T := FF_Q) (N := 41) hx hb hts kin_Q hown hK.1 hP 0 rfl rfl 13 (by decide) (hts _ k4_80) (fun _ h9 => h9) rfl d_Q_name_186 ?_
      refine lv_iload_n hx hb d_Q_name_189 rfl (lv_at hl 2 rfl) ?_
      refine lv_iload hx hb d_Q_name_190 (lv_at hl 3 rfl) ?_
      obtain ⟨h28, hf⟩ := of_gd hf
      obtain ⟨g29, eg29⟩ : ∃ y : Nat → Int32, y = upd Q_places_172 x1_172.toNatClampNeg x5_172 := ⟨_, rfl⟩
      have hf := of_nm eg29 hf
      refine va_iast hx hb hK.1 hP hD hS 12 0 rfl rfl (ixb_in h28) d_Q_name_192 (fun H locs hP hD hS => ?_)
      rw [← eg29] at hP hD
      have hP : va_P D vwCl (wv_44 cI cJ cZ aQ aQ_kinds aQ_which aQ_firsts aQ_seconds aQ_thirds aQ_nexts aQ_heads aQ_names aQ_variables aQ_holes aQ_sizes aQ_places aQ_conclusions aQ_premises aQ_counts aQ_hitOf aQ_hitOne aQ_hitTwo aQ_hitTerms aQ_image aQ_bound aQ_waits aQ_waitsFor aQ_seen aQ_goals aQ_steps aQ_looked aQ_under aQ_taken aQ_news aQ_order aQ_there aQ_back Q_thrown_172 r25.2.1 Q_statements Q_hitKind Q_hits Q_tries Q_takenAll Q_takenFirst r25.2.2.1 r25.2.2.2.1 r25.2.2.2.2.1 r25.2.2.2.2.2.1 r25.2.2.2.2.2.2.1 r25.2.2.2.2.2.2.2.1 r25.2.2.2.2.2.2.2.2.1 r25.2.2.2.2.2.2.2.2.2.1 r25.2.2.2.2.2.2.2.2.2.2.1 r25.2.2.2.2.2.2.2.2.2.2.2.1 r25.2.2.2.2.2.2.2.2.2.2.2.2 g29) H := hP
      have hD : va_D A (wv_44 cI cJ cZ aQ aQ_kinds aQ_which aQ_firsts aQ_seconds aQ_thirds aQ_nexts aQ_heads aQ_names aQ_variables aQ_holes aQ_sizes aQ_places aQ_conclusions aQ_premises aQ_counts aQ_hitOf aQ_hitOne aQ_hitTwo aQ_hitTerms aQ_image aQ_bound aQ_waits aQ_waitsFor aQ_seen aQ_goals aQ_steps aQ_looked aQ_under aQ_taken aQ_news aQ_order aQ_there aQ_back Q_thrown_172 r25.2.1 Q_statements Q_hitKind Q_hits Q_tries Q_takenAll Q_takenFirst r25.2.2.1 r25.2.2.2.1 r25.2.2.2.2.1 r25.2.2.2.2.2.1 r25.2.2.2.2.2.2.1 r25.2.2.2.2.2.2.2.1 r25.2.2.2.2.2.2.2.2.1 r25.2.2.2.2.2.2.2.2.2.1 r25.2.2.2.2.2.2.2.2.2.2.1 r25.2.2.2.2.2.2.2.2.2.2.2.1 r25.2.2.2.2.2.2.2.2.2.2.2.2 g29) := hD
      refine lv_aload_n hx hb d_Q_name_193 rfl (lv_at hl 1 rfl) ?_
      refine lv_iload hx hb d_Q_name_194 (lv_at hl 0 rfl) ?_
      refine lv_iconst (v := 3) hx hb d_Q_name_196 (by decide) ?_
      obtain ⟨r30, hr30, hf⟩ := of_bd hf
      refine wr_call (ws' := (wv_44 cI cJ cZ aQ aQ_kinds aQ_which aQ_firsts aQ_seconds aQ_thirds aQ_nexts aQ_heads aQ_names aQ_variables aQ_holes aQ_sizes aQ_places aQ_conclusions aQ_premises aQ_counts aQ_hitOf aQ_hitOne aQ_hitTwo aQ_hitTerms aQ_image aQ_bound aQ_waits aQ_waitsFor aQ_seen aQ_goals aQ_steps aQ_looked aQ_under aQ_taken aQ_news aQ_order aQ_there aQ_back r30.2 r25.2.1 Q_statements Q_hitKind Q_hits Q_tries Q_takenAll Q_takenFirst r25.2.2.1 r25.2.2.2.1 r25.2.2.2.2.1 r25.2.2.2.2.2.1 r25.2.2.2.2.2.2.1 r25.2.2.2.2.2.2.2.1 r25.2.2.2.2.2.2.2.2.1 r25.2.2.2.2.2.2.2.2.2.1 r25.2.2.2.2.2.2.2.2.2.2.1 r25.2.2.2.2.2.2.2.2.2.2.2.1 r25.2.2.2.2.2.2.2.2.2.2.2.2 g29)) (va_runV (As := [.int r25.1, .int (3 : Int32)]) (rest := []) ⟨hx, hb, hml, hown, hts⟩ (c_Q_made l D cI cJ cZ aQ aQ_kinds aQ_which aQ_firsts aQ_seconds aQ_thirds aQ_nexts aQ_heads aQ_names aQ_variables aQ_holes aQ_sizes aQ_places aQ_conclusions aQ_premises aQ_counts aQ_hitOf aQ_hitOne aQ_hitTwo aQ_hitTerms aQ_image aQ_bound aQ_waits aQ_waitsFor aQ_seen aQ_goals aQ_steps aQ_looked aQ_under aQ_taken aQ_news aQ_order aQ_there aQ_back _ Q_thrown_172 r25.2.1 Q_statements Q_hitKind Q_hits Q_tries Q_takenAll Q_takenFirst r25.1 (3 : Int32) r30 hr30) (bigV 2 hts k4_223 k4_225 ks_Q_made k1_9 k4_226 rfl rfl hd_Q_made ⟨Nat.le_of_ble_eq_true rfl, Nat.le_of_ble_eq_true rfl⟩) (wr_preV hK hP hD [0] rfl (by decide) rfl 0 rfl rfl rfl) rfl rfl hl.1 rfl (lv_room (Nat.le_of_ble_eq_true rfl)) d_Q_name_197 ⟨Nat.le_of_ble_eq_true rfl, Nat.le_of_ble_eq_true rfl⟩) hP hD hS hA [0] [1, 2, 3, 4, 5, 6, 7, 8, 9, 10, 11, 12] rfl rfl (by decide) (by decide) [12, 0, 1, 2, 3, 4, 5, 6, 7, 8, 9, 10, 11] (by decide) rfl (fun H locs hP hD hS => ?_)
      obtain rfl := Option.some.inj hf
      exact W.iret (v := r30.1) hx hb hr (fun t ht hW => ⟨rfl, by rw [ht]; exact hP, hD, hS.F ht⟩) hS.2.2 d_Q_name_200
  have hB160 : ∀ (Q_thrown_160 : Int32) (Q_all_160 : Int32) (Q_kinds_160 : (Nat → Int32)) (Q_which_160 : (Nat → Int32)) (Q_firsts_160 : (Nat → Int32)) (Q_seconds_160 : (Nat → Int32)) (Q_thirds_160 : (Nat → Int32)) (Q_nexts_160 : (Nat → Int32)) (Q_heads_160 : (Nat → Int32)) (Q_names_160 : (Nat → Int32)) (Q_variables_160 : (Nat → Int32)) (Q_holes_160 : (Nat → Int32)) (Q_sizes_160 : (Nat → Int32)) (Q_places_160 : (Nat → Int32)) (x1_160 : Int32) (x4_160 : Int32) (x5_160 : Int32) (s1_160 : Int32) (s2_160 : Int32) (s3_160 : Int32) (s4_160 : Int32), ∀ (H : Heap) (locs : List Loc), va_P D vwCl (wv_44 cI cJ cZ aQ aQ_kinds aQ_which aQ_firsts aQ_seconds aQ_thirds aQ_nexts aQ_heads aQ_names aQ_variables aQ_holes aQ_sizes aQ_places aQ_conclusions aQ_premises aQ_counts aQ_hitOf aQ_hitOne aQ_hitTwo aQ_hitTerms aQ_image aQ_bound aQ_waits aQ_waitsFor aQ_seen aQ_goals aQ_steps aQ_looked aQ_under aQ_taken aQ_news aQ_order aQ_there aQ_back Q_thrown_160 Q_all_160 Q_statements Q_hitKind Q_hits Q_tries Q_takenAll Q_takenFirst Q_kinds_160 Q_which_160 Q_firsts_160 Q_seconds_160 Q_thirds_160 Q_nexts_160 Q_heads_160 Q_names_160 Q_variables_160 Q_holes_160 Q_sizes_160 Q_places_160) H → va_D A (wv_44 cI cJ cZ aQ aQ_kinds aQ_which aQ_firsts aQ_seconds aQ_thirds aQ_nexts aQ_heads aQ_names aQ_variables aQ_holes aQ_sizes aQ_places aQ_conclusions aQ_premises aQ_counts aQ_hitOf aQ_hitOne aQ_hitTwo aQ_hitTerms aQ_image aQ_bound aQ_waits aQ_waitsFor aQ_seen aQ_goals aQ_steps aQ_looked aQ_under aQ_taken aQ_news aQ_order aQ_there aQ_back Q_thrown_160 Q_all_160 Q_statements Q_hitKind Q_hits Q_tries Q_takenAll Q_takenFirst Q_kinds_160 Q_which_160 Q_firsts_160 Q_seconds_160 Q_thirds_160 Q_nexts_160 Q_heads_160 Q_names_160 Q_variables_160 Q_holes_160 Q_sizes_160 Q_places_160) → va_S A s.heap H locs → ∀ (ls : Array Slot), lv_has ls 8 [(0, .ref aQ), (1, .int x1_160), (4, .int x4_160), (5, .int x5_160)] → f_Q_name_B160 Q_thrown_160 Q_all_160 Q_kinds_160 Q_which_160 Q_firsts_160 Q_seconds_160 Q_thirds_160 Q_nexts_160 Q_heads_160 Q_names_160 Q_variables_160 Q_holes_160 Q_sizes_160 Q_places_160 x1_160 x4_160 x5_160 s1_160 s2_160 s3_160 s4_160 = some o → W p l e (headSpec (ws_Q_name) rm_Q_name).room s m ([.ref aQ, .int p0, .int p1, .int p2, .int p3] : List Value).toArray below meth c H locs 0 0 (MQ below (WQ D vwCl (some (.int o.1)) (wv_44 cI cJ cZ aQ aQ_kinds aQ_which aQ_firsts aQ_seconds aQ_thirds aQ_nexts aQ_heads aQ_names aQ_variables aQ_holes aQ_sizes aQ_places aQ_conclusions aQ_premises aQ_counts aQ_hitOf aQ_hitOne aQ_hitTwo aQ_hitTerms aQ_image aQ_bound aQ_waits aQ_waitsFor aQ_seen aQ_goals aQ_steps aQ_looked aQ_under aQ_taken aQ_news aQ_order aQ_there aQ_back o.2.1 o.2.2.1 Q_statements Q_hitKind Q_hits Q_tries Q_takenAll Q_takenFirst o.2.2.2.1 o.2.2.2.2.1 o.2.2.2.2.2.1 o.2.2.2.2.2.2.1 o.2.2.2.2.2.2.2.1 o.2.2.2.2.2.2.2.2.1 o.2.2.2.2.2.2.2.2.2.1 o.2.2.2.2.2.2.2.2.2.2.1 o.2.2.2.2.2.2.2.2.2.2.2.1 o.2.2.2.2.2.2.2.2.2.2.2.2.1 o.2.2.2.2.2.2.2.2.2.2.2.2.2.1 o.2.2.2.2.2.2.2.2.2.2.2.2.2.2) A) ([.ref aQ, .int p0, .int p1, .int p2, .int p3] : List Value).toArray s 0 0 A) (F0 m 160 ls [.int s4_160, .int s3_160, .int s2_160, .int s1_160, .ref aQ]) := by
    intro Q_thrown_160 Q_all_160 Q_kinds_160 Q_which_160 Q_firsts_160 Q_seconds_160 Q_thirds_160 Q_nexts_160 Q_heads_160 Q_names_160 Q_variables_160 Q_holes_160 Q_sizes_160 Q_places_160 x1_160 x4_160 x5_160 s1_160 s2_160 s3_160 s4_160 H locs hP hD hS ls hl hf
    rw [f_Q_name_B160] at hf
    refine lv_iload hx hb d_Q_name_160 (lv_at hl 3 rfl) ?_
    refine lv_iconst (v := 3) hx hb d_Q_name_162 (by decide) ?_
    refine lv_icmp_ge (tgt := 170) hx hb d_Q_name_163 (by decide) (fun c24 => ?_) (fun c24 => ?_)
    · have hf := ite_t c24 hf
      refine lv_iload hx hb d_Q_name_170 (lv_at hl 2 rfl) ?_
      exact hB172 _ _ _ _ _ _ _ _ _ _ _ _ _ _ _ _ _ _ _ _ _ _ _ hP hD hS _ (lv_sub hl [0, 1, 3] rfl) hf
    · have hf := ite_f c24 hf
      refine lv_iconst (v := -1) hx hb d_Q_name_166 (by decide) ?_
      refine lv_goto (tgt := 172) hx hb d_Q_name_167 (by decide) ?_
      exact hB172 _ _ _ _ _ _ _ _ _ _ _ _ _ _ _ _ _ _ _ _ _ _ _ hP hD hS _ (lv_sub hl [0, 1, 3] rfl) hf
  have hB149 : ∀ (Q_thrown_149 : Int32) (Q_all_149 : Int32) (Q_kinds_149 : (Nat → Int32)) (Q_which_149 : (Nat → Int32)) (Q_firsts_149 : (Nat → Int32)) (Q_seconds_149 : (Nat → Int32)) (Q_thirds_149 : (Nat → Int32)) (Q_nexts_149 : (Nat → Int32)) (Q_heads_149 : (Nat → Int32)) (Q_names_149 : (Nat → Int32)) (Q_variables_149 : (Nat → Int32)) (Q_holes_149 : (Nat → Int32)) (Q_sizes_149 : (Nat → Int32)) (Q_places_149 : (Nat → Int32)) (x1_149 : Int32) (x3_149 : Int32) (x4_149 : Int32) (x5_149 : Int32) (s1_149 : Int32) (s2_149 : Int32) (s3_149 : Int32), ∀ (H : Heap) (locs : List Loc), va_P D vwCl (wv_44 cI cJ cZ aQ aQ_kinds aQ_which aQ_firsts aQ_seconds aQ_thirds aQ_nexts aQ_heads aQ_names aQ_variables aQ_holes aQ_sizes aQ_places aQ_conclusions aQ_premises aQ_counts aQ_hitOf aQ_hitOne aQ_hitTwo aQ_hitTerms aQ_image aQ_bound aQ_waits aQ_waitsFor aQ_seen aQ_goals aQ_steps aQ_looked aQ_under aQ_taken aQ_news aQ_order aQ_there aQ_back Q_thrown_149 Q_all_149 Q_statements Q_hitKind Q_hits Q_tries Q_takenAll Q_takenFirst Q_kinds_149 Q_which_149 Q_firsts_149 Q_seconds_149 Q_thirds_149 Q_nexts_149 Q_heads_149 Q_names_149 Q_variables_149 Q_holes_149 Q_sizes_149 Q_places_149) H → va_D A (wv_44 cI cJ cZ aQ aQ_kinds aQ_which aQ_firsts aQ_seconds aQ_thirds aQ_nexts aQ_heads aQ_names aQ_variables aQ_holes aQ_sizes aQ_places aQ_conclusions aQ_premises aQ_counts aQ_hitOf aQ_hitOne aQ_hitTwo aQ_hitTerms aQ_image aQ_bound aQ_waits aQ_waitsFor aQ_seen aQ_goals aQ_steps aQ_looked aQ_under aQ_taken aQ_news aQ_order aQ_there aQ_back Q_thrown_149 Q_all_149 Q_statements Q_hitKind Q_hits Q_tries Q_takenAll Q_takenFirst Q_kinds_149 Q_which_149 Q_firsts_149 Q_seconds_149 Q_thirds_149 Q_nexts_149 Q_heads_149 Q_names_149 Q_variables_149 Q_holes_149 Q_sizes_149 Q_places_149) → va_S A s.heap H locs → ∀ (ls : Array Slot), lv_has ls 8 [(0, .ref aQ), (1, .int x1_149), (3, .int x3_149), (4, .int x4_149), (5, .int x5_149)] → f_Q_name_B149 Q_thrown_149 Q_all_149 Q_kinds_149 Q_which_149 Q_firsts_149 Q_seconds_149 Q_thirds_149 Q_nexts_149 Q_heads_149 Q_names_149 Q_variables_149 Q_holes_149 Q_sizes_149 Q_places_149 x1_149 x3_149 x4_149 x5_149 s1_149 s2_149 s3_149 = some o → W p l e (headSpec (ws_Q_name) rm_Q_name).room s m ([.ref aQ, .int p0, .int p1, .int p2, .int p3] : List Value).toArray below meth c H locs 0 0 (MQ below (WQ D vwCl (some (.int o.1)) (wv_44 cI cJ cZ aQ aQ_kinds aQ_which aQ_firsts aQ_seconds aQ_thirds aQ_nexts aQ_heads aQ_names aQ_variables aQ_holes aQ_sizes aQ_places aQ_conclusions aQ_premises aQ_counts aQ_hitOf aQ_hitOne aQ_hitTwo aQ_hitTerms aQ_image aQ_bound aQ_waits aQ_waitsFor aQ_seen aQ_goals aQ_steps aQ_looked aQ_under aQ_taken aQ_news aQ_order aQ_there aQ_back o.2.1 o.2.2.1 Q_statements Q_hitKind Q_hits Q_tries Q_takenAll Q_takenFirst o.2.2.2.1 o.2.2.2.2.1 o.2.2.2.2.2.1 o.2.2.2.2.2.2.1 o.2.2.2.2.2.2.2.1 o.2.2.2.2.2.2.2.2.1 o.2.2.2.2.2.2.2.2.2.1 o.2.2.2.2.2.2.2.2.2.2.1 o.2.2.2.2.2.2.2.2.2.2.2.1 o.2.2.2.2.2.2.2.2.2.2.2.2.1 o.2.2.2.2.2.2.2.2.2.2.2.2.2.1 o.2.2.2.2.2.2.2.2.2.2.2.2.2.2) A) ([.ref aQ, .int p0, .int p1, .int p2, .int p3] : List Value).toArray s 0 0 A) (F0 m 149 ls [.int s3_149, .int s2_149, .int s1_149, .ref aQ]) := by
    intro Q_thrown_149 Q_all_149 Q_kinds_149 Q_which_149 Q_firsts_149 Q_seconds_149 Q_thirds_149 Q_nexts_149 Q_heads_149 Q_names_149 Q_variables_149 Q_holes_149 Q_sizes_149 Q_places_149 x1_149 x3_149 x4_149 x5_149 s1_149 s2_149 s3_149 H locs hP hD hS ls hl hf
    rw [f_Q_name_B149] at hf
    refine lv_iload hx hb d_Q_name_149 (lv_at hl 4 rfl) ?_
    refine lv_iconst (v := 2) hx hb d_Q_name_151 (by decide) ?_
    refine lv_icmp_ge (tgt := 159) hx hb d_Q_name_152 (by decide) (fun c23 => ?_) (fun c23 => ?_)
    · have hf := ite_t c23 hf
      refine lv_iload_n hx hb d_Q_name_159 rfl (lv_at hl 2 rfl) ?_
      exact hB160 _ _ _ _ _ _ _ _ _ _ _ _ _ _ _ _ _ _ _ _ _ _ _ hP hD hS _ (lv_sub hl [0, 1, 3, 4] rfl) hf
    · have hf := ite_f c23 hf
      refine lv_iconst (v := -1) hx hb d_Q_name_155 (by decide) ?_
      refine lv_goto (tgt := 160) hx hb d_Q_name_156 (by decide) ?_
      exact hB160 _ _ _ _ _ _ _ _ _ _ _ _ _ _ _ _ _ _ _ _ _ _ _ hP hD hS _ (lv_sub hl [0, 1, 3, 4] rfl) hf
  have hB127 : ∀ (Q_thrown_127 : Int32) (Q_all_127 : Int32) (Q_kinds_127 : (Nat → Int32)) (Q_which_127 : (Nat → Int32)) (Q_firsts_127 : (Nat → Int32)) (Q_seconds_127 : (Nat → Int32)) (Q_thirds_127 : (Nat → Int32)) (Q_nexts_127 : (Nat → Int32)) (Q_heads_127 : (Nat → Int32)) (Q_names_127 : (Nat → Int32)) (Q_variables_127 : (Nat → Int32)) (Q_holes_127 : (Nat → Int32)) (Q_sizes_127 : (Nat → Int32)) (Q_places_127 : (Nat → Int32)) (x1_127 : Int32) (x2_127 : Int32) (x3_127 : Int32) (x4_127 : Int32) (x5_127 : Int32) (s1_127 : Int32), ∀ (H : Heap) (locs : List Loc), va_P D vwCl (wv_44 cI cJ cZ aQ aQ_kinds aQ_which aQ_firsts aQ_seconds aQ_thirds aQ_nexts aQ_heads aQ_names aQ_variables aQ_holes aQ_sizes aQ_places aQ_conclusions aQ_premises aQ_counts aQ_hitOf aQ_hitOne aQ_hitTwo aQ_hitTerms aQ_image aQ_bound aQ_waits aQ_waitsFor aQ_seen aQ_goals aQ_steps aQ_looked aQ_under aQ_taken aQ_news aQ_order aQ_there aQ_back Q_thrown_127 Q_all_127 Q_statements Q_hitKind Q_hits Q_tries Q_takenAll Q_takenFirst Q_kinds_127 Q_which_127 Q_firsts_127 Q_seconds_127 Q_thirds_127 Q_nexts_127 Q_heads_127 Q_names_127 Q_variables_127 Q_holes_127 Q_sizes_127 Q_places_127) H → va_D A (wv_44 cI cJ cZ aQ aQ_kinds aQ_which aQ_firsts aQ_seconds aQ_thirds aQ_nexts aQ_heads aQ_names aQ_variables aQ_holes aQ_sizes aQ_places aQ_conclusions aQ_premises aQ_counts aQ_hitOf aQ_hitOne aQ_hitTwo aQ_hitTerms aQ_image aQ_bound aQ_waits aQ_waitsFor aQ_seen aQ_goals aQ_steps aQ_looked aQ_under aQ_taken aQ_news aQ_order aQ_there aQ_back Q_thrown_127 Q_all_127 Q_statements Q_hitKind Q_hits Q_tries Q_takenAll Q_takenFirst Q_kinds_127 Q_which_127 Q_firsts_127 Q_seconds_127 Q_thirds_127 Q_nexts_127 Q_heads_127 Q_names_127 Q_variables_127 Q_holes_127 Q_sizes_127 Q_places_127) → va_S A s.heap H locs → ∀ (ls : Array Slot), lv_has ls 8 [(0, .ref aQ), (1, .int x1_127), (2, .int x2_127), (3, .int x3_127), (4, .int x4_127), (5, .int x5_127)] → f_Q_name_B127 Q_thrown_127 Q_all_127 Q_kinds_127 Q_which_127 Q_firsts_127 Q_seconds_127 Q_thirds_127 Q_nexts_127 Q_heads_127 Q_names_127 Q_variables_127 Q_holes_127 Q_sizes_127 Q_places_127 x1_127 x2_127 x3_127 x4_127 x5_127 s1_127 = some o → W p l e (headSpec (ws_Q_name) rm_Q_name).room s m ([.ref aQ, .int p0, .int p1, .int p2, .int p3] : List Value).toArray below meth c H locs 0 0 (MQ below (WQ D vwCl (some (.int o.1)) (wv_44 cI cJ cZ aQ aQ_kinds aQ_which aQ_firsts aQ_seconds aQ_thirds aQ_nexts aQ_heads aQ_names aQ_variables aQ_holes aQ_sizes aQ_places aQ_conclusions aQ_premises aQ_counts aQ_hitOf aQ_hitOne aQ_hitTwo aQ_hitTerms aQ_image aQ_bound aQ_waits aQ_waitsFor aQ_seen aQ_goals aQ_steps aQ_looked aQ_under aQ_taken aQ_news aQ_order aQ_there aQ_back o.2.1 o.2.2.1 Q_statements Q_hitKind Q_hits Q_tries Q_takenAll Q_takenFirst o.2.2.2.1 o.2.2.2.2.1 o.2.2.2.2.2.1 o.2.2.2.2.2.2.1 o.2.2.2.2.2.2.2.1 o.2.2.2.2.2.2.2.2.1 o.2.2.2.2.2.2.2.2.2.1 o.2.2.2.2.2.2.2.2.2.2.1 o.2.2.2.2.2.2.2.2.2.2.2.1 o.2.2.2.2.2.2.2.2.2.2.2.2.1 o.2.2.2.2.2.2.2.2.2.2.2.2.2.1 o.2.2.2.2.2.2.2.2.2.2.2.2.2.2) A) ([.ref aQ, .int p0, .int p1, .int p2, .int p3] : List Value).toArray s 0 0 A) (F0 m 127 ls [.int s1_127, .ref aQ]) := by
    intro Q_thrown_127 Q_all_127 Q_kinds_127 Q_which_127 Q_firsts_127 Q_seconds_127 Q_thirds_127 Q_nexts_127 Q_heads_127 Q_names_127 Q_variables_127 Q_holes_127 Q_sizes_127 Q_places_127 x1_127 x2_127 x3_127 x4_127 x5_127 s1_127 H locs hP hD hS ls hl hf
    rw [f_Q_name_B127] at hf
    obtain ⟨r20, hr20, hf⟩ := of_bd hf
    refine wr_call (ws' := (wv_44 cI cJ cZ aQ aQ_kinds aQ_which aQ_firsts aQ_seconds aQ_thirds aQ_nexts aQ_heads aQ_names aQ_variables aQ_holes aQ_sizes aQ_places aQ_conclusions aQ_premises aQ_counts aQ_hitOf aQ_hitOne aQ_hitTwo aQ_hitTerms aQ_image aQ_bound aQ_waits aQ_waitsFor aQ_seen aQ_goals aQ_steps aQ_looked aQ_under aQ_taken aQ_news aQ_order aQ_there aQ_back r20.2 Q_all_127 Q_statements Q_hitKind Q_hits Q_tries Q_takenAll Q_takenFirst Q_kinds_127 Q_which_127 Q_firsts_127 Q_seconds_127 Q_thirds_127 Q_nexts_127 Q_heads_127 Q_names_127 Q_variables_127 Q_holes_127 Q_sizes_127 Q_places_127)) (va_runV (As := [.int s1_127]) (rest := []) ⟨hx, hb, hml, hown, hts⟩ (c_Q_refuses l D cI cJ cZ aQ aQ_kinds aQ_which aQ_firsts aQ_seconds aQ_thirds aQ_nexts aQ_heads aQ_names aQ_variables aQ_holes aQ_sizes aQ_places aQ_conclusions aQ_premises aQ_counts aQ_hitOf aQ_hitOne aQ_hitTwo aQ_hitTerms aQ_image aQ_bound aQ_waits aQ_waitsFor aQ_seen aQ_goals aQ_steps aQ_looked aQ_under aQ_taken aQ_news aQ_order aQ_there aQ_back _ Q_thrown_127 Q_all_127 Q_statements Q_hitKind Q_hits Q_tries Q_takenAll Q_takenFirst s1_127 r20 hr20) (bigV 1 hts k4_203 k4_205 ks_Q_refuses k1_9 k4_206 rfl rfl hd_Q_refuses ⟨Nat.le_of_ble_eq_true rfl, Nat.le_of_ble_eq_true rfl⟩) (wr_preV hK hP hD [0] rfl (by decide) rfl 0 rfl rfl rfl) rfl rfl hl.1 rfl (lv_room (Nat.le_of_ble_eq_true rfl)) d_Q_name_127 ⟨Nat.le_of_ble_eq_true rfl, Nat.le_of_ble_eq_true rfl⟩) hP hD hS hA [0] [1, 2, 3, 4, 5, 6, 7, 8, 9, 10, 11, 12] rfl rfl (by decide) (by decide) [12, 0, 1, 2, 3, 4, 5, 6, 7, 8, 9, 10, 11] (by decide) rfl (fun H locs hP hD hS => ?_)
    refine lv_if_eq (tgt := 135) hx hb d_Q_name_130 (by decide) (fun c21 => ?_) (fun c21 => ?_)
    · have hf := ite_t c21 hf
      refine lv_aload_n hx hb d_Q_name_135 rfl (lv_at hl 0 rfl) ?_
      refine lv_iconst (v := 0) hx hb d_Q_name_136 (by decide) ?_
      refine lv_iload_n hx hb d_Q_name_137 rfl (lv_at hl 1 rfl) ?_
      refine lv_iload hx hb d_Q_name_138 (lv_at hl 5 rfl) ?_
      refine lv_iconst (v := 1) hx hb d_Q_name_140 (by decide) ?_
      refine lv_icmp_ge (tgt := 148) hx hb d_Q_name_141 (by decide) (fun c22 => ?_) (fun c22 => ?_)
      · have hf := ite_t c22 hf
        refine lv_iload_n hx hb d_Q_name_148 rfl (lv_at hl 2 rfl) ?_
        exact hB149 _ _ _ _ _ _ _ _ _ _ _ _ _ _ _ _ _ _ _ _ _ _ _ hP hD hS _ (lv_sub hl [0, 1, 3, 4, 5] rfl) hf
      · have hf := ite_f c22 hf
        refine lv_iconst (v := -1) hx hb d_Q_name_144 (by decide) ?_
        refine lv_goto (tgt := 149) hx hb d_Q_name_145 (by decide) ?_
        exact hB149 _ _ _ _ _ _ _ _ _ _ _ _ _ _ _ _ _ _ _ _ _ _ _ hP hD hS _ (lv_sub hl [0, 1, 3, 4, 5] rfl) hf
    · have hf := ite_f c21 hf
      refine lv_iconst (v := 0) hx hb d_Q_name_133 (by decide) ?_
      obtain rfl := Option.some.inj hf
      exact W.iret (v := (0 : Int32)) hx hb hr (fun t ht hW => ⟨rfl, by rw [ht]; exact hP, hD, hS.F ht⟩) hS.2.2 d_Q_name_134
  have hB89 : ∀ (Q_thrown_89 : Int32) (Q_all_89 : Int32) (Q_kinds_89 : (Nat → Int32)) (Q_which_89 : (Nat → Int32)) (Q_firsts_89 : (Nat → Int32)) (Q_seconds_89 : (Nat → Int32)) (Q_thirds_89 : (Nat → Int32)) (Q_nexts_89 : (Nat → Int32)) (Q_heads_89 : (Nat → Int32)) (Q_names_89 : (Nat → Int32)) (Q_variables_89 : (Nat → Int32)) (Q_holes_89 : (Nat → Int32)) (Q_sizes_89 : (Nat → Int32)) (Q_places_89 : (Nat → Int32)) (x1_89 : Int32) (x2_89 : Int32) (x3_89 : Int32) (x4_89 : Int32) (x5_89 : Int32) (s0_89 : Int32), ∀ (H : Heap) (locs : List Loc), va_P D vwCl (wv_44 cI cJ cZ aQ aQ_kinds aQ_which aQ_firsts aQ_seconds aQ_thirds aQ_nexts aQ_heads aQ_names aQ_variables aQ_holes aQ_sizes aQ_places aQ_conclusions aQ_premises aQ_counts aQ_hitOf aQ_hitOne aQ_hitTwo aQ_hitTerms aQ_image aQ_bound aQ_waits aQ_waitsFor aQ_seen aQ_goals aQ_steps aQ_looked aQ_under aQ_taken aQ_news aQ_order aQ_there aQ_back Q_thrown_89 Q_all_89 Q_statements Q_hitKind Q_hits Q_tries Q_takenAll Q_takenFirst Q_kinds_89 Q_which_89 Q_firsts_89 Q_seconds_89 Q_thirds_89 Q_nexts_89 Q_heads_89 Q_names_89 Q_variables_89 Q_holes_89 Q_sizes_89 Q_places_89) H → va_D A (wv_44 cI cJ cZ aQ aQ_kinds aQ_which aQ_firsts aQ_seconds aQ_thirds aQ_nexts aQ_heads aQ_names aQ_variables aQ_holes aQ_sizes aQ_places aQ_conclusions aQ_premises aQ_counts aQ_hitOf aQ_hitOne aQ_hitTwo aQ_hitTerms aQ_image aQ_bound aQ_waits aQ_waitsFor aQ_seen aQ_goals aQ_steps aQ_looked aQ_under aQ_taken aQ_news aQ_order aQ_there aQ_back Q_thrown_89 Q_all_89 Q_statements Q_hitKind Q_hits Q_tries Q_takenAll Q_takenFirst Q_kinds_89 Q_which_89 Q_firsts_89 Q_seconds_89 Q_thirds_89 Q_nexts_89 Q_heads_89 Q_names_89 Q_variables_89 Q_holes_89 Q_sizes_89 Q_places_89) → va_S A s.heap H locs → ∀ (ls : Array Slot), lv_has ls 8 [(0, .ref aQ), (1, .int x1_89), (2, .int x2_89), (3, .int x3_89), (4, .int x4_89), (5, .int x5_89)] → f_Q_name_B89 Q_thrown_89 Q_all_89 Q_kinds_89 Q_which_89 Q_firsts_89 Q_seconds_89 Q_thirds_89 Q_nexts_89 Q_heads_89 Q_names_89 Q_variables_89 Q_holes_89 Q_sizes_89 Q_places_89 x1_89 x2_89 x3_89 x4_89 x5_89 s0_89 = some o → W p l e (headSpec (ws_Q_name) rm_Q_name).room s m ([.ref aQ, .int p0, .int p1, .int p2, .int p3] : List Value).toArray below meth c H locs 0 0 (MQ below (WQ D vwCl (some (.int o.1)) (wv_44 cI cJ cZ aQ aQ_kinds aQ_which aQ_firsts aQ_seconds aQ_thirds aQ_nexts aQ_heads aQ_names aQ_variables aQ_holes aQ_sizes aQ_places aQ_conclusions aQ_premises aQ_counts aQ_hitOf aQ_hitOne aQ_hitTwo aQ_hitTerms aQ_image aQ_bound aQ_waits aQ_waitsFor aQ_seen aQ_goals aQ_steps aQ_looked aQ_under aQ_taken aQ_news aQ_order aQ_there aQ_back o.2.1 o.2.2.1 Q_statements Q_hitKind Q_hits Q_tries Q_takenAll Q_takenFirst o.2.2.2.1 o.2.2.2.2.1 o.2.2.2.2.2.1 o.2.2.2.2.2.2.1 o.2.2.2.2.2.2.2.1 o.2.2.2.2.2.2.2.2.1 o.2.2.2.2.2.2.2.2.2.1 o.2.2.2.2.2.2.2.2.2.2.1 o.2.2.2.2.2.2.2.2.2.2.2.1 o.2.2.2.2.2.2.2.2.2.2.2.2.1 o.2.2.2.2.2.2.2.2.2.2.2.2.2.1 o.2.2.2.2.2.2.2.2.2.2.2.2.2.2) A) ([.ref aQ, .int p0, .int p1, .int p2, .int p3] : List Value).toArray s 0 0 A) (F0 m 89 ls [.int s0_89]) := by
    intro Q_thrown_89 Q_all_89 Q_kinds_89 Q_which_89 Q_firsts_89 Q_seconds_89 Q_thirds_89 Q_nexts_89 Q_heads_89 Q_names_89 Q_variables_89 Q_holes_89 Q_sizes_89 Q_places_89 x1_89 x2_89 x3_89 x4_89 x5_89 s0_89 H locs hP hD hS ls hl hf
    rw [f_Q_name_B89] at hf
    refine lv_istore (lv' := [(6, .int s0_89), (0, .ref aQ), (1, .int x1_89), (2, .int x2_89), (3, .int x3_89), (4, .int x4_89), (5, .int x5_89)]) hx hb d_Q_name_89 hl (by decide) rfl (fun ls hl => ?_)
    refine lv_aload_n hx hb d_Q_name_91 rfl (lv_at hl 1 rfl) ?_
    refine lv_iload hx hb d_Q_name_92 (lv_at hl 0 rfl) ?_
    refine lv_if_ne (tgt := 101) hx hb d_Q_name_94 (by decide) (fun c15 => ?_) (fun c15 => ?_)
    · have hf := ite_f c15 hf
      refine lv_aload_n hx hb d_Q_name_101 rfl (lv_at hl 1 rfl) ?_
      refine va_get (D := D) (ci := 7) (v := .ref aQ_places) (C := RR_Q) (T := FF_Q) (N := 41) hx hb hts kin_Q hown hK.1 hP 0 rfl rfl 13 (by decide) (hts _ k4_80) (fun _ h9 => h9) rfl d_Q_name_102 ?_
      refine lv_iload_n hx hb d_Q_name_105 rfl (lv_at hl 2 rfl) ?_
      obtain ⟨h16, hf⟩ := of_gd hf
      refine va_iald hx hb hK.1 hP 12 0 rfl rfl (ixb_in h16) d_Q_name_106 ?_
      refine lv_iconst (v := -1) hx hb d_Q_name_107 (by decide) ?_
      refine lv_icmp_eq (tgt := 126) hx hb d_Q_name_108 (by decide) (fun c17 => ?_) (fun c17 => ?_)
      · have hf := ite_t c17 hf
        refine lv_iconst (v := 0) hx hb d_Q_name_126 (by decide) ?_
        exact hB127 _ _ _ _ _ _ _ _ _ _ _ _ _ _ _ _ _ _ _ _ _ _ hP hD hS _ (lv_sub hl [1, 2, 3, 4, 5, 6] rfl) hf
      · have hf := ite_f c17 hf
        refine lv_aload_n hx hb d_Q_name_111 rfl (lv_at hl 1 rfl) ?_
        refine va_get (D := D) (ci := 7) (v := .ref aQ_places) (C := RR_Q) (T := FF_Q) (N := 41) hx hb hts kin_Q hown hK.1 hP 0 rfl rfl 13 (by decide) (hts _ k4_80) (fun _ h9 => h9) rfl d_Q_name_112 ?_
        refine lv_iload_n hx hb d_Q_name_115 rfl (lv_at hl 2 rfl) ?_
        obtain ⟨h18, hf⟩ := of_gd hf
        refine va_iald hx hb hK.1 hP 12 0 rfl rfl (ixb_in h18) d_Q_name_116 ?_
        refine lv_iload hx hb d_Q_name_117 (lv_at hl 6 rfl) ?_
        refine lv_icmp_eq (tgt := 126) hx hb d_Q_name_119 (by decide) (fun c19 => ?_) (fun c19 => ?_)
        · have hf := ite_t c19 hf
          refine lv_iconst (v := 0) hx hb d_Q_name_126 (by decide) ?_
          exact hB127 _ _ _ _ _ _ _ _ _ _ _ _ _ _ _ _ _ _ _ _ _ _ hP hD hS _ (lv_sub hl [1, 2, 3, 4, 5, 6] rfl) hf
        · have hf := ite_f c19 hf
          refine lv_iconst (v := 2) hx hb d_Q_name_122 (by decide) ?_
          refine lv_goto (tgt := 127) hx hb d_Q_name_123 (by decide) ?_
          exact hB127 _ _ _ _ _ _ _ _ _ _ _ _ _ _ _ _ _ _ _ _ _ _ hP hD hS _ (lv_sub hl [1, 2, 3, 4, 5, 6] rfl) hf
    · have hf := ite_t c15 hf
      refine lv_iconst (v := 1) hx hb d_Q_name_97 (by decide) ?_
      refine lv_goto (tgt := 127) hx hb d_Q_name_98 (by decide) ?_
      exact hB127 _ _ _ _ _ _ _ _ _ _ _ _ _ _ _ _ _ _ _ _ _ _ hP hD hS _ (lv_sub hl [1, 2, 3, 4, 5, 6] rfl) hf
  have hB69 : ∀ (Q_thrown_69 : Int32) (Q_all_69 : Int32) (Q_kinds_69 : (Nat → Int32)) (Q_which_69 : (Nat → Int32)) (Q_firsts_69 : (Nat → Int32)) (Q_seconds_69 : (Nat → Int32)) (Q_thirds_69 : (Nat → Int32)) (Q_nexts_69 : (Nat → Int32)) (Q_heads_69 : (Nat → Int32)) (Q_names_69 : (Nat → Int32)) (Q_variables_69 : (Nat → Int32)) (Q_holes_69 : (Nat → Int32)) (Q_sizes_69 : (Nat → Int32)) (Q_places_69 : (Nat → Int32)) (x1_69 : Int32) (x2_69 : Int32) (x3_69 : Int32) (x4_69 : Int32) (x5_69 : Int32), ∀ (H : Heap) (locs : List Loc), va_P D vwCl (wv_44 cI cJ cZ aQ aQ_kinds aQ_which aQ_firsts aQ_seconds aQ_thirds aQ_nexts aQ_heads aQ_names aQ_variables aQ_holes aQ_sizes aQ_places aQ_conclusions aQ_premises aQ_counts aQ_hitOf aQ_hitOne aQ_hitTwo aQ_hitTerms aQ_image aQ_bound aQ_waits aQ_waitsFor aQ_seen aQ_goals aQ_steps aQ_looked aQ_under aQ_taken aQ_news aQ_order aQ_there aQ_back Q_thrown_69 Q_all_69 Q_statements Q_hitKind Q_hits Q_tries Q_takenAll Q_takenFirst Q_kinds_69 Q_which_69 Q_firsts_69 Q_seconds_69 Q_thirds_69 Q_nexts_69 Q_heads_69 Q_names_69 Q_variables_69 Q_holes_69 Q_sizes_69 Q_places_69) H → va_D A (wv_44 cI cJ cZ aQ aQ_kinds aQ_which aQ_firsts aQ_seconds aQ_thirds aQ_nexts aQ_heads aQ_names aQ_variables aQ_holes aQ_sizes aQ_places aQ_conclusions aQ_premises aQ_counts aQ_hitOf aQ_hitOne aQ_hitTwo aQ_hitTerms aQ_image aQ_bound aQ_waits aQ_waitsFor aQ_seen aQ_goals aQ_steps aQ_looked aQ_under aQ_taken aQ_news aQ_order aQ_there aQ_back Q_thrown_69 Q_all_69 Q_statements Q_hitKind Q_hits Q_tries Q_takenAll Q_takenFirst Q_kinds_69 Q_which_69 Q_firsts_69 Q_seconds_69 Q_thirds_69 Q_nexts_69 Q_heads_69 Q_names_69 Q_variables_69 Q_holes_69 Q_sizes_69 Q_places_69) → va_S A s.heap H locs → ∀ (ls : Array Slot), lv_has ls 8 [(0, .ref aQ), (1, .int x1_69), (2, .int x2_69), (3, .int x3_69), (4, .int x4_69), (5, .int x5_69)] → f_Q_name_B69 Q_thrown_69 Q_all_69 Q_kinds_69 Q_which_69 Q_firsts_69 Q_seconds_69 Q_thirds_69 Q_nexts_69 Q_heads_69 Q_names_69 Q_variables_69 Q_holes_69 Q_sizes_69 Q_places_69 x1_69 x2_69 x3_69 x4_69 x5_69 = some o → W p l e (headSpec (ws_Q_name) rm_Q_name).room s m ([.ref aQ, .int p0, .int p1, .int p2, .int p3] : List Value).toArray below meth c H locs 0 0 (MQ below (WQ D vwCl (some (.int o.1)) (wv_44 cI cJ cZ aQ aQ_kinds aQ_which aQ_firsts aQ_seconds aQ_thirds aQ_nexts aQ_heads aQ_names aQ_variables aQ_holes aQ_sizes aQ_places aQ_conclusions aQ_premises aQ_counts aQ_hitOf aQ_hitOne aQ_hitTwo aQ_hitTerms aQ_image aQ_bound aQ_waits aQ_waitsFor aQ_seen aQ_goals aQ_steps aQ_looked aQ_under aQ_taken aQ_news aQ_order aQ_there aQ_back o.2.1 o.2.2.1 Q_statements Q_hitKind Q_hits Q_tries Q_takenAll Q_takenFirst o.2.2.2.1 o.2.2.2.2.1 o.2.2.2.2.2.1 o.2.2.2.2.2.2.1 o.2.2.2.2.2.2.2.1 o.2.2.2.2.2.2.2.2.1 o.2.2.2.2.2.2.2.2.2.1 o.2.2.2.2.2.2.2.2.2.2.1 o.2.2.2.2.2.2.2.2.2.2.2.1 o.2.2.2.2.2.2.2.2.2.2.2.2.1 o.2.2.2.2.2.2.2.2.2.2.2.2.2.1 o.2.2.2.2.2.2.2.2.2.2.2.2.2.2) A) ([.ref aQ, .int p0, .int p1, .int p2, .int p3] : List Value).toArray s 0 0 A) (F0 m 69 ls []) := by
    intro Q_thrown_69 Q_all_69 Q_kinds_69 Q_which_69 Q_firsts_69 Q_seconds_69 Q_thirds_69 Q_nexts_69 Q_heads_69 Q_names_69 Q_variables_69 Q_holes_69 Q_sizes_69 Q_places_69 x1_69 x2_69 x3_69 x4_69 x5_69 H locs hP hD hS ls hl hf
    rw [f_Q_name_B69] at hf
    refine lv_iload hx hb d_Q_name_69 (lv_at hl 5 rfl) ?_
    refine lv_iconst (v := 3) hx hb d_Q_name_71 (by decide) ?_
    refine lv_icmp_lt (tgt := 84) hx hb d_Q_name_72 (by decide) (fun c12 => ?_) (fun c12 => ?_)
    · have hf := ite_t c12 hf
      refine lv_iconst (v := 1) hx hb d_Q_name_84 (by decide) ?_
      refine lv_goto (tgt := 89) hx hb d_Q_name_85 (by decide) ?_
      exact hB89 _ _ _ _ _ _ _ _ _ _ _ _ _ _ _ _ _ _ _ _ _ _ hP hD hS _ (lv_sub hl [0, 1, 2, 3, 4, 5] rfl) hf
    · have hf := ite_f c12 hf
      refine lv_aload_n hx hb d_Q_name_75 rfl (lv_at hl 0 rfl) ?_
      refine lv_iload hx hb d_Q_name_76 (lv_at hl 4 rfl) ?_
      obtain ⟨r13, hr13, hf⟩ := of_bd hf
      refine rd_call (va_runV (As := [.int x4_69]) (rest := []) ⟨hx, hb, hml, hown, hts⟩ (c_Q_isTerm l D cI cJ cZ aQ aQ_kinds aQ_which aQ_firsts aQ_seconds aQ_thirds aQ_nexts aQ_heads aQ_names aQ_variables aQ_holes aQ_sizes aQ_places aQ_conclusions aQ_premises aQ_counts aQ_hitOf aQ_hitOne aQ_hitTwo aQ_hitTerms aQ_image aQ_bound aQ_waits aQ_waitsFor aQ_seen aQ_goals aQ_steps aQ_looked aQ_under aQ_taken aQ_news aQ_order aQ_there aQ_back Q_thrown_69 Q_all_69 Q_statements Q_hitKind Q_hits Q_tries Q_takenAll Q_takenFirst x4_69 r13 hr13) (bigV 1 hts k4_199 k4_201 ks_Q_isTerm k1_9 k4_202 rfl rfl hd_Q_isTerm ⟨Nat.le_of_ble_eq_true rfl, Nat.le_of_ble_eq_true rfl⟩) (rd_preV hK hP [0] rfl 0 rfl rfl rfl) rfl rfl hl.1 rfl (lv_room (Nat.le_of_ble_eq_true rfl)) d_Q_name_78 ⟨Nat.le_of_ble_eq_true rfl, Nat.le_of_ble_eq_true rfl⟩) ?_
      refine lv_if_eq (tgt := 88) hx hb d_Q_name_81 (by decide) (fun c14 => ?_) (fun c14 => ?_)
      · have hf := ite_t c14 hf
        refine lv_iconst (v := 0) hx hb d_Q_name_88 (by decide) ?_
        exact hB89 _ _ _ _ _ _ _ _ _ _ _ _ _ _ _ _ _ _ _ _ _ _ hP hD hS _ (lv_sub hl [0, 1, 2, 3, 4, 5] rfl) hf
      · have hf := ite_f c14 hf
        refine lv_iconst (v := 1) hx hb d_Q_name_84 (by decide) ?_
        refine lv_goto (tgt := 89) hx hb d_Q_name_85 (by decide) ?_
        exact hB89 _ _ _ _ _ _ _ _ _ _ _ _ _ _ _ _ _ _ _ _ _ _ hP hD hS _ (lv_sub hl [0, 1, 2, 3, 4, 5] rfl) hf
  have hB55 : ∀ (Q_thrown_55 : Int32) (Q_all_55 : Int32) (Q_kinds_55 : (Nat → Int32)) (Q_which_55 : (Nat → Int32)) (Q_firsts_55 : (Nat → Int32)) (Q_seconds_55 : (Nat → Int32)) (Q_thirds_55 : (Nat → Int32)) (Q_nexts_55 : (Nat → Int32)) (Q_heads_55 : (Nat → Int32)) (Q_names_55 : (Nat → Int32)) (Q_variables_55 : (Nat → Int32)) (Q_holes_55 : (Nat → Int32)) (Q_sizes_55 : (Nat → Int32)) (Q_places_55 : (Nat → Int32)) (x1_55 : Int32) (x2_55 : Int32) (x3_55 : Int32) (x4_55 : Int32) (x5_55 : Int32), ∀ (H : Heap) (locs : List Loc), va_P D vwCl (wv_44 cI cJ cZ aQ aQ_kinds aQ_which aQ_firsts aQ_seconds aQ_thirds aQ_nexts aQ_heads aQ_names aQ_variables aQ_holes aQ_sizes aQ_places aQ_conclusions aQ_premises aQ_counts aQ_hitOf aQ_hitOne aQ_hitTwo aQ_hitTerms aQ_image aQ_bound aQ_waits aQ_waitsFor aQ_seen aQ_goals aQ_steps aQ_looked aQ_under aQ_taken aQ_news aQ_order aQ_there aQ_back Q_thrown_55 Q_all_55 Q_statements Q_hitKind Q_hits Q_tries Q_takenAll Q_takenFirst Q_kinds_55 Q_which_55 Q_firsts_55 Q_seconds_55 Q_thirds_55 Q_nexts_55 Q_heads_55 Q_names_55 Q_variables_55 Q_holes_55 Q_sizes_55 Q_places_55) H → va_D A (wv_44 cI cJ cZ aQ aQ_kinds aQ_which aQ_firsts aQ_seconds aQ_thirds aQ_nexts aQ_heads aQ_names aQ_variables aQ_holes aQ_sizes aQ_places aQ_conclusions aQ_premises aQ_counts aQ_hitOf aQ_hitOne aQ_hitTwo aQ_hitTerms aQ_image aQ_bound aQ_waits aQ_waitsFor aQ_seen aQ_goals aQ_steps aQ_looked aQ_under aQ_taken aQ_news aQ_order aQ_there aQ_back Q_thrown_55 Q_all_55 Q_statements Q_hitKind Q_hits Q_tries Q_takenAll Q_takenFirst Q_kinds_55 Q_which_55 Q_firsts_55 Q_seconds_55 Q_thirds_55 Q_nexts_55 Q_heads_55 Q_names_55 Q_variables_55 Q_holes_55 Q_sizes_55 Q_places_55) → va_S A s.heap H locs → ∀ (ls : Array Slot), lv_has ls 8 [(0, .ref aQ), (1, .int x1_55), (2, .int x2_55), (3, .int x3_55), (4, .int x4_55), (5, .int x5_55)] → f_Q_name_B55 Q_thrown_55 Q_all_55 Q_kinds_55 Q_which_55 Q_firsts_55 Q_seconds_55 Q_thirds_55 Q_nexts_55 Q_heads_55 Q_names_55 Q_variables_55 Q_holes_55 Q_sizes_55 Q_places_55 x1_55 x2_55 x3_55 x4_55 x5_55 = some o → W p l e (headSpec (ws_Q_name) rm_Q_name).room s m ([.ref aQ, .int p0, .int p1, .int p2, .int p3] : List Value).toArray below meth c H locs 0 0 (MQ below (WQ D vwCl (some (.int o.1)) (wv_44 cI cJ cZ aQ aQ_kinds aQ_which aQ_firsts aQ_seconds aQ_thirds aQ_nexts aQ_heads aQ_names aQ_variables aQ_holes aQ_sizes aQ_places aQ_conclusions aQ_premises aQ_counts aQ_hitOf aQ_hitOne aQ_hitTwo aQ_hitTerms aQ_image aQ_bound aQ_waits aQ_waitsFor aQ_seen aQ_goals aQ_steps aQ_looked aQ_under aQ_taken aQ_news aQ_order aQ_there aQ_back o.2.1 o.2.2.1 Q_statements Q_hitKind Q_hits Q_tries Q_takenAll Q_takenFirst o.2.2.2.1 o.2.2.2.2.1 o.2.2.2.2.2.1 o.2.2.2.2.2.2.1 o.2.2.2.2.2.2.2.1 o.2.2.2.2.2.2.2.2.1 o.2.2.2.2.2.2.2.2.2.1 o.2.2.2.2.2.2.2.2.2.2.1 o.2.2.2.2.2.2.2.2.2.2.2.1 o.2.2.2.2.2.2.2.2.2.2.2.2.1 o.2.2.2.2.2.2.2.2.2.2.2.2.2.1 o.2.2.2.2.2.2.2.2.2.2.2.2.2.2) A) ([.ref aQ, .int p0, .int p1, .int p2, .int p3] : List Value).toArray s 0 0 A) (F0 m 55 ls []) := by
    intro Q_thrown_55 Q_all_55 Q_kinds_55 Q_which_55 Q_firsts_55 Q_seconds_55 Q_thirds_55 Q_nexts_55 Q_heads_55 Q_names_55 Q_variables_55 Q_holes_55 Q_sizes_55 Q_places_55 x1_55 x2_55 x3_55 x4_55 x5_55 H locs hP hD hS ls hl hf
    rw [f_Q_name_B55] at hf
    refine lv_iload hx hb d_Q_name_55 (lv_at hl 5 rfl) ?_
    refine lv_iconst (v := 2) hx hb d_Q_name_57 (by decide) ?_
    refine lv_icmp_lt (tgt := 69) hx hb d_Q_name_58 (by decide) (fun c9 => ?_) (fun c9 => ?_)
    · have hf := ite_t c9 hf
      exact hB69 _ _ _ _ _ _ _ _ _ _ _ _ _ _ _ _ _ _ _ _ _ hP hD hS _ (lv_sub hl [0, 1, 2, 3, 4, 5] rfl) hf
    · have hf := ite_f c9 hf
      refine lv_aload_n hx hb d_Q_name_61 rfl (lv_at hl 0 rfl) ?_
      refine lv_iload_n hx hb d_Q_name_62 rfl (lv_at hl 3 rfl) ?_
      obtain ⟨r10, hr10, hf⟩ := of_bd hf
      refine rd_call (va_runV (As := [.int x3_55]) (rest := []) ⟨hx, hb, hml, hown, hts⟩ (c_Q_isTerm l D cI cJ cZ aQ aQ_kinds aQ_which aQ_firsts aQ_seconds aQ_thirds aQ_nexts aQ_heads aQ_names aQ_variables aQ_holes aQ_sizes aQ_places aQ_conclusions aQ_premises aQ_counts aQ_hitOf aQ_hitOne aQ_hitTwo aQ_hitTerms aQ_image aQ_bound aQ_waits aQ_waitsFor aQ_seen aQ_goals aQ_steps aQ_looked aQ_under aQ_taken aQ_news aQ_order aQ_there aQ_back Q_thrown_55 Q_all_55 Q_statements Q_hitKind Q_hits Q_tries Q_takenAll Q_takenFirst x3_55 r10 hr10) (bigV 1 hts k4_199 k4_201 ks_Q_isTerm k1_9 k4_202 rfl rfl hd_Q_isTerm ⟨Nat.le_of_ble_eq_true rfl, Nat.le_of_ble_eq_true rfl⟩) (rd_preV hK hP [0] rfl 0 rfl rfl rfl) rfl rfl hl.1 rfl (lv_room (Nat.le_of_ble_eq_true rfl)) d_Q_name_63 ⟨Nat.le_of_ble_eq_true rfl, Nat.le_of_ble_eq_true rfl⟩) ?_
      refine lv_if_eq (tgt := 88) hx hb d_Q_name_66 (by decide) (fun c11 => ?_) (fun c11 => ?_)
      · have hf := ite_t c11 hf
        refine lv_iconst (v := 0) hx hb d_Q_name_88 (by decide) ?_
        exact hB89 _ _ _ _ _ _ _ _ _ _ _ _ _ _ _ _ _ _ _ _ _ _ hP hD hS _ (lv_sub hl [0, 1, 2, 3, 4, 5] rfl) hf
      · have hf := ite_f c11 hf
        exact hB69 _ _ _ _ _ _ _ _ _ _ _ _ _ _ _ _ _ _ _ _ _ hP hD hS _ (lv_sub hl [0, 1, 2, 3, 4, 5] rfl) hf
  have hB29 : ∀ (Q_thrown_29 : Int32) (Q_all_29 : Int32) (Q_kinds_29 : (Nat → Int32)) (Q_which_29 : (Nat → Int32)) (Q_firsts_29 : (Nat → Int32)) (Q_seconds_29 : (Nat → Int32)) (Q_thirds_29 : (Nat → Int32)) (Q_nexts_29 : (Nat → Int32)) (Q_heads_29 : (Nat → Int32)) (Q_names_29 : (Nat → Int32)) (Q_variables_29 : (Nat → Int32)) (Q_holes_29 : (Nat → Int32)) (Q_sizes_29 : (Nat → Int32)) (Q_places_29 : (Nat → Int32)) (x1_29 : Int32) (x2_29 : Int32) (x3_29 : Int32) (x4_29 : Int32) (s0_29 : Int32), ∀ (H : Heap) (locs : List Loc), va_P D vwCl (wv_44 cI cJ cZ aQ aQ_kinds aQ_which aQ_firsts aQ_seconds aQ_thirds aQ_nexts aQ_heads aQ_names aQ_variables aQ_holes aQ_sizes aQ_places aQ_conclusions aQ_premises aQ_counts aQ_hitOf aQ_hitOne aQ_hitTwo aQ_hitTerms aQ_image aQ_bound aQ_waits aQ_waitsFor aQ_seen aQ_goals aQ_steps aQ_looked aQ_under aQ_taken aQ_news aQ_order aQ_there aQ_back Q_thrown_29 Q_all_29 Q_statements Q_hitKind Q_hits Q_tries Q_takenAll Q_takenFirst Q_kinds_29 Q_which_29 Q_firsts_29 Q_seconds_29 Q_thirds_29 Q_nexts_29 Q_heads_29 Q_names_29 Q_variables_29 Q_holes_29 Q_sizes_29 Q_places_29) H → va_D A (wv_44 cI cJ cZ aQ aQ_kinds aQ_which aQ_firsts aQ_seconds aQ_thirds aQ_nexts aQ_heads aQ_names aQ_variables aQ_holes aQ_sizes aQ_places aQ_conclusions aQ_premises aQ_counts aQ_hitOf aQ_hitOne aQ_hitTwo aQ_hitTerms aQ_image aQ_bound aQ_waits aQ_waitsFor aQ_seen aQ_goals aQ_steps aQ_looked aQ_under aQ_taken aQ_news aQ_order aQ_there aQ_back Q_thrown_29 Q_all_29 Q_statements Q_hitKind Q_hits Q_tries Q_takenAll Q_takenFirst Q_kinds_29 Q_which_29 Q_firsts_29 Q_seconds_29 Q_thirds_29 Q_nexts_29 Q_heads_29 Q_names_29 Q_variables_29 Q_holes_29 Q_sizes_29 Q_places_29) → va_S A s.heap H locs → ∀ (ls : Array Slot), lv_has ls 8 [(0, .ref aQ), (1, .int x1_29), (2, .int x2_29), (3, .int x3_29), (4, .int x4_29)] → f_Q_name_B29 Q_thrown_29 Q_all_29 Q_kinds_29 Q_which_29 Q_firsts_29 Q_seconds_29 Q_thirds_29 Q_nexts_29 Q_heads_29 Q_names_29 Q_variables_29 Q_holes_29 Q_sizes_29 Q_places_29 x1_29 x2_29 x3_29 x4_29 s0_29 = some o → W p l e (headSpec (ws_Q_name) rm_Q_name).room s m ([.ref aQ, .int p0, .int p1, .int p2, .int p3] : List Value).toArray below meth c H locs 0 0 (MQ below (WQ D vwCl (some (.int o.1)) (wv_44 cI cJ cZ aQ aQ_kinds aQ_which aQ_firsts aQ_seconds aQ_thirds aQ_nexts aQ_heads aQ_names aQ_variables aQ_holes aQ_sizes aQ_places aQ_conclusions aQ_premises aQ_counts aQ_hitOf aQ_hitOne aQ_hitTwo aQ_hitTerms aQ_image aQ_bound aQ_waits aQ_waitsFor aQ_seen aQ_goals aQ_steps aQ_looked aQ_under aQ_taken aQ_news aQ_order aQ_there aQ_back o.2.1 o.2.2.1 Q_statements Q_hitKind Q_hits Q_tries Q_takenAll Q_takenFirst o.2.2.2.1 o.2.2.2.2.1 o.2.2.2.2.2.1 o.2.2.2.2.2.2.1 o.2.2.2.2.2.2.2.1 o.2.2.2.2.2.2.2.2.1 o.2.2.2.2.2.2.2.2.2.1 o.2.2.2.2.2.2.2.2.2.2.1 o.2.2.2.2.2.2.2.2.2.2.2.1 o.2.2.2.2.2.2.2.2.2.2.2.2.1 o.2.2.2.2.2.2.2.2.2.2.2.2.2.1 o.2.2.2.2.2.2.2.2.2.2.2.2.2.2) A) ([.ref aQ, .int p0, .int p1, .int p2, .int p3] : List Value).toArray s 0 0 A) (F0 m 29 ls [.int s0_29]) := by
    intro Q_thrown_29 Q_all_29 Q_kinds_29 Q_which_29 Q_firsts_29 Q_seconds_29 Q_thirds_29 Q_nexts_29 Q_heads_29 Q_names_29 Q_variables_29 Q_holes_29 Q_sizes_29 Q_places_29 x1_29 x2_29 x3_29 x4_29 s0_29 H locs hP hD hS ls hl hf
    rw [f_Q_name_B29] at hf
    refine lv_istore (lv' := [(5, .int s0_29), (0, .ref aQ), (1, .int x1_29), (2, .int x2_29), (3, .int x3_29), (4, .int x4_29)]) hx hb d_Q_name_29 hl (by decide) rfl (fun ls hl => ?_)
    refine lv_iload_n hx hb d_Q_name_31 rfl (lv_at hl 2 rfl) ?_
    refine lv_if_lt (tgt := 88) hx hb d_Q_name_32 (by decide) (fun c4 => ?_) (fun c4 => ?_)
    · have hf := ite_t c4 hf
      refine lv_iconst (v := 0) hx hb d_Q_name_88 (by decide) ?_
      exact hB89 _ _ _ _ _ _ _ _ _ _ _ _ _ _ _ _ _ _ _ _ _ _ hP hD hS _ (lv_sub hl [1, 2, 3, 4, 5, 0] rfl) hf
    · have hf := ite_f c4 hf
      refine lv_iload_n hx hb d_Q_name_35 rfl (lv_at hl 2 rfl) ?_
      refine lv_bipush (v := 30) hx hb d_Q_name_36 (by decide) ?_
      refine lv_icmp_ge (tgt := 88) hx hb d_Q_name_38 (by decide) (fun c5 => ?_) (fun c5 => ?_)
      · have hf := ite_t c5 hf
        refine lv_iconst (v := 0) hx hb d_Q_name_88 (by decide) ?_
        exact hB89 _ _ _ _ _ _ _ _ _ _ _ _ _ _ _ _ _ _ _ _ _ _ hP hD hS _ (lv_sub hl [1, 2, 3, 4, 5, 0] rfl) hf
      · have hf := ite_f c5 hf
        refine lv_iload hx hb d_Q_name_41 (lv_at hl 0 rfl) ?_
        refine lv_iconst (v := 1) hx hb d_Q_name_43 (by decide) ?_
        refine lv_icmp_lt (tgt := 55) hx hb d_Q_name_44 (by decide) (fun c6 => ?_) (fun c6 => ?_)
        · have hf := ite_t c6 hf
          exact hB55 _ _ _ _ _ _ _ _ _ _ _ _ _ _ _ _ _ _ _ _ _ hP hD hS _ (lv_sub hl [1, 2, 3, 4, 5, 0] rfl) hf
        · have hf := ite_f c6 hf
          refine lv_aload_n hx hb d_Q_name_47 rfl (lv_at hl 1 rfl) ?_
          refine lv_iload_n hx hb d_Q_name_48 rfl (lv_at hl 3 rfl) ?_
          obtain ⟨r7, hr7, hf⟩ := of_bd hf
          refine rd_call (va_runV (As := [.int x2_29]) (rest := []) ⟨hx, hb, hml, hown, hts⟩ (c_Q_isTerm l D cI cJ cZ aQ aQ_kinds aQ_which aQ_firsts aQ_seconds aQ_thirds aQ_nexts aQ_heads aQ_names aQ_variables aQ_holes aQ_sizes aQ_places aQ_conclusions aQ_premises aQ_counts aQ_hitOf aQ_hitOne aQ_hitTwo aQ_hitTerms aQ_image aQ_bound aQ_waits aQ_waitsFor aQ_seen aQ_goals aQ_steps aQ_looked aQ_under aQ_taken aQ_news aQ_order aQ_there aQ_back Q_thrown_29 Q_all_29 Q_statements Q_hitKind Q_hits Q_tries Q_takenAll Q_takenFirst x2_29 r7 hr7) (bigV 1 hts k4_199 k4_201 ks_Q_isTerm k1_9 k4_202 rfl rfl hd_Q_isTerm ⟨Nat.le_of_ble_eq_true rfl, Nat.le_of_ble_eq_true rfl⟩) (rd_preV hK hP [0] rfl 0 rfl rfl rfl) rfl rfl hl.1 rfl (lv_room (Nat.le_of_ble_eq_true rfl)) d_Q_name_49 ⟨Nat.le_of_ble_eq_true rfl, Nat.le_of_ble_eq_true rfl⟩) ?_
          refine lv_if_eq (tgt := 88) hx hb d_Q_name_52 (by decide) (fun c8 => ?_) (fun c8 => ?_)
          · have hf := ite_t c8 hf
            refine lv_iconst (v := 0) hx hb d_Q_name_88 (by decide) ?_
            exact hB89 _ _ _ _ _ _ _ _ _ _ _ _ _ _ _ _ _ _ _ _ _ _ hP hD hS _ (lv_sub hl [1, 2, 3, 4, 5, 0] rfl) hf
          · have hf := ite_f c8 hf
            exact hB55 _ _ _ _ _ _ _ _ _ _ _ _ _ _ _ _ _ _ _ _ _ hP hD hS _ (lv_sub hl [1, 2, 3, 4, 5, 0] rfl) hf
  rw [f_Q_name] at hf
  refine lv_iload_n hx hb d_Q_name_0 rfl (lv_at hl 2 rfl) ?_
  refine lv_iconst (v := -1) hx hb d_Q_name_1 (by decide) ?_
  refine lv_icmp_ne (tgt := 9) hx hb d_Q_name_2 (by decide) (fun c1 => ?_) (fun c1 => ?_)
  · have hf := ite_f c1 hf
    refine lv_iload_n hx hb d_Q_name_9 rfl (lv_at hl 3 rfl) ?_
    refine lv_iconst (v := -1) hx hb d_Q_name_10 (by decide) ?_
    refine lv_icmp_ne (tgt := 18) hx hb d_Q_name_11 (by decide) (fun c2 => ?_) (fun c2 => ?_)
    · have hf := ite_f c2 hf
      refine lv_iload hx hb d_Q_name_18 (lv_at hl 4 rfl) ?_
      refine lv_iconst (v := -1) hx hb d_Q_name_20 (by decide) ?_
      refine lv_icmp_ne (tgt := 28) hx hb d_Q_name_21 (by decide) (fun c3 => ?_) (fun c3 => ?_)
      · have hf := ite_f c3 hf
        refine lv_iconst (v := 3) hx hb d_Q_name_28 (by decide) ?_
        exact hB29 _ _ _ _ _ _ _ _ _ _ _ _ _ _ _ _ _ _ _ _ _ hP hD hS _ (lv_sub hl [0, 1, 2, 3, 4] rfl) hf
      · have hf := ite_t c3 hf
        refine lv_iconst (v := 2) hx hb d_Q_name_24 (by decide) ?_
        refine lv_goto (tgt := 29) hx hb d_Q_name_25 (by decide) ?_
        exact hB29 _ _ _ _ _ _ _ _ _ _ _ _ _ _ _ _ _ _ _ _ _ hP hD hS _ (lv_sub hl [0, 1, 2, 3, 4] rfl) hf
    · have hf := ite_t c2 hf
      refine lv_iconst (v := 1) hx hb d_Q_name_14 (by decide) ?_
      refine lv_goto (tgt := 29) hx hb d_Q_name_15 (by decide) ?_
      exact hB29 _ _ _ _ _ _ _ _ _ _ _ _ _ _ _ _ _ _ _ _ _ hP hD hS _ (lv_sub hl [0, 1, 2, 3, 4] rfl) hf
  · have hf := ite_t c1 hf
    refine lv_iconst (v := 0) hx hb d_Q_name_5 (by decide) ?_
    refine lv_goto (tgt := 29) hx hb d_Q_name_6 (by decide) ?_
    exact hB29 _ _ _ _ _ _ _ _ _ _ _ _ _ _ _ _ _ _ _ _ _ hP hD hS _ (lv_sub hl [0, 1, 2, 3, 4] rfl) hf
def f_Q_leaf_B43 (Q_thrown_43 : Int32) (Q_all_43 : Int32) (Q_kinds_43 : (Nat → Int32)) (Q_which_43 : (Nat → Int32)) (Q_firsts_43 : (Nat → Int32)) (Q_seconds_43 : (Nat → Int32)) (Q_thirds_43 : (Nat → Int32)) (Q_nexts_43 : (Nat → Int32)) (Q_heads_43 : (Nat → Int32)) (Q_names_43 : (Nat → Int32)) (Q_variables_43 : (Nat → Int32)) (Q_holes_43 : (Nat → Int32)) (Q_sizes_43 : (Nat → Int32)) (x1_43 : Int32) (s2_43 : Int32) : Option (Int32 × Int32 × Int32 × (Nat → Int32) × (Nat → Int32) × (Nat → Int32) × (Nat → Int32) × (Nat → Int32) × (Nat → Int32) × (Nat → Int32) × (Nat → Int32) × (Nat → Int32) × (Nat → Int32) × (Nat → Int32)) :=
  (f_Q_make Q_all_43 Q_kinds_43 Q_which_43 Q_firsts_43 Q_seconds_43 Q_thirds_43 Q_nexts_43 Q_heads_43 Q_names_43 Q_variables_43 Q_holes_43 Q_sizes_43 s2_43 x1_43 (-1 : Int32) (-1 : Int32) (-1 : Int32) (100 : Int32)).bind fun r7 =>
  (f_Q_made Q_thrown_43 r7.1 (2 : Int32)).bind fun r8 =>
  some (r8.1, r8.2, r7.2.1, r7.2.2.1, r7.2.2.2.1, r7.2.2.2.2.1, r7.2.2.2.2.2.1, r7.2.2.2.2.2.2.1, r7.2.2.2.2.2.2.2.1, r7.2.2.2.2.2.2.2.2.1, r7.2.2.2.2.2.2.2.2.2.1, r7.2.2.2.2.2.2.2.2.2.2.1, r7.2.2.2.2.2.2.2.2.2.2.2.1, r7.2.2.2.2.2.2.2.2.2.2.2.2)
def f_Q_leaf_B24 (Q_thrown_24 : Int32) (Q_all_24 : Int32) (Q_kinds_24 : (Nat → Int32)) (Q_which_24 : (Nat → Int32)) (Q_firsts_24 : (Nat → Int32)) (Q_seconds_24 : (Nat → Int32)) (Q_thirds_24 : (Nat → Int32)) (Q_nexts_24 : (Nat → Int32)) (Q_heads_24 : (Nat → Int32)) (Q_names_24 : (Nat → Int32)) (Q_variables_24 : (Nat → Int32)) (Q_holes_24 : (Nat → Int32)) (Q_sizes_24 : (Nat → Int32)) (x1_24 : Int32) (x2_24 : Int32) (s1_24 : Int32) : Option (Int32 × Int32 × Int32 × (Nat → Int32) × (Nat → Int32) × (Nat → Int32) × (Nat → Int32) × (Nat → Int32) × (Nat → Int32) × (Nat → Int32) × (Nat → Int32) × (Nat → Int32) × (Nat → Int32) × (Nat → Int32)) :=
  (f_Q_refuses Q_thrown_24 s1_24).bind fun r4 =>
  if r4.1 = 0 then
    if x2_24 = 0 then
      f_Q_leaf_B43 r4.2 Q_all_24 Q_kinds_24 Q_which_24 Q_firsts_24 Q_seconds_24 Q_thirds_24 Q_nexts_24 Q_heads_24 Q_names_24 Q_variables_24 Q_holes_24 Q_sizes_24 x1_24 (1 : Int32)
    else
      f_Q_leaf_B43 r4.2 Q_all_24 Q_kinds_24 Q_which_24 Q_firsts_24 Q_seconds_24 Q_thirds_24 Q_nexts_24 Q_heads_24 Q_names_24 Q_variables_24 Q_holes_24 Q_sizes_24 x1_24 (2 : Int32)
  else
    some ((0 : Int32), r4.2, Q_all_24, Q_kinds_24, Q_which_24, Q_firsts_24, Q_seconds_24, Q_thirds_24, Q_nexts_24, Q_heads_24, Q_names_24, Q_variables_24, Q_holes_24, Q_sizes_24)
def f_Q_leaf_B16 (Q_thrown_16 : Int32) (Q_all_16 : Int32) (Q_kinds_16 : (Nat → Int32)) (Q_which_16 : (Nat → Int32)) (Q_firsts_16 : (Nat → Int32)) (Q_seconds_16 : (Nat → Int32)) (Q_thirds_16 : (Nat → Int32)) (Q_nexts_16 : (Nat → Int32)) (Q_heads_16 : (Nat → Int32)) (Q_names_16 : (Nat → Int32)) (Q_variables_16 : (Nat → Int32)) (Q_holes_16 : (Nat → Int32)) (Q_sizes_16 : (Nat → Int32)) (x1_16 : Int32) (x2_16 : Int32) (s1_16 : Int32) (s2_16 : Int32) : Option (Int32 × Int32 × Int32 × (Nat → Int32) × (Nat → Int32) × (Nat → Int32) × (Nat → Int32) × (Nat → Int32) × (Nat → Int32) × (Nat → Int32) × (Nat → Int32) × (Nat → Int32) × (Nat → Int32) × (Nat → Int32)) :=
  if s1_16 < s2_16 then
    f_Q_leaf_B24 Q_thrown_16 Q_all_16 Q_kinds_16 Q_which_16 Q_firsts_16 Q_seconds_16 Q_thirds_16 Q_nexts_16 Q_heads_16 Q_names_16 Q_variables_16 Q_holes_16 Q_sizes_16 x1_16 x2_16 (0 : Int32)
  else
    f_Q_leaf_B24 Q_thrown_16 Q_all_16 Q_kinds_16 Q_which_16 Q_firsts_16 Q_seconds_16 Q_thirds_16 Q_nexts_16 Q_heads_16 Q_names_16 Q_variables_16 Q_holes_16 Q_sizes_16 x1_16 x2_16 (1 : Int32)
def f_Q_leaf (Q_thrown : Int32) (Q_all : Int32) (Q_kinds : (Nat → Int32)) (Q_which : (Nat → Int32)) (Q_firsts : (Nat → Int32)) (Q_seconds : (Nat → Int32)) (Q_thirds : (Nat → Int32)) (Q_nexts : (Nat → Int32)) (Q_heads : (Nat → Int32)) (Q_names : (Nat → Int32)) (Q_variables : (Nat → Int32)) (Q_holes : (Nat → Int32)) (Q_sizes : (Nat → Int32)) (p0 : Int32) (p1 : Int32) : Option (Int32 × Int32 × Int32 × (Nat → Int32) × (Nat → Int32) × (Nat → Int32) × (Nat → Int32) × (Nat → Int32) × (Nat → Int32) × (Nat → Int32) × (Nat → Int32) × (Nat → Int32) × (Nat → Int32) × (Nat → Int32)) :=
  if p0 < 0 then
    f_Q_leaf_B24 Q_thrown Q_all Q_kinds Q_which Q_firsts Q_seconds Q_thirds Q_nexts Q_heads Q_names Q_variables Q_holes Q_sizes p0 p1 (1 : Int32)
  else
    if p1 = 0 then
      f_Q_leaf_B16 Q_thrown Q_all Q_kinds Q_which Q_firsts Q_seconds Q_thirds Q_nexts Q_heads Q_names Q_variables Q_holes Q_sizes p0 p1 p0 (8 : Int32)
    else
      f_Q_leaf_B16 Q_thrown Q_all Q_kinds Q_which Q_firsts Q_seconds Q_thirds Q_nexts Q_heads Q_names Q_variables Q_holes Q_sizes p0 p1 p0 (4 : Int32)
abbrev rm_Q_leaf : Room := { frames := 3, cells := 0, slots := 0, locals := 73 }
set_option maxHeartbeats 4000000 in
set_option maxRecDepth 100000 in
theorem c_Q_leaf (l : Launch) (D : va_G) (cI cJ cZ : ClassId) (aQ aQ_kinds aQ_which aQ_firsts aQ_seconds aQ_thirds aQ_nexts aQ_heads aQ_names aQ_variables aQ_holes aQ_sizes aQ_places aQ_conclusions aQ_premises aQ_counts aQ_hitOf aQ_hitOne aQ_hitTwo aQ_hitTerms aQ_image aQ_bound aQ_waits aQ_waitsFor aQ_seen aQ_goals aQ_steps aQ_looked aQ_under aQ_taken aQ_news aQ_order aQ_there aQ_back : Nat) (sz : Nat) (Q_thrown : Int32) (Q_all : Int32) (Q_statements : Int32) (Q_hitKind : Int32) (Q_hits : Int32) (Q_tries : Int32) (Q_takenAll : Int32) (Q_takenFirst : Int32) (Q_kinds : (Nat → Int32)) (Q_which : (Nat → Int32)) (Q_firsts : (Nat → Int32)) (Q_seconds : (Nat → Int32)) (Q_thirds : (Nat → Int32)) (Q_nexts : (Nat → Int32)) (Q_heads : (Nat → Int32)) (Q_names : (Nat → Int32)) (Q_variables : (Nat → Int32)) (Q_holes : (Nat → Int32)) (Q_sizes : (Nat → Int32)) (p0 : Int32) (p1 : Int32) (o : Int32 × Int32 × Int32 × (Nat → Int32) × (Nat → Int32) × (Nat → Int32) × (Nat → Int32) × (Nat → Int32) × (Nat → Int32) × (Nat → Int32) × (Nat → Int32) × (Nat → Int32) × (Nat → Int32) × (Nat → Int32)) (hf : f_Q_leaf Q_thrown Q_all Q_kinds Q_which Q_firsts Q_seconds Q_thirds Q_nexts Q_heads Q_names Q_variables Q_holes Q_sizes p0 p1 = some o) : Met l y_Q_leaf (ws_Q_leaf) rm_Q_leaf (WPc D vwCl cI cJ cZ [.ref aQ, .int p0, .int p1] (wv_43 cI cJ cZ aQ aQ_kinds aQ_which aQ_firsts aQ_seconds aQ_thirds aQ_nexts aQ_heads aQ_names aQ_variables aQ_holes aQ_sizes aQ_places aQ_conclusions aQ_premises aQ_counts aQ_hitOf aQ_hitOne aQ_hitTwo aQ_hitTerms aQ_image aQ_bound aQ_waits aQ_waitsFor aQ_seen aQ_goals aQ_steps aQ_looked aQ_under aQ_taken aQ_news aQ_order aQ_there aQ_back Q_thrown Q_all Q_statements Q_hitKind Q_hits Q_tries Q_takenAll Q_takenFirst Q_kinds Q_which Q_firsts Q_seconds Q_thirds Q_nexts Q_heads Q_names Q_variables Q_holes Q_sizes) sz) (WQ D vwCl (some (.int o.1)) (wv_43 cI cJ cZ aQ aQ_kinds aQ_which aQ_firsts aQ_seconds aQ_thirds aQ_nexts aQ_heads aQ_names aQ_variables aQ_holes aQ_sizes aQ_places aQ_conclusions aQ_premises aQ_counts aQ_hitOf aQ_hitOne aQ_hitTwo aQ_hitTerms aQ_image aQ_bound aQ_waits aQ_waitsFor aQ_seen aQ_goals aQ_steps aQ_looked aQ_under aQ_taken aQ_news aQ_order aQ_there aQ_back o.2.1 o.2.2.1 Q_statements Q_hitKind Q_hits Q_tries Q_takenAll Q_takenFirst o.2.2.2.1 o.2.2.2.2.1 o.2.2.2.2.2.1 o.2.2.2.2.2.2.1 o.2.2.2.2.2.2.2.1 o.2.2.2.2.2.2.2.2.1 o.2.2.2.2.2.2.2.2.2.1 o.2.2.2.2.2.2.2.2.2.2.1 o.2.2.2.2.2.2.2.2.2.2.2.1 o.2.2.2.2.2.2.2.2.2.2.2.2.1 o.2.2.2.2.2.2.2.2.2.2.2.2.2) (va_A (wv_43 cI cJ cZ aQ aQ_kinds aQ_which aQ_firsts aQ_seconds aQ_thirds aQ_nexts aQ_heads aQ_names aQ_variables aQ_holes aQ_sizes aQ_places aQ_conclusions aQ_premises aQ_counts aQ_hitOf aQ_hitOne aQ_hitTwo aQ_hitTerms aQ_image aQ_bound aQ_waits aQ_waitsFor aQ_seen aQ_goals aQ_steps aQ_looked aQ_under aQ_taken aQ_news aQ_order aQ_there aQ_back Q_thrown Q_all Q_statements Q_hitKind Q_hits Q_tries Q_takenAll Q_takenFirst Q_kinds Q_which Q_firsts Q_seconds Q_thirds Q_nexts Q_heads Q_names Q_variables Q_holes Q_sizes) sz)) 0 0 (va_A (wv_43 cI cJ cZ aQ aQ_kinds aQ_which aQ_firsts aQ_seconds aQ_thirds aQ_nexts aQ_heads aQ_names aQ_variables aQ_holes aQ_sizes aQ_places aQ_conclusions aQ_premises aQ_counts aQ_hitOf aQ_hitOne aQ_hitTwo aQ_hitTerms aQ_image aQ_bound aQ_waits aQ_waitsFor aQ_seen aQ_goals aQ_steps aQ_looked aQ_under aQ_taken aQ_news aQ_order aQ_there aQ_back Q_thrown Q_all Q_statements Q_hitKind Q_hits Q_tries Q_takenAll Q_takenFirst Q_kinds Q_which Q_firsts Q_seconds Q_thirds Q_nexts Q_heads Q_names Q_variables Q_holes Q_sizes) sz) := by
  refine Met.ofW (cc := b_Q_leaf) (maxL := 3) (ret := (some .int)) (by decide) rfl ?_
  intro p e s m args below meth c s₁ B hml hv
  obtain ⟨rfl, rfl, hP, hK, hD0⟩ := hv
  have hx := B.exec
  have hb := B.bytes
  have hr := B.returns
  have hts : ∀ w ∈ BG, w.before _ s = true := fun w h => atoms_spec (ws := (ws_Q_leaf)) B.pre w (List.mem_cons_of_mem _ h)
  have hown : s.vm.findClass RR_Q = some m.cls := findClass_of_methodNamed B.named
  have hlocks := B.notSynchronized
  have hD := hD0.self (sz := s.heap.size)
  have hA : ∀ q : Nat, s.heap.size ≤ q → va_A (wv_43 cI cJ cZ aQ aQ_kinds aQ_which aQ_firsts aQ_seconds aQ_thirds aQ_nexts aQ_heads aQ_names aQ_variables aQ_holes aQ_sizes aQ_places aQ_conclusions aQ_premises aQ_counts aQ_hitOf aQ_hitOne aQ_hitTwo aQ_hitTerms aQ_image aQ_bound aQ_waits aQ_waitsFor aQ_seen aQ_goals aQ_steps aQ_looked aQ_under aQ_taken aQ_news aQ_order aQ_there aQ_back Q_thrown Q_all Q_statements Q_hitKind Q_hits Q_tries Q_takenAll Q_takenFirst Q_kinds Q_which Q_firsts Q_seconds Q_thirds Q_nexts Q_heads Q_names Q_variables Q_holes Q_sizes) s.heap.size q := fun q h => Or.inr h
  have hS : va_S (va_A (wv_43 cI cJ cZ aQ aQ_kinds aQ_which aQ_firsts aQ_seconds aQ_thirds aQ_nexts aQ_heads aQ_names aQ_variables aQ_holes aQ_sizes aQ_places aQ_conclusions aQ_premises aQ_counts aQ_hitOf aQ_hitOne aQ_hitTwo aQ_hitTerms aQ_image aQ_bound aQ_waits aQ_waitsFor aQ_seen aQ_goals aQ_steps aQ_looked aQ_under aQ_taken aQ_news aQ_order aQ_there aQ_back Q_thrown Q_all Q_statements Q_hitKind Q_hits Q_tries Q_takenAll Q_takenFirst Q_kinds Q_which Q_firsts Q_seconds Q_thirds Q_nexts Q_heads Q_names Q_variables Q_holes Q_sizes) s.heap.size) s.heap s.heap [] := va_S.rf
  generalize va_A (wv_43 cI cJ cZ aQ aQ_kinds aQ_which aQ_firsts aQ_seconds aQ_thirds aQ_nexts aQ_heads aQ_names aQ_variables aQ_holes aQ_sizes aQ_places aQ_conclusions aQ_premises aQ_counts aQ_hitOf aQ_hitOne aQ_hitTwo aQ_hitTerms aQ_image aQ_bound aQ_waits aQ_waitsFor aQ_seen aQ_goals aQ_steps aQ_looked aQ_under aQ_taken aQ_news aQ_order aQ_there aQ_back Q_thrown Q_all Q_statements Q_hitKind Q_hits Q_tries Q_takenAll Q_takenFirst Q_kinds Q_which Q_firsts Q_seconds Q_thirds Q_nexts Q_heads Q_names Q_variables Q_holes Q_sizes) s.heap.size = A at hD hA hS ⊢
  have hl := lv_entry ([.ref aQ, .int p0, .int p1]) (n := 3) (Nat.le_of_ble_eq_true rfl)
  rw [lg_entry_eq]
  generalize (lg_sl ([.ref aQ, .int p0, .int p1]) ++ List.replicate (3 - (lg_sl ([.ref aQ, .int p0, .int p1])).length) Slot.unset).toArray = ls at hl ⊢
  have hl : lv_has ls 3 [(0, .ref aQ), (1, .int p0), (2, .int p1)] := hl
  have hB43 : ∀ (Q_thrown_43 : Int32) (Q_all_43 : Int32) (Q_kinds_43 : (Nat → Int32)) (Q_which_43 : (Nat → Int32)) (Q_firsts_43 : (Nat → Int32)) (Q_seconds_43 : (Nat → Int32)) (Q_thirds_43 : (Nat → Int32)) (Q_nexts_43 : (Nat → Int32)) (Q_heads_43 : (Nat → Int32)) (Q_names_43 : (Nat → Int32)) (Q_variables_43 : (Nat → Int32)) (Q_holes_43 : (Nat → Int32)) (Q_sizes_43 : (Nat → Int32)) (x1_43 : Int32) (s2_43 : Int32), ∀ (H : Heap) (locs : List Loc), va_P D vwCl (wv_43 cI cJ cZ aQ aQ_kinds aQ_which aQ_firsts aQ_seconds aQ_thirds aQ_nexts aQ_heads aQ_names aQ_variables aQ_holes aQ_sizes aQ_places aQ_conclusions aQ_premises aQ_counts aQ_hitOf aQ_hitOne aQ_hitTwo aQ_hitTerms aQ_image aQ_bound aQ_waits aQ_waitsFor aQ_seen aQ_goals aQ_steps aQ_looked aQ_under aQ_taken aQ_news aQ_order aQ_there aQ_back Q_thrown_43 Q_all_43 Q_statements Q_hitKind Q_hits Q_tries Q_takenAll Q_takenFirst Q_kinds_43 Q_which_43 Q_firsts_43 Q_seconds_43 Q_thirds_43 Q_nexts_43 Q_heads_43 Q_names_43 Q_variables_43 Q_holes_43 Q_sizes_43) H → va_D A (wv_43 cI cJ cZ aQ aQ_kinds aQ_which aQ_firsts aQ_seconds aQ_thirds aQ_nexts aQ_heads aQ_names aQ_variables aQ_holes aQ_sizes aQ_places aQ_conclusions aQ_premises aQ_counts aQ_hitOf aQ_hitOne aQ_hitTwo aQ_hitTerms aQ_image aQ_bound aQ_waits aQ_waitsFor aQ_seen aQ_goals aQ_steps aQ_looked aQ_under aQ_taken aQ_news aQ_order aQ_there aQ_back Q_thrown_43 Q_all_43 Q_statements Q_hitKind Q_hits Q_tries Q_takenAll Q_takenFirst Q_kinds_43 Q_which_43 Q_firsts_43 Q_seconds_43 Q_thirds_43 Q_nexts_43 Q_heads_43 Q_names_43 Q_variables_43 Q_holes_43 Q_sizes_43) → va_S A s.heap H locs → ∀ (ls : Array Slot), lv_has ls 3 [(1, .int x1_43)] → f_Q_leaf_B43 Q_thrown_43 Q_all_43 Q_kinds_43 Q_which_43 Q_firsts_43 Q_seconds_43 Q_thirds_43 Q_nexts_43 Q_heads_43 Q_names_43 Q_variables_43 Q_holes_43 Q_sizes_43 x1_43 s2_43 = some o → W p l e (headSpec (ws_Q_leaf) rm_Q_leaf).room s m ([.ref aQ, .int p0, .int p1] : List Value).toArray below meth c H locs 0 0 (MQ below (WQ D vwCl (some (.int o.1)) (wv_43 cI cJ cZ aQ aQ_kinds aQ_which aQ_firsts aQ_seconds aQ_thirds aQ_nexts aQ_heads aQ_names aQ_variables aQ_holes aQ_sizes aQ_places aQ_conclusions aQ_premises aQ_counts aQ_hitOf aQ_hitOne aQ_hitTwo aQ_hitTerms aQ_image aQ_bound aQ_waits aQ_waitsFor aQ_seen aQ_goals aQ_steps aQ_looked aQ_under aQ_taken aQ_news aQ_order aQ_there aQ_back o.2.1 o.2.2.1 Q_statements Q_hitKind Q_hits Q_tries Q_takenAll Q_takenFirst o.2.2.2.1 o.2.2.2.2.1 o.2.2.2.2.2.1 o.2.2.2.2.2.2.1 o.2.2.2.2.2.2.2.1 o.2.2.2.2.2.2.2.2.1 o.2.2.2.2.2.2.2.2.2.1 o.2.2.2.2.2.2.2.2.2.2.1 o.2.2.2.2.2.2.2.2.2.2.2.1 o.2.2.2.2.2.2.2.2.2.2.2.2.1 o.2.2.2.2.2.2.2.2.2.2.2.2.2) A) ([.ref aQ, .int p0, .int p1] : List Value).toArray s 0 0 A) (F0 m 43 ls [.int s2_43, .ref aQ, .ref aQ]) := by
    intro Q_thrown_43 Q_all_43 Q_kinds_43 Q_which_43 Q_firsts_43 Q_seconds_43 Q_thirds_43 Q_nexts_43 Q_heads_43 Q_names_43 Q_variables_43 Q_holes_43 Q_sizes_43 x1_43 s2_43 H locs hP hD hS ls hl hf
    rw [f_Q_leaf_B43] at hf
    refine lv_iload_n hx hb d_Q_leaf_43 rfl (lv_at hl 0 rfl) ?_
    refine lv_iconst (v := -1) hx hb d_Q_leaf_44 (by decide) ?_
    refine lv_iconst (v := -1) hx hb d_Q_leaf_45 (by decide) ?_
    refine lv_iconst (v := -1) hx hb d_Q_leaf_46 (by decide) ?_
    refine lv_bipush (v := 100) hx hb d_Q_leaf_47 (by decide) ?_
    obtain ⟨r7, hr7, hf⟩ := of_bd hf
    refine wr_call (ws' := (wv_43 cI cJ cZ aQ aQ_kinds aQ_which aQ_firsts aQ_seconds aQ_thirds aQ_nexts aQ_heads aQ_names aQ_variables aQ_holes aQ_sizes aQ_places aQ_conclusions aQ_premises aQ_counts aQ_hitOf aQ_hitOne aQ_hitTwo aQ_hitTerms aQ_image aQ_bound aQ_waits aQ_waitsFor aQ_seen aQ_goals aQ_steps aQ_looked aQ_under aQ_taken aQ_news aQ_order aQ_there aQ_back Q_thrown_43 r7.2.1 Q_statements Q_hitKind Q_hits Q_tries Q_takenAll Q_takenFirst r7.2.2.1 r7.2.2.2.1 r7.2.2.2.2.1 r7.2.2.2.2.2.1 r7.2.2.2.2.2.2.1 r7.2.2.2.2.2.2.2.1 r7.2.2.2.2.2.2.2.2.1 r7.2.2.2.2.2.2.2.2.2.1 r7.2.2.2.2.2.2.2.2.2.2.1 r7.2.2.2.2.2.2.2.2.2.2.2.1 r7.2.2.2.2.2.2.2.2.2.2.2.2)) (va_runV (As := [.int s2_43, .int x1_43, .int (-1 : Int32), .int (-1 : Int32), .int (-1 : Int32), .int (100 : Int32)]) (rest := [.ref aQ]) ⟨hx, hb, hml, hown, hts⟩ (c_Q_make l D cI cJ cZ aQ aQ_kinds aQ_which aQ_firsts aQ_seconds aQ_thirds aQ_nexts aQ_heads aQ_names aQ_variables aQ_holes aQ_sizes aQ_places aQ_conclusions aQ_premises aQ_counts aQ_hitOf aQ_hitOne aQ_hitTwo aQ_hitTerms aQ_image aQ_bound aQ_waits aQ_waitsFor aQ_seen aQ_goals aQ_steps aQ_looked aQ_under aQ_taken aQ_news aQ_order aQ_there aQ_back _ Q_thrown_43 Q_all_43 Q_statements Q_hitKind Q_hits Q_tries Q_takenAll Q_takenFirst Q_kinds_43 Q_which_43 Q_firsts_43 Q_seconds_43 Q_thirds_43 Q_nexts_43 Q_heads_43 Q_names_43 Q_variables_43 Q_holes_43 Q_sizes_43 s2_43 x1_43 (-1 : Int32) (-1 : Int32) (-1 : Int32) (100 : Int32) r7 hr7) (bigV 6 hts k4_207 k4_209 ks_Q_make k1_9 k4_210 rfl rfl hd_Q_make ⟨Nat.le_of_ble_eq_true rfl, Nat.le_of_ble_eq_true rfl⟩) (wr_preV hK hP hD [0, 1, 2, 3, 4, 5, 6, 7, 8, 9, 10, 11] rfl (by decide) rfl 0 rfl rfl rfl) rfl rfl hl.1 rfl (lv_room (Nat.le_of_ble_eq_true rfl)) d_Q_leaf_49 ⟨Nat.le_of_ble_eq_true rfl, Nat.le_of_ble_eq_true rfl⟩) hP hD hS hA [0, 1, 2, 3, 4, 5, 6, 7, 8, 9, 10, 11] [] rfl rfl (by decide) (by decide) [0, 1, 2, 3, 4, 5, 6, 7, 8, 9, 10, 11] (by decide) rfl (fun H locs hP hD hS => ?_)
    refine lv_iconst (v := 2) hx hb d_Q_leaf_52 (by decide) ?_
    obtain ⟨r8, hr8, hf⟩ := of_bd hf
    refine wr_call (ws' := (wv_43 cI cJ cZ aQ aQ_kinds aQ_which aQ_firsts aQ_seconds aQ_thirds aQ_nexts aQ_heads aQ_names aQ_variables aQ_holes aQ_sizes aQ_places aQ_conclusions aQ_premises aQ_counts aQ_hitOf aQ_hitOne aQ_hitTwo aQ_hitTerms aQ_image aQ_bound aQ_waits aQ_waitsFor aQ_seen aQ_goals aQ_steps aQ_looked aQ_under aQ_taken aQ_news aQ_order aQ_there aQ_back r8.2 r7.2.1 Q_statements Q_hitKind Q_hits Q_tries Q_takenAll Q_takenFirst r7.2.2.1 r7.2.2.2.1 r7.2.2.2.2.1 r7.2.2.2.2.2.1 r7.2.2.2.2.2.2.1 r7.2.2.2.2.2.2.2.1 r7.2.2.2.2.2.2.2.2.1 r7.2.2.2.2.2.2.2.2.2.1 r7.2.2.2.2.2.2.2.2.2.2.1 r7.2.2.2.2.2.2.2.2.2.2.2.1 r7.2.2.2.2.2.2.2.2.2.2.2.2)) (va_runV (As := [.int r7.1, .int (2 : Int32)]) (rest := []) ⟨hx, hb, hml, hown, hts⟩ (c_Q_made l D cI cJ cZ aQ aQ_kinds aQ_which aQ_firsts aQ_seconds aQ_thirds aQ_nexts aQ_heads aQ_names aQ_variables aQ_holes aQ_sizes aQ_places aQ_conclusions aQ_premises aQ_counts aQ_hitOf aQ_hitOne aQ_hitTwo aQ_hitTerms aQ_image aQ_bound aQ_waits aQ_waitsFor aQ_seen aQ_goals aQ_steps aQ_looked aQ_under aQ_taken aQ_news aQ_order aQ_there aQ_back _ Q_thrown_43 r7.2.1 Q_statements Q_hitKind Q_hits Q_tries Q_takenAll Q_takenFirst r7.1 (2 : Int32) r8 hr8) (bigV 2 hts k4_223 k4_225 ks_Q_made k1_9 k4_226 rfl rfl hd_Q_made ⟨Nat.le_of_ble_eq_true rfl, Nat.le_of_ble_eq_true rfl⟩) (wr_preV hK hP hD [0] rfl (by decide) rfl 0 rfl rfl rfl) rfl rfl hl.1 rfl (lv_room (Nat.le_of_ble_eq_true rfl)) d_Q_leaf_53 ⟨Nat.le_of_ble_eq_true rfl, Nat.le_of_ble_eq_true rfl⟩) hP hD hS hA [0] [1, 2, 3, 4, 5, 6, 7, 8, 9, 10, 11] rfl rfl (by decide) (by decide) [11, 0, 1, 2, 3, 4, 5, 6, 7, 8, 9, 10] (by decide) rfl (fun H locs hP hD hS => ?_)
    obtain rfl := Option.some.inj hf
    exact W.iret (v := r8.1) hx hb hr (fun t ht hW => ⟨rfl, by rw [ht]; exact hP, hD, hS.F ht⟩) hS.2.2 d_Q_leaf_56
  have hB24 : ∀ (Q_thrown_24 : Int32) (Q_all_24 : Int32) (Q_kinds_24 : (Nat → Int32)) (Q_which_24 : (Nat → Int32)) (Q_firsts_24 : (Nat → Int32)) (Q_seconds_24 : (Nat → Int32)) (Q_thirds_24 : (Nat → Int32)) (Q_nexts_24 : (Nat → Int32)) (Q_heads_24 : (Nat → Int32)) (Q_names_24 : (Nat → Int32)) (Q_variables_24 : (Nat → Int32)) (Q_holes_24 : (Nat → Int32)) (Q_sizes_24 : (Nat → Int32)) (x1_24 : Int32) (x2_24 : Int32) (s1_24 : Int32), ∀ (H : Heap) (locs : List Loc), va_P D vwCl (wv_43 cI cJ cZ aQ aQ_kinds aQ_which aQ_firsts aQ_seconds aQ_thirds aQ_nexts aQ_heads aQ_names aQ_variables aQ_holes aQ_sizes aQ_places aQ_conclusions aQ_premises aQ_counts aQ_hitOf aQ_hitOne aQ_hitTwo aQ_hitTerms aQ_image aQ_bound aQ_waits aQ_waitsFor aQ_seen aQ_goals aQ_steps aQ_looked aQ_under aQ_taken aQ_news aQ_order aQ_there aQ_back Q_thrown_24 Q_all_24 Q_statements Q_hitKind Q_hits Q_tries Q_takenAll Q_takenFirst Q_kinds_24 Q_which_24 Q_firsts_24 Q_seconds_24 Q_thirds_24 Q_nexts_24 Q_heads_24 Q_names_24 Q_variables_24 Q_holes_24 Q_sizes_24) H → va_D A (wv_43 cI cJ cZ aQ aQ_kinds aQ_which aQ_firsts aQ_seconds aQ_thirds aQ_nexts aQ_heads aQ_names aQ_variables aQ_holes aQ_sizes aQ_places aQ_conclusions aQ_premises aQ_counts aQ_hitOf aQ_hitOne aQ_hitTwo aQ_hitTerms aQ_image aQ_bound aQ_waits aQ_waitsFor aQ_seen aQ_goals aQ_steps aQ_looked aQ_under aQ_taken aQ_news aQ_order aQ_there aQ_back Q_thrown_24 Q_all_24 Q_statements Q_hitKind Q_hits Q_tries Q_takenAll Q_takenFirst Q_kinds_24 Q_which_24 Q_firsts_24 Q_seconds_24 Q_thirds_24 Q_nexts_24 Q_heads_24 Q_names_24 Q_variables_24 Q_holes_24 Q_sizes_24) → va_S A s.heap H locs → ∀ (ls : Array Slot), lv_has ls 3 [(0, .ref aQ), (1, .int x1_24), (2, .int x2_24)] → f_Q_leaf_B24 Q_thrown_24 Q_all_24 Q_kinds_24 Q_which_24 Q_firsts_24 Q_seconds_24 Q_thirds_24 Q_nexts_24 Q_heads_24 Q_names_24 Q_variables_24 Q_holes_24 Q_sizes_24 x1_24 x2_24 s1_24 = some o → W p l e (headSpec (ws_Q_leaf) rm_Q_leaf).room s m ([.ref aQ, .int p0, .int p1] : List Value).toArray below meth c H locs 0 0 (MQ below (WQ D vwCl (some (.int o.1)) (wv_43 cI cJ cZ aQ aQ_kinds aQ_which aQ_firsts aQ_seconds aQ_thirds aQ_nexts aQ_heads aQ_names aQ_variables aQ_holes aQ_sizes aQ_places aQ_conclusions aQ_premises aQ_counts aQ_hitOf aQ_hitOne aQ_hitTwo aQ_hitTerms aQ_image aQ_bound aQ_waits aQ_waitsFor aQ_seen aQ_goals aQ_steps aQ_looked aQ_under aQ_taken aQ_news aQ_order aQ_there aQ_back o.2.1 o.2.2.1 Q_statements Q_hitKind Q_hits Q_tries Q_takenAll Q_takenFirst o.2.2.2.1 o.2.2.2.2.1 o.2.2.2.2.2.1 o.2.2.2.2.2.2.1 o.2.2.2.2.2.2.2.1 o.2.2.2.2.2.2.2.2.1 o.2.2.2.2.2.2.2.2.2.1 o.2.2.2.2.2.2.2.2.2.2.1 o.2.2.2.2.2.2.2.2.2.2.2.1 o.2.2.2.2.2.2.2.2.2.2.2.2.1 o.2.2.2.2.2.2.2.2.2.2.2.2.2) A) ([.ref aQ, .int p0, .int p1] : List Value).toArray s 0 0 A) (F0 m 24 ls [.int s1_24, .ref aQ]) := by
    intro Q_thrown_24 Q_all_24 Q_kinds_24 Q_which_24 Q_firsts_24 Q_seconds_24 Q_thirds_24 Q_nexts_24 Q_heads_24 Q_names_24 Q_variables_24 Q_holes_24 Q_sizes_24 x1_24 x2_24 s1_24 H locs hP hD hS ls hl hf
    rw [f_Q_leaf_B24] at hf
    obtain ⟨r4, hr4, hf⟩ := of_bd hf
    refine wr_call (ws' := (wv_43 cI cJ cZ aQ aQ_kinds aQ_which aQ_firsts aQ_seconds aQ_thirds aQ_nexts aQ_heads aQ_names aQ_variables aQ_holes aQ_sizes aQ_places aQ_conclusions aQ_premises aQ_counts aQ_hitOf aQ_hitOne aQ_hitTwo aQ_hitTerms aQ_image aQ_bound aQ_waits aQ_waitsFor aQ_seen aQ_goals aQ_steps aQ_looked aQ_under aQ_taken aQ_news aQ_order aQ_there aQ_back r4.2 Q_all_24 Q_statements Q_hitKind Q_hits Q_tries Q_takenAll Q_takenFirst Q_kinds_24 Q_which_24 Q_firsts_24 Q_seconds_24 Q_thirds_24 Q_nexts_24 Q_heads_24 Q_names_24 Q_variables_24 Q_holes_24 Q_sizes_24)) (va_runV (As := [.int s1_24]) (rest := []) ⟨hx, hb, hml, hown, hts⟩ (c_Q_refuses l D cI cJ cZ aQ aQ_kinds aQ_which aQ_firsts aQ_seconds aQ_thirds aQ_nexts aQ_heads aQ_names aQ_variables aQ_holes aQ_sizes aQ_places aQ_conclusions aQ_premises aQ_counts aQ_hitOf aQ_hitOne aQ_hitTwo aQ_hitTerms aQ_image aQ_bound aQ_waits aQ_waitsFor aQ_seen aQ_goals aQ_steps aQ_looked aQ_under aQ_taken aQ_news aQ_order aQ_there aQ_back _ Q_thrown_24 Q_all_24 Q_statements Q_hitKind Q_hits Q_tries Q_takenAll Q_takenFirst s1_24 r4 hr4) (bigV 1 hts k4_203 k4_205 ks_Q_refuses k1_9 k4_206 rfl rfl hd_Q_refuses ⟨Nat.le_of_ble_eq_true rfl, Nat.le_of_ble_eq_true rfl⟩) (wr_preV hK hP hD [0] rfl (by decide) rfl 0 rfl rfl rfl) rfl rfl hl.1 rfl (lv_room (Nat.le_of_ble_eq_true rfl)) d_Q_leaf_24 ⟨Nat.le_of_ble_eq_true rfl, Nat.le_of_ble_eq_true rfl⟩) hP hD hS hA [0] [1, 2, 3, 4, 5, 6, 7, 8, 9, 10, 11] rfl rfl (by decide) (by decide) [11, 0, 1, 2, 3, 4, 5, 6, 7, 8, 9, 10] (by decide) rfl (fun H locs hP hD hS => ?_)
    refine lv_if_eq (tgt := 32) hx hb d_Q_leaf_27 (by decide) (fun c5 => ?_) (fun c5 => ?_)
    · have hf := ite_t c5 hf
      refine lv_aload_n hx hb d_Q_leaf_32 rfl (lv_at hl 0 rfl) ?_
      refine lv_aload_n hx hb d_Q_leaf_33 rfl (lv_at hl 0 rfl) ?_
      refine lv_iload_n hx hb d_Q_leaf_34 rfl (lv_at hl 2 rfl) ?_
      refine lv_if_eq (tgt := 42) hx hb d_Q_leaf_35 (by decide) (fun c6 => ?_) (fun c6 => ?_)
      · have hf := ite_t c6 hf
        refine lv_iconst (v := 1) hx hb d_Q_leaf_42 (by decide) ?_
        exact hB43 _ _ _ _ _ _ _ _ _ _ _ _ _ _ _ _ _ hP hD hS _ (lv_sub hl [1] rfl) hf
      · have hf := ite_f c6 hf
        refine lv_iconst (v := 2) hx hb d_Q_leaf_38 (by decide) ?_
        refine lv_goto (tgt := 43) hx hb d_Q_leaf_39 (by decide) ?_
        exact hB43 _ _ _ _ _ _ _ _ _ _ _ _ _ _ _ _ _ hP hD hS _ (lv_sub hl [1] rfl) hf
    · have hf := ite_f c5 hf
      refine lv_iconst (v := 0) hx hb d_Q_leaf_30 (by decide) ?_
      obtain rfl := Option.some.inj hf
      exact W.iret (v := (0 : Int32)) hx hb hr (fun t ht hW => ⟨rfl, by rw [ht]; exact hP, hD, hS.F ht⟩) hS.2.2 d_Q_leaf_31
  have hB16 : ∀ (Q_thrown_16 : Int32) (Q_all_16 : Int32) (Q_kinds_16 : (Nat → Int32)) (Q_which_16 : (Nat → Int32)) (Q_firsts_16 : (Nat → Int32)) (Q_seconds_16 : (Nat → Int32)) (Q_thirds_16 : (Nat → Int32)) (Q_nexts_16 : (Nat → Int32)) (Q_heads_16 : (Nat → Int32)) (Q_names_16 : (Nat → Int32)) (Q_variables_16 : (Nat → Int32)) (Q_holes_16 : (Nat → Int32)) (Q_sizes_16 : (Nat → Int32)) (x1_16 : Int32) (x2_16 : Int32) (s1_16 : Int32) (s2_16 : Int32), ∀ (H : Heap) (locs : List Loc), va_P D vwCl (wv_43 cI cJ cZ aQ aQ_kinds aQ_which aQ_firsts aQ_seconds aQ_thirds aQ_nexts aQ_heads aQ_names aQ_variables aQ_holes aQ_sizes aQ_places aQ_conclusions aQ_premises aQ_counts aQ_hitOf aQ_hitOne aQ_hitTwo aQ_hitTerms aQ_image aQ_bound aQ_waits aQ_waitsFor aQ_seen aQ_goals aQ_steps aQ_looked aQ_under aQ_taken aQ_news aQ_order aQ_there aQ_back Q_thrown_16 Q_all_16 Q_statements Q_hitKind Q_hits Q_tries Q_takenAll Q_takenFirst Q_kinds_16 Q_which_16 Q_firsts_16 Q_seconds_16 Q_thirds_16 Q_nexts_16 Q_heads_16 Q_names_16 Q_variables_16 Q_holes_16 Q_sizes_16) H → va_D A (wv_43 cI cJ cZ aQ aQ_kinds aQ_which aQ_firsts aQ_seconds aQ_thirds aQ_nexts aQ_heads aQ_names aQ_variables aQ_holes aQ_sizes aQ_places aQ_conclusions aQ_premises aQ_counts aQ_hitOf aQ_hitOne aQ_hitTwo aQ_hitTerms aQ_image aQ_bound aQ_waits aQ_waitsFor aQ_seen aQ_goals aQ_steps aQ_looked aQ_under aQ_taken aQ_news aQ_order aQ_there aQ_back Q_thrown_16 Q_all_16 Q_statements Q_hitKind Q_hits Q_tries Q_takenAll Q_takenFirst Q_kinds_16 Q_which_16 Q_firsts_16 Q_seconds_16 Q_thirds_16 Q_nexts_16 Q_heads_16 Q_names_16 Q_variables_16 Q_holes_16 Q_sizes_16) → va_S A s.heap H locs → ∀ (ls : Array Slot), lv_has ls 3 [(0, .ref aQ), (1, .int x1_16), (2, .int x2_16)] → f_Q_leaf_B16 Q_thrown_16 Q_all_16 Q_kinds_16 Q_which_16 Q_firsts_16 Q_seconds_16 Q_thirds_16 Q_nexts_16 Q_heads_16 Q_names_16 Q_variables_16 Q_holes_16 Q_sizes_16 x1_16 x2_16 s1_16 s2_16 = some o → W p l e (headSpec (ws_Q_leaf) rm_Q_leaf).room s m ([.ref aQ, .int p0, .int p1] : List Value).toArray below meth c H locs 0 0 (MQ below (WQ D vwCl (some (.int o.1)) (wv_43 cI cJ cZ aQ aQ_kinds aQ_which aQ_firsts aQ_seconds aQ_thirds aQ_nexts aQ_heads aQ_names aQ_variables aQ_holes aQ_sizes aQ_places aQ_conclusions aQ_premises aQ_counts aQ_hitOf aQ_hitOne aQ_hitTwo aQ_hitTerms aQ_image aQ_bound aQ_waits aQ_waitsFor aQ_seen aQ_goals aQ_steps aQ_looked aQ_under aQ_taken aQ_news aQ_order aQ_there aQ_back o.2.1 o.2.2.1 Q_statements Q_hitKind Q_hits Q_tries Q_takenAll Q_takenFirst o.2.2.2.1 o.2.2.2.2.1 o.2.2.2.2.2.1 o.2.2.2.2.2.2.1 o.2.2.2.2.2.2.2.1 o.2.2.2.2.2.2.2.2.1 o.2.2.2.2.2.2.2.2.2.1 o.2.2.2.2.2.2.2.2.2.2.1 o.2.2.2.2.2.2.2.2.2.2.2.1 o.2.2.2.2.2.2.2.2.2.2.2.2.1 o.2.2.2.2.2.2.2.2.2.2.2.2.2) A) ([.ref aQ, .int p0, .int p1] : List Value).toArray s 0 0 A) (F0 m 16 ls [.int s2_16, .int s1_16, .ref aQ]) := by
    intro Q_thrown_16 Q_all_16 Q_kinds_16 Q_which_16 Q_firsts_16 Q_seconds_16 Q_thirds_16 Q_nexts_16 Q_heads_16 Q_names_16 Q_variables_16 Q_holes_16 Q_sizes_16 x1_16 x2_16 s1_16 s2_16 H locs hP hD hS ls hl hf
    rw [f_Q_leaf_B16] at hf
    refine lv_icmp_lt (tgt := 23) hx hb d_Q_leaf_16 (by decide) (fun c3 => ?_) (fun c3 => ?_)
    · have hf := ite_t c3 hf
      refine lv_iconst (v := 0) hx hb d_Q_leaf_23 (by decide) ?_
      exact hB24 _ _ _ _ _ _ _ _ _ _ _ _ _ _ _ _ _ _ hP hD hS _ (lv_sub hl [0, 1, 2] rfl) hf
    · have hf := ite_f c3 hf
      refine lv_iconst (v := 1) hx hb d_Q_leaf_19 (by decide) ?_
      refine lv_goto (tgt := 24) hx hb d_Q_leaf_20 (by decide) ?_
      exact hB24 _ _ _ _ _ _ _ _ _ _ _ _ _ _ _ _ _ _ hP hD hS _ (lv_sub hl [0, 1, 2] rfl) hf
  rw [f_Q_leaf] at hf
  refine lv_aload_n hx hb d_Q_leaf_0 rfl (lv_at hl 0 rfl) ?_
  refine lv_iload_n hx hb d_Q_leaf_1 rfl (lv_at hl 1 rfl) ?_
  refine lv_if_lt (tgt := 19) hx hb d_Q_leaf_2 (by decide) (fun c1 => ?_) (fun c1 => ?_)
  · have hf := ite_t c1 hf
    refine lv_iconst (v := 1) hx hb d_Q_leaf_19 (by decide) ?_
    refine lv_goto (tgt := 24) hx hb d_Q_leaf_20 (by decide) ?_
    exact hB24 _ _ _ _ _ _ _ _ _ _ _ _ _ _ _ _ _ _ hP hD hS _ (lv_sub hl [0, 1, 2] rfl) hf
  · have hf := ite_f c1 hf
    refine lv_iload_n hx hb d_Q_leaf_5 rfl (lv_at hl 1 rfl) ?_
    refine lv_iload_n hx hb d_Q_leaf_6 rfl (lv_at hl 2 rfl) ?_
    refine lv_if_eq (tgt := 14) hx hb d_Q_leaf_7 (by decide) (fun c2 => ?_) (fun c2 => ?_)
    · have hf := ite_t c2 hf
      refine lv_bipush (v := 8) hx hb d_Q_leaf_14 (by decide) ?_
      exact hB16 _ _ _ _ _ _ _ _ _ _ _ _ _ _ _ _ _ _ _ hP hD hS _ (lv_sub hl [0, 1, 2] rfl) hf
    · have hf := ite_f c2 hf
      refine lv_iconst (v := 4) hx hb d_Q_leaf_10 (by decide) ?_
      refine lv_goto (tgt := 16) hx hb d_Q_leaf_11 (by decide) ?_
      exact hB16 _ _ _ _ _ _ _ _ _ _ _ _ _ _ _ _ _ _ _ hP hD hS _ (lv_sub hl [0, 1, 2] rfl) hf
def f_Q_term (Q_thrown : Int32) (Q_all : Int32) (Q_kinds : (Nat → Int32)) (Q_which : (Nat → Int32)) (Q_firsts : (Nat → Int32)) (Q_seconds : (Nat → Int32)) (Q_thirds : (Nat → Int32)) (Q_sizes : (Nat → Int32)) (p0 : Int32) (p1 : Int32) : Option (Int32 × Int32) :=
  (f_Q_isTerm Q_all p0).bind fun r1 =>
  if r1 = 0 then
    some ((-1 : Int32), (0 : Int32))
  else
    if p1 = 0 then
      gd (ixb p0 101100) <|
      some (Q_kinds p0.toNatClampNeg, (0 : Int32))
    else
    if p1 = 1 then
      gd (ixb p0 101100) <|
      some (Q_which p0.toNatClampNeg, (0 : Int32))
    else
    if p1 = 2 then
      (f_Q_part Q_firsts Q_seconds Q_thirds p0 (p1 - (2 : Int32))).bind fun r8 =>
      some (r8, (0 : Int32))
    else
    if p1 = 3 then
      (f_Q_part Q_firsts Q_seconds Q_thirds p0 (p1 - (2 : Int32))).bind fun r10 =>
      some (r10, (0 : Int32))
    else
    if p1 = 4 then
      (f_Q_part Q_firsts Q_seconds Q_thirds p0 (p1 - (2 : Int32))).bind fun r12 =>
      some (r12, (0 : Int32))
    else
    if p1 = 5 then
      gd (ixb p0 100) <|
      some (Q_sizes p0.toNatClampNeg, (0 : Int32))
    else
    some ((-1 : Int32), (0 : Int32))
abbrev rm_Q_term : Room := { frames := 1, cells := 0, slots := 0, locals := 22 }
set_option maxHeartbeats 4000000 in
set_option maxRecDepth 100000 in
theorem c_Q_term (l : Launch) (D : va_G) (cI cJ cZ : ClassId) (aQ aQ_kinds aQ_which aQ_firsts aQ_seconds aQ_thirds aQ_nexts aQ_heads aQ_names aQ_variables aQ_holes aQ_sizes aQ_places aQ_conclusions aQ_premises aQ_counts aQ_hitOf aQ_hitOne aQ_hitTwo aQ_hitTerms aQ_image aQ_bound aQ_waits aQ_waitsFor aQ_seen aQ_goals aQ_steps aQ_looked aQ_under aQ_taken aQ_news aQ_order aQ_there aQ_back : Nat) (sz : Nat) (Q_thrown : Int32) (Q_all : Int32) (Q_statements : Int32) (Q_hitKind : Int32) (Q_hits : Int32) (Q_tries : Int32) (Q_takenAll : Int32) (Q_takenFirst : Int32) (Q_kinds : (Nat → Int32)) (Q_which : (Nat → Int32)) (Q_firsts : (Nat → Int32)) (Q_seconds : (Nat → Int32)) (Q_thirds : (Nat → Int32)) (Q_sizes : (Nat → Int32)) (p0 : Int32) (p1 : Int32) (o : Int32 × Int32) (hf : f_Q_term Q_thrown Q_all Q_kinds Q_which Q_firsts Q_seconds Q_thirds Q_sizes p0 p1 = some o) : Met l y_Q_term (ws_Q_term) rm_Q_term (WPc D vwCl cI cJ cZ [.ref aQ, .int p0, .int p1] (wv_45 cI cJ cZ aQ aQ_kinds aQ_which aQ_firsts aQ_seconds aQ_thirds aQ_nexts aQ_heads aQ_names aQ_variables aQ_holes aQ_sizes aQ_places aQ_conclusions aQ_premises aQ_counts aQ_hitOf aQ_hitOne aQ_hitTwo aQ_hitTerms aQ_image aQ_bound aQ_waits aQ_waitsFor aQ_seen aQ_goals aQ_steps aQ_looked aQ_under aQ_taken aQ_news aQ_order aQ_there aQ_back Q_thrown Q_all Q_statements Q_hitKind Q_hits Q_tries Q_takenAll Q_takenFirst Q_kinds Q_which Q_firsts Q_seconds Q_thirds Q_sizes) sz) (WQ D vwCl (some (.int o.1)) (wv_45 cI cJ cZ aQ aQ_kinds aQ_which aQ_firsts aQ_seconds aQ_thirds aQ_nexts aQ_heads aQ_names aQ_variables aQ_holes aQ_sizes aQ_places aQ_conclusions aQ_premises aQ_counts aQ_hitOf aQ_hitOne aQ_hitTwo aQ_hitTerms aQ_image aQ_bound aQ_waits aQ_waitsFor aQ_seen aQ_goals aQ_steps aQ_looked aQ_under aQ_taken aQ_news aQ_order aQ_there aQ_back o.2 Q_all Q_statements Q_hitKind Q_hits Q_tries Q_takenAll Q_takenFirst Q_kinds Q_which Q_firsts Q_seconds Q_thirds Q_sizes) (va_A (wv_45 cI cJ cZ aQ aQ_kinds aQ_which aQ_firsts aQ_seconds aQ_thirds aQ_nexts aQ_heads aQ_names aQ_variables aQ_holes aQ_sizes aQ_places aQ_conclusions aQ_premises aQ_counts aQ_hitOf aQ_hitOne aQ_hitTwo aQ_hitTerms aQ_image aQ_bound aQ_waits aQ_waitsFor aQ_seen aQ_goals aQ_steps aQ_looked aQ_under aQ_taken aQ_news aQ_order aQ_there aQ_back Q_thrown Q_all Q_statements Q_hitKind Q_hits Q_tries Q_takenAll Q_takenFirst Q_kinds Q_which Q_firsts Q_seconds Q_thirds Q_sizes) sz)) 0 0 (va_A (wv_45 cI cJ cZ aQ aQ_kinds aQ_which aQ_firsts aQ_seconds aQ_thirds aQ_nexts aQ_heads aQ_names aQ_variables aQ_holes aQ_sizes aQ_places aQ_conclusions aQ_premises aQ_counts aQ_hitOf aQ_hitOne aQ_hitTwo aQ_hitTerms aQ_image aQ_bound aQ_waits aQ_waitsFor aQ_seen aQ_goals aQ_steps aQ_looked aQ_under aQ_taken aQ_news aQ_order aQ_there aQ_back Q_thrown Q_all Q_statements Q_hitKind Q_hits Q_tries Q_takenAll Q_takenFirst Q_kinds Q_which Q_firsts Q_seconds Q_thirds Q_sizes) sz) := by
  refine Met.ofW (cc := b_Q_term) (maxL := 3) (ret := (some .int)) (by decide) rfl ?_
  intro p e s m args below meth c s₁ B hml hv
  obtain ⟨rfl, rfl, hP, hK, hD0⟩ := hv
  have hx := B.exec
  have hb := B.bytes
  have hr := B.returns
  have hts : ∀ w ∈ BG, w.before _ s = true := fun w h => atoms_spec (ws := (ws_Q_term)) B.pre w (List.mem_cons_of_mem _ h)
  have hown : s.vm.findClass RR_Q = some m.cls := findClass_of_methodNamed B.named
  have hlocks := B.notSynchronized
  have hD := hD0.self (sz := s.heap.size)
  have hA : ∀ q : Nat, s.heap.size ≤ q → va_A (wv_45 cI cJ cZ aQ aQ_kinds aQ_which aQ_firsts aQ_seconds aQ_thirds aQ_nexts aQ_heads aQ_names aQ_variables aQ_holes aQ_sizes aQ_places aQ_conclusions aQ_premises aQ_counts aQ_hitOf aQ_hitOne aQ_hitTwo aQ_hitTerms aQ_image aQ_bound aQ_waits aQ_waitsFor aQ_seen aQ_goals aQ_steps aQ_looked aQ_under aQ_taken aQ_news aQ_order aQ_there aQ_back Q_thrown Q_all Q_statements Q_hitKind Q_hits Q_tries Q_takenAll Q_takenFirst Q_kinds Q_which Q_firsts Q_seconds Q_thirds Q_sizes) s.heap.size q := fun q h => Or.inr h
  have hS : va_S (va_A (wv_45 cI cJ cZ aQ aQ_kinds aQ_which aQ_firsts aQ_seconds aQ_thirds aQ_nexts aQ_heads aQ_names aQ_variables aQ_holes aQ_sizes aQ_places aQ_conclusions aQ_premises aQ_counts aQ_hitOf aQ_hitOne aQ_hitTwo aQ_hitTerms aQ_image aQ_bound aQ_waits aQ_waitsFor aQ_seen aQ_goals aQ_steps aQ_looked aQ_under aQ_taken aQ_news aQ_order aQ_there aQ_back Q_thrown Q_all Q_statements Q_hitKind Q_hits Q_tries Q_takenAll Q_takenFirst Q_kinds Q_which Q_firsts Q_seconds Q_thirds Q_sizes) s.heap.size) s.heap s.heap [] := va_S.rf
  generalize va_A (wv_45 cI cJ cZ aQ aQ_kinds aQ_which aQ_firsts aQ_seconds aQ_thirds aQ_nexts aQ_heads aQ_names aQ_variables aQ_holes aQ_sizes aQ_places aQ_conclusions aQ_premises aQ_counts aQ_hitOf aQ_hitOne aQ_hitTwo aQ_hitTerms aQ_image aQ_bound aQ_waits aQ_waitsFor aQ_seen aQ_goals aQ_steps aQ_looked aQ_under aQ_taken aQ_news aQ_order aQ_there aQ_back Q_thrown Q_all Q_statements Q_hitKind Q_hits Q_tries Q_takenAll Q_takenFirst Q_kinds Q_which Q_firsts Q_seconds Q_thirds Q_sizes) s.heap.size = A at hD hA hS ⊢
  have hl := lv_entry ([.ref aQ, .int p0, .int p1]) (n := 3) (Nat.le_of_ble_eq_true rfl)
  rw [lg_entry_eq]
  generalize (lg_sl ([.ref aQ, .int p0, .int p1]) ++ List.replicate (3 - (lg_sl ([.ref aQ, .int p0, .int p1])).length) Slot.unset).toArray = ls at hl ⊢
  have hl : lv_has ls 3 [(0, .ref aQ), (1, .int p0), (2, .int p1)] := hl
  rw [f_Q_term] at hf
  refine lv_aload_n hx hb d_Q_term_0 rfl (lv_at hl 0 rfl) ?_
  refine lv_iconst (v := 0) hx hb d_Q_term_1 (by decide) ?_
  refine va_put (D := D) (ci := 7) (v := .int (0 : Int32)) (ty := .int) (C := RR_Q) (T := FF_Q) (N := 41) hx hb hts kin_Q TT_Q tok_Q nok_Q hown hK.1 hP hD hS 0 rfl rfl 0 (by decide) (hts _ k4_67) (fun _ h9 => h9) rfl (by decide +kernel) rfl rfl (Nat.le_of_ble_eq_true rfl) d_Q_term_2 (fun H locs hP hD hS => ?_)
  have hP : va_P D vwCl (wv_45 cI cJ cZ aQ aQ_kinds aQ_which aQ_firsts aQ_seconds aQ_thirds aQ_nexts aQ_heads aQ_names aQ_variables aQ_holes aQ_sizes aQ_places aQ_conclusions aQ_premises aQ_counts aQ_hitOf aQ_hitOne aQ_hitTwo aQ_hitTerms aQ_image aQ_bound aQ_waits aQ_waitsFor aQ_seen aQ_goals aQ_steps aQ_looked aQ_under aQ_taken aQ_news aQ_order aQ_there aQ_back (0 : Int32) Q_all Q_statements Q_hitKind Q_hits Q_tries Q_takenAll Q_takenFirst Q_kinds Q_which Q_firsts Q_seconds Q_thirds Q_sizes) H := hP
  have hD : va_D A (wv_45 cI cJ cZ aQ aQ_kinds aQ_which aQ_firsts aQ_seconds aQ_thirds aQ_nexts aQ_heads aQ_names aQ_variables aQ_holes aQ_sizes aQ_places aQ_conclusions aQ_premises aQ_counts aQ_hitOf aQ_hitOne aQ_hitTwo aQ_hitTerms aQ_image aQ_bound aQ_waits aQ_waitsFor aQ_seen aQ_goals aQ_steps aQ_looked aQ_under aQ_taken aQ_news aQ_order aQ_there aQ_back (0 : Int32) Q_all Q_statements Q_hitKind Q_hits Q_tries Q_takenAll Q_takenFirst Q_kinds Q_which Q_firsts Q_seconds Q_thirds Q_sizes) := hD
  refine lv_aload_n hx hb d_Q_term_5 rfl (lv_at hl 0 rfl) ?_
  refine lv_iload_n hx hb d_Q_term_6 rfl (lv_at hl 1 rfl) ?_
  obtain ⟨r1, hr1, hf⟩ := of_bd hf
  refine rd_call (va_runV (As := [.int p0]) (rest := []) ⟨hx, hb, hml, hown, hts⟩ (c_Q_isTerm l D cI cJ cZ aQ aQ_kinds aQ_which aQ_firsts aQ_seconds aQ_thirds aQ_nexts aQ_heads aQ_names aQ_variables aQ_holes aQ_sizes aQ_places aQ_conclusions aQ_premises aQ_counts aQ_hitOf aQ_hitOne aQ_hitTwo aQ_hitTerms aQ_image aQ_bound aQ_waits aQ_waitsFor aQ_seen aQ_goals aQ_steps aQ_looked aQ_under aQ_taken aQ_news aQ_order aQ_there aQ_back (0 : Int32) Q_all Q_statements Q_hitKind Q_hits Q_tries Q_takenAll Q_takenFirst p0 r1 hr1) (bigV 1 hts k4_199 k4_201 ks_Q_isTerm k1_9 k4_202 rfl rfl hd_Q_isTerm ⟨Nat.le_of_ble_eq_true rfl, Nat.le_of_ble_eq_true rfl⟩) (rd_preV hK hP [0] rfl 0 rfl rfl rfl) rfl rfl hl.1 rfl (lv_room (Nat.le_of_ble_eq_true rfl)) d_Q_term_7 ⟨Nat.le_of_ble_eq_true rfl, Nat.le_of_ble_eq_true rfl⟩) ?_
  refine lv_if_ne (tgt := 15) hx hb d_Q_term_10 (by decide) (fun c2 => ?_) (fun c2 => ?_)
  · have hf := ite_f c2 hf
    refine lv_iload_n hx hb d_Q_term_15 rfl (lv_at hl 2 rfl) ?_
    by_cases c3 : p1 = 0
    · have hf := ite_t c3 hf
      refine lv_tableIn (tgt := 56) hx hb d_Q_term_16 (by rw [c3]; decide) (by rw [c3]; decide) (by rw [c3]; rfl) (by decide) ?_
      refine lv_aload_n hx hb d_Q_term_56 rfl (lv_at hl 0 rfl) ?_
      refine va_get (D := D) (ci := 7) (v := .ref aQ_kinds) (C := RR_Q) (T := FF_Q) (N := 41) hx hb hts kin_Q hown hK.1 hP 0 rfl rfl 1 (by decide) (hts _ k4_68) (fun _ h9 => h9) rfl d_Q_term_57 ?_
      refine lv_iload_n hx hb d_Q_term_60 rfl (lv_at hl 1 rfl) ?_
      obtain ⟨h4, hf⟩ := of_gd hf
      refine va_iald hx hb hK.1 hP 1 0 rfl rfl (ixb_in h4) d_Q_term_61 ?_
      obtain rfl := Option.some.inj hf
      exact W.iret (v := Q_kinds p0.toNatClampNeg) hx hb hr (fun t ht hW => ⟨rfl, by rw [ht]; exact hP, hD, hS.F ht⟩) hS.2.2 d_Q_term_62
    have hf := ite_f c3 hf
    by_cases c5 : p1 = 1
    · have hf := ite_t c5 hf
      refine lv_tableIn (tgt := 63) hx hb d_Q_term_16 (by rw [c5]; decide) (by rw [c5]; decide) (by rw [c5]; rfl) (by decide) ?_
      refine lv_aload_n hx hb d_Q_term_63 rfl (lv_at hl 0 rfl) ?_
      refine va_get (D := D) (ci := 7) (v := .ref aQ_which) (C := RR_Q) (T := FF_Q) (N := 41) hx hb hts kin_Q hown hK.1 hP 0 rfl rfl 2 (by decide) (hts _ k4_69) (fun _ h9 => h9) rfl d_Q_term_64 ?_
      refine lv_iload_n hx hb d_Q_term_67 rfl (lv_at hl 1 rfl) ?_
      obtain ⟨h6, hf⟩ := of_gd hf
      refine va_iald hx hb hK.1 hP 2 0 rfl rfl (ixb_in h6) d_Q_term_68 ?_
      obtain rfl := Option.some.inj hf
      exact W.iret (v := Q_which p0.toNatClampNeg) hx hb hr (fun t ht hW => ⟨rfl, by rw [ht]; exact hP, hD, hS.F ht⟩) hS.2.2 d_Q_term_69
    have hf := ite_f c5 hf
    by_cases c7 : p1 = 2
    · have hf := ite_t c7 hf
      refine lv_tableIn (tgt := 70) hx hb d_Q_term_16 (by rw [c7]; decide) (by rw [c7]; decide) (by rw [c7]; rfl) (by decide) ?_
      refine lv_aload_n hx hb d_Q_term_70 rfl (lv_at hl 0 rfl) ?_
      refine lv_iload_n hx hb d_Q_term_71 rfl (lv_at hl 1 rfl) ?_
      refine lv_iload_n hx hb d_Q_term_72 rfl (lv_at hl 2 rfl) ?_
      refine lv_iconst (v := 2) hx hb d_Q_term_73 (by decide) ?_
      refine lv_isub hx hb d_Q_term_74 ?_
      obtain ⟨r8, hr8, hf⟩ := of_bd hf
      refine rd_call (va_runV (As := [.int p0, .int (p1 - (2 : Int32))]) (rest := []) ⟨hx, hb, hml, hown, hts⟩ (c_Q_part l D cI cJ cZ aQ aQ_kinds aQ_which aQ_firsts aQ_seconds aQ_thirds aQ_nexts aQ_heads aQ_names aQ_variables aQ_holes aQ_sizes aQ_places aQ_conclusions aQ_premises aQ_counts aQ_hitOf aQ_hitOne aQ_hitTwo aQ_hitTerms aQ_image aQ_bound aQ_waits aQ_waitsFor aQ_seen aQ_goals aQ_steps aQ_looked aQ_under aQ_taken aQ_news aQ_order aQ_there aQ_back (0 : Int32) Q_all Q_statements Q_hitKind Q_hits Q_tries Q_takenAll Q_takenFirst Q_firsts Q_seconds Q_thirds p0 (p1 - (2 : Int32)) r8 hr8) (bigV 2 hts k4_218 k4_220 ks_Q_part k1_9 k4_221 rfl rfl hd_Q_part ⟨Nat.le_of_ble_eq_true rfl, Nat.le_of_ble_eq_true rfl⟩) (rd_preV hK hP [0, 3, 4, 5] rfl 0 rfl rfl rfl) rfl rfl hl.1 rfl (lv_room (Nat.le_of_ble_eq_true rfl)) d_Q_term_75 ⟨Nat.le_of_ble_eq_true rfl, Nat.le_of_ble_eq_true rfl⟩) ?_
      obtain rfl := Option.some.inj hf
      exact W.iret (v := r8) hx hb hr (fun t ht hW => ⟨rfl, by rw [ht]; exact hP, hD, hS.F ht⟩) hS.2.2 d_Q_term_78
    have hf := ite_f c7 hf
    by_cases c9 : p1 = 3
    · have hf := ite_t c9 hf
      refine lv_tableIn (tgt := 70) hx hb d_Q_term_16 (by rw [c9]; decide) (by rw [c9]; decide) (by rw [c9]; rfl) (by decide) ?_
      refine lv_aload_n hx hb d_Q_term_70 rfl (lv_at hl 0 rfl) ?_
      refine lv_iload_n hx hb d_Q_term_71 rfl (lv_at hl 1 rfl) ?_
      refine lv_iload_n hx hb d_Q_term_72 rfl (lv_at hl 2 rfl) ?_
      refine lv_iconst (v := 2) hx hb d_Q_term_73 (by decide) ?_
      refine lv_isub hx hb d_Q_term_74 ?_
      obtain ⟨r10, hr10, hf⟩ := of_bd hf
      refine rd_call (va_runV (As := [.int p0, .int (p1 - (2 : Int32))]) (rest := []) ⟨hx, hb, hml, hown, hts⟩ (c_Q_part l D cI cJ cZ aQ aQ_kinds aQ_which aQ_firsts aQ_seconds aQ_thirds aQ_nexts aQ_heads aQ_names aQ_variables aQ_holes aQ_sizes aQ_places aQ_conclusions aQ_premises aQ_counts aQ_hitOf aQ_hitOne aQ_hitTwo aQ_hitTerms aQ_image aQ_bound aQ_waits aQ_waitsFor aQ_seen aQ_goals aQ_steps aQ_looked aQ_under aQ_taken aQ_news aQ_order aQ_there aQ_back (0 : Int32) Q_all Q_statements Q_hitKind Q_hits Q_tries Q_takenAll Q_takenFirst Q_firsts Q_seconds Q_thirds p0 (p1 - (2 : Int32)) r10 hr10) (bigV 2 hts k4_218 k4_220 ks_Q_part k1_9 k4_221 rfl rfl hd_Q_part ⟨Nat.le_of_ble_eq_true rfl, Nat.le_of_ble_eq_true rfl⟩) (rd_preV hK hP [0, 3, 4, 5] rfl 0 rfl rfl rfl) rfl rfl hl.1 rfl (lv_room (Nat.le_of_ble_eq_true rfl)) d_Q_term_75 ⟨Nat.le_of_ble_eq_true rfl, Nat.le_of_ble_eq_true rfl⟩) ?_
      obtain rfl := Option.some.inj hf
      exact W.iret (v := r10) hx hb hr (fun t ht hW => ⟨rfl, by rw [ht]; exact hP, hD, hS.F ht⟩) hS.2.2 d_Q_term_78
    have hf := ite_f c9 hf
    by_cases c11 : p1 = 4
    · have hf := ite_t c11 hf
      refine lv_tableIn (tgt := 70) hx hb d_Q_term_16 (by rw [c11]; decide) (by rw [c11]; decide) (by rw [c11]; rfl) (by decide) ?_
      refine lv_aload_n hx hb d_Q_term_70 rfl (lv_at hl 0 rfl) ?_
      refine lv_iload_n hx hb d_Q_term_71 rfl (lv_at hl 1 rfl) ?_
      refine lv_iload_n hx hb d_Q_term_72 rfl (lv_at hl 2 rfl) ?_
      refine lv_iconst (v := 2) hx hb d_Q_term_73 (by decide) ?_
      refine lv_isub hx hb d_Q_term_74 ?_
      obtain ⟨r12, hr12, hf⟩ := of_bd hf
      refine rd_call (va_runV (As := [.int p0, .int (p1 - (2 : Int32))]) (rest := []) ⟨hx, hb, hml, hown, hts⟩ (c_Q_part l D cI cJ cZ aQ aQ_kinds aQ_which aQ_firsts aQ_seconds aQ_thirds aQ_nexts aQ_heads aQ_names aQ_variables aQ_holes aQ_sizes aQ_places aQ_conclusions aQ_premises aQ_counts aQ_hitOf aQ_hitOne aQ_hitTwo aQ_hitTerms aQ_image aQ_bound aQ_waits aQ_waitsFor aQ_seen aQ_goals aQ_steps aQ_looked aQ_under aQ_taken aQ_news aQ_order aQ_there aQ_back (0 : Int32) Q_all Q_statements Q_hitKind Q_hits Q_tries Q_takenAll Q_takenFirst Q_firsts Q_seconds Q_thirds p0 (p1 - (2 : Int32)) r12 hr12) (bigV 2 hts k4_218 k4_220 ks_Q_part k1_9 k4_221 rfl rfl hd_Q_part ⟨Nat.le_of_ble_eq_true rfl, Nat.le_of_ble_eq_true rfl⟩) (rd_preV hK hP [0, 3, 4, 5] rfl 0 rfl rfl rfl) rfl rfl hl.1 rfl (lv_room (Nat.le_of_ble_eq_true rfl)) d_Q_term_75 ⟨Nat.le_of_ble_eq_true rfl, Nat.le_of_ble_eq_true rfl⟩) ?_
      obtain rfl := Option.some.inj hf
      exact W.iret (v := r12) hx hb hr (fun t ht hW => ⟨rfl, by rw [ht]; exact hP, hD, hS.F ht⟩) hS.2.2 d_Q_term_78
    have hf := ite_f c11 hf
    by_cases c13 : p1 = 5
    · have hf := ite_t c13 hf
      refine lv_tableIn (tgt := 79) hx hb d_Q_term_16 (by rw [c13]; decide) (by rw [c13]; decide) (by rw [c13]; rfl) (by decide) ?_
      refine lv_aload_n hx hb d_Q_term_79 rfl (lv_at hl 0 rfl) ?_
      refine va_get (D := D) (ci := 7) (v := .ref aQ_sizes) (C := RR_Q) (T := FF_Q) (N := 41) hx hb hts kin_Q hown hK.1 hP 0 rfl rfl 12 (by decide) (hts _ k4_79) (fun _ h9 => h9) rfl d_Q_term_80 ?_
      refine lv_iload_n hx hb d_Q_term_83 rfl (lv_at hl 1 rfl) ?_
      obtain ⟨h14, hf⟩ := of_gd hf
      refine va_iald hx hb hK.1 hP 6 0 rfl rfl (ixb_in h14) d_Q_term_84 ?_
      obtain rfl := Option.some.inj hf
      exact W.iret (v := Q_sizes p0.toNatClampNeg) hx hb hr (fun t ht hW => ⟨rfl, by rw [ht]; exact hP, hD, hS.F ht⟩) hS.2.2 d_Q_term_85
    have hf := ite_f c13 hf
    have n16_0 := lv_neT c3 (a := 0) (by decide)
    have n16_1 := lv_neT c5 (a := 1) (by decide)
    have n16_2 := lv_neT c7 (a := 2) (by decide)
    have n16_3 := lv_neT c9 (a := 3) (by decide)
    have n16_4 := lv_neT c11 (a := 4) (by decide)
    have n16_5 := lv_neT c13 (a := 5) (by decide)
    refine lv_tableOut (tgt := 86) hx hb d_Q_term_16 (by omega) (by decide) ?_
    refine lv_iconst (v := -1) hx hb d_Q_term_86 (by decide) ?_
    obtain rfl := Option.some.inj hf
    exact W.iret (v := (-1 : Int32)) hx hb hr (fun t ht hW => ⟨rfl, by rw [ht]; exact hP, hD, hS.F ht⟩) hS.2.2 d_Q_term_87
  · have hf := ite_t c2 hf
    refine lv_iconst (v := -1) hx hb d_Q_term_13 (by decide) ?_
    obtain rfl := Option.some.inj hf
    exact W.iret (v := (-1 : Int32)) hx hb hr (fun t ht hW => ⟨rfl, by rw [ht]; exact hP, hD, hS.F ht⟩) hS.2.2 d_Q_term_14
def f_Q_state_B132 (Q_all : Int32) (Q_holes : (Nat → Int32)) (K73 : Int32 → Int32 → Int32 → Int32 → (Nat → Int32) → (Nat → Int32) → (Nat → Int32) → Int32 → Int32 → Int32 → Int32 → Int32 → Int32 → Int32 → Int32 → Int32 → Option (Int32 × Int32 × Int32 × Int32 × Int32 × (Nat → Int32) × (Nat → Int32) × (Nat → Int32))) (Q_thrown_132 : Int32) (Q_statements_132 : Int32) (Q_hitKind_132 : Int32) (Q_hits_132 : Int32) (Q_conclusions_132 : (Nat → Int32)) (Q_premises_132 : (Nat → Int32)) (Q_counts_132 : (Nat → Int32)) (x1_132 : Int32) (x2_132 : Int32) (x3_132 : Int32) (x4_132 : Int32) (x5_132 : Int32) (x6_132 : Int32) (x8_132 : Int32) (x9_132 : Int32) (x10_132 : Int32) (s0_132 : Int32) : Option (Int32 × Int32 × Int32 × Int32 × Int32 × (Nat → Int32) × (Nat → Int32) × (Nat → Int32)) :=
  if x8_132 = 0 then
    nm (x9_132 + (1 : Int32)) fun x20 =>
    K73 Q_thrown_132 Q_statements_132 Q_hitKind_132 Q_hits_132 Q_conclusions_132 Q_premises_132 Q_counts_132 x1_132 x2_132 x3_132 x4_132 x5_132 x6_132 s0_132 (0 : Int32) x20
  else
    if s0_132 = 0 then
      nm (x9_132 + (1 : Int32)) fun x22 =>
      K73 Q_thrown_132 Q_statements_132 Q_hitKind_132 Q_hits_132 Q_conclusions_132 Q_premises_132 Q_counts_132 x1_132 x2_132 x3_132 x4_132 x5_132 x6_132 s0_132 (0 : Int32) x22
    else
      gd (ixb x10_132 100) <|
      if (Q_holes x10_132.toNatClampNeg) = 0 then
        nm (x9_132 + (1 : Int32)) fun x26 =>
        K73 Q_thrown_132 Q_statements_132 Q_hitKind_132 Q_hits_132 Q_conclusions_132 Q_premises_132 Q_counts_132 x1_132 x2_132 x3_132 x4_132 x5_132 x6_132 s0_132 (1 : Int32) x26
      else
        nm (x9_132 + (1 : Int32)) fun x25 =>
        K73 Q_thrown_132 Q_statements_132 Q_hitKind_132 Q_hits_132 Q_conclusions_132 Q_premises_132 Q_counts_132 x1_132 x2_132 x3_132 x4_132 x5_132 x6_132 s0_132 (0 : Int32) x25
def f_Q_state_B111 (Q_all : Int32) (Q_holes : (Nat → Int32)) (K73 : Int32 → Int32 → Int32 → Int32 → (Nat → Int32) → (Nat → Int32) → (Nat → Int32) → Int32 → Int32 → Int32 → Int32 → Int32 → Int32 → Int32 → Int32 → Int32 → Option (Int32 × Int32 × Int32 × Int32 × Int32 × (Nat → Int32) × (Nat → Int32) × (Nat → Int32))) (Q_thrown_111 : Int32) (Q_statements_111 : Int32) (Q_hitKind_111 : Int32) (Q_hits_111 : Int32) (Q_conclusions_111 : (Nat → Int32)) (Q_premises_111 : (Nat → Int32)) (Q_counts_111 : (Nat → Int32)) (x1_111 : Int32) (x2_111 : Int32) (x3_111 : Int32) (x4_111 : Int32) (x5_111 : Int32) (x6_111 : Int32) (x7_111 : Int32) (x8_111 : Int32) (x9_111 : Int32) (s0_111 : Int32) : Option (Int32 × Int32 × Int32 × Int32 × Int32 × (Nat → Int32) × (Nat → Int32) × (Nat → Int32)) :=
  if x7_111 = 0 then
    f_Q_state_B132 Q_all Q_holes K73 Q_thrown_111 Q_statements_111 Q_hitKind_111 Q_hits_111 Q_conclusions_111 Q_premises_111 Q_counts_111 x1_111 x2_111 x3_111 x4_111 x5_111 x6_111 x8_111 x9_111 s0_111 (0 : Int32)
  else
    (f_Q_isTerm Q_all s0_111).bind fun r17 =>
    if r17 = 0 then
      f_Q_state_B132 Q_all Q_holes K73 Q_thrown_111 Q_statements_111 Q_hitKind_111 Q_hits_111 Q_conclusions_111 Q_premises_111 Q_counts_111 x1_111 x2_111 x3_111 x4_111 x5_111 x6_111 x8_111 x9_111 s0_111 (0 : Int32)
    else
      f_Q_state_B132 Q_all Q_holes K73 Q_thrown_111 Q_statements_111 Q_hitKind_111 Q_hits_111 Q_conclusions_111 Q_premises_111 Q_counts_111 x1_111 x2_111 x3_111 x4_111 x5_111 x6_111 x8_111 x9_111 s0_111 (1 : Int32)
def f_Q_state_L233 (Q_all : Int32) (Q_holes : (Nat → Int32)) : Nat → Int32 → Int32 → Int32 → Int32 → (Nat → Int32) → (Nat → Int32) → (Nat → Int32) → Int32 → Int32 → Int32 → Int32 → Int32 → Int32 → Option (Int32 × Int32 × Int32 × Int32 × Int32 × (Nat → Int32) × (Nat → Int32) × (Nat → Int32))
  | 0, _, _, _, _, _, _, _, _, _, _, _, _, _ => none
  | n + 1, Q_thrown_233, Q_statements_233, Q_hitKind_233, Q_hits_233, Q_conclusions_233, Q_premises_233, Q_counts_233, x1_233, x2_233, x3_233, x4_233, x6_233, x9_233 =>
    if x6_233 ≤ x9_233 then
      nm (Q_statements_233 + (1 : Int32)) fun x34 =>
      some (x34 - (1 : Int32), Q_thrown_233, x34, (0 : Int32), (0 : Int32), Q_conclusions_233, Q_premises_233, Q_counts_233)
    else
      if x9_233 = 0 then
        gd (ixb (((4 : Int32) * Q_statements_233) + x9_233) 120) <| nm (upd Q_premises_233 (((4 : Int32) * Q_statements_233) + x9_233).toNatClampNeg x1_233) fun g48 =>
        nm (x9_233 + (1 : Int32)) fun x49 =>
        (f_Q_state_L233 Q_all Q_holes n) Q_thrown_233 Q_statements_233 Q_hitKind_233 Q_hits_233 Q_conclusions_233 g48 Q_counts_233 x1_233 x2_233 x3_233 x4_233 x6_233 x49
      else
        if x9_233 = (1 : Int32) then
          gd (ixb (((4 : Int32) * Q_statements_233) + x9_233) 120) <| nm (upd Q_premises_233 (((4 : Int32) * Q_statements_233) + x9_233).toNatClampNeg x2_233) fun g45 =>
          nm (x9_233 + (1 : Int32)) fun x46 =>
          (f_Q_state_L233 Q_all Q_holes n) Q_thrown_233 Q_statements_233 Q_hitKind_233 Q_hits_233 Q_conclusions_233 g45 Q_counts_233 x1_233 x2_233 x3_233 x4_233 x6_233 x46
        else
          if x9_233 = (2 : Int32) then
            gd (ixb (((4 : Int32) * Q_statements_233) + x9_233) 120) <| nm (upd Q_premises_233 (((4 : Int32) * Q_statements_233) + x9_233).toNatClampNeg x3_233) fun g42 =>
            nm (x9_233 + (1 : Int32)) fun x43 =>
            (f_Q_state_L233 Q_all Q_holes n) Q_thrown_233 Q_statements_233 Q_hitKind_233 Q_hits_233 Q_conclusions_233 g42 Q_counts_233 x1_233 x2_233 x3_233 x4_233 x6_233 x43
          else
            gd (ixb (((4 : Int32) * Q_statements_233) + x9_233) 120) <| nm (upd Q_premises_233 (((4 : Int32) * Q_statements_233) + x9_233).toNatClampNeg x4_233) fun g39 =>
            nm (x9_233 + (1 : Int32)) fun x40 =>
            (f_Q_state_L233 Q_all Q_holes n) Q_thrown_233 Q_statements_233 Q_hitKind_233 Q_hits_233 Q_conclusions_233 g39 Q_counts_233 x1_233 x2_233 x3_233 x4_233 x6_233 x40
def f_Q_state_B200 (Q_all : Int32) (Q_holes : (Nat → Int32)) (Q_thrown_200 : Int32) (Q_statements_200 : Int32) (Q_hitKind_200 : Int32) (Q_hits_200 : Int32) (Q_conclusions_200 : (Nat → Int32)) (Q_premises_200 : (Nat → Int32)) (Q_counts_200 : (Nat → Int32)) (x1_200 : Int32) (x2_200 : Int32) (x3_200 : Int32) (x4_200 : Int32) (x5_200 : Int32) (x6_200 : Int32) (s1_200 : Int32) : Option (Int32 × Int32 × Int32 × Int32 × Int32 × (Nat → Int32) × (Nat → Int32) × (Nat → Int32)) :=
  (f_Q_refuses Q_thrown_200 s1_200).bind fun r27 =>
  if r27.1 = 0 then
    gd (ixb Q_statements_200 30) <| nm (upd Q_conclusions_200 Q_statements_200.toNatClampNeg x5_200) fun g30 =>
    gd (ixb Q_statements_200 30) <| nm (upd Q_counts_200 Q_statements_200.toNatClampNeg x6_200) fun g32 =>
    f_Q_state_L233 Q_all Q_holes FU r27.2 Q_statements_200 Q_hitKind_200 Q_hits_200 g30 Q_premises_200 g32 x1_200 x2_200 x3_200 x4_200 x6_200 (0 : Int32)
  else
    some ((0 : Int32), r27.2, Q_statements_200, Q_hitKind_200, Q_hits_200, Q_conclusions_200, Q_premises_200, Q_counts_200)
def f_Q_state_L73 (Q_all : Int32) (Q_holes : (Nat → Int32)) : Nat → Int32 → Int32 → Int32 → Int32 → (Nat → Int32) → (Nat → Int32) → (Nat → Int32) → Int32 → Int32 → Int32 → Int32 → Int32 → Int32 → Int32 → Int32 → Int32 → Option (Int32 × Int32 × Int32 × Int32 × Int32 × (Nat → Int32) × (Nat → Int32) × (Nat → Int32))
  | 0, _, _, _, _, _, _, _, _, _, _, _, _, _, _, _, _ => none
  | n + 1, Q_thrown_73, Q_statements_73, Q_hitKind_73, Q_hits_73, Q_conclusions_73, Q_premises_73, Q_counts_73, x1_73, x2_73, x3_73, x4_73, x5_73, x6_73, x7_73, x8_73, x9_73 =>
    if x6_73 ≤ x9_73 then
      if x7_73 = 0 then
        f_Q_state_B200 Q_all Q_holes Q_thrown_73 Q_statements_73 Q_hitKind_73 Q_hits_73 Q_conclusions_73 Q_premises_73 Q_counts_73 x1_73 x2_73 x3_73 x4_73 x5_73 x6_73 (1 : Int32)
      else
        if x8_73 = 0 then
          f_Q_state_B200 Q_all Q_holes Q_thrown_73 Q_statements_73 Q_hitKind_73 Q_hits_73 Q_conclusions_73 Q_premises_73 Q_counts_73 x1_73 x2_73 x3_73 x4_73 x5_73 x6_73 (2 : Int32)
        else
          if Q_statements_73 = (30 : Int32) then
            f_Q_state_B200 Q_all Q_holes Q_thrown_73 Q_statements_73 Q_hitKind_73 Q_hits_73 Q_conclusions_73 Q_premises_73 Q_counts_73 x1_73 x2_73 x3_73 x4_73 x5_73 x6_73 (3 : Int32)
          else
            f_Q_state_B200 Q_all Q_holes Q_thrown_73 Q_statements_73 Q_hitKind_73 Q_hits_73 Q_conclusions_73 Q_premises_73 Q_counts_73 x1_73 x2_73 x3_73 x4_73 x5_73 x6_73 (0 : Int32)
    else
      if x9_73 = 0 then
        f_Q_state_B111 Q_all Q_holes (f_Q_state_L73 Q_all Q_holes n) Q_thrown_73 Q_statements_73 Q_hitKind_73 Q_hits_73 Q_conclusions_73 Q_premises_73 Q_counts_73 x1_73 x2_73 x3_73 x4_73 x5_73 x6_73 x7_73 x8_73 x9_73 x1_73
      else
        if x9_73 = (1 : Int32) then
          f_Q_state_B111 Q_all Q_holes (f_Q_state_L73 Q_all Q_holes n) Q_thrown_73 Q_statements_73 Q_hitKind_73 Q_hits_73 Q_conclusions_73 Q_premises_73 Q_counts_73 x1_73 x2_73 x3_73 x4_73 x5_73 x6_73 x7_73 x8_73 x9_73 x2_73
        else
          if x9_73 = (2 : Int32) then
            f_Q_state_B111 Q_all Q_holes (f_Q_state_L73 Q_all Q_holes n) Q_thrown_73 Q_statements_73 Q_hitKind_73 Q_hits_73 Q_conclusions_73 Q_premises_73 Q_counts_73 x1_73 x2_73 x3_73 x4_73 x5_73 x6_73 x7_73 x8_73 x9_73 x3_73
          else
            f_Q_state_B111 Q_all Q_holes (f_Q_state_L73 Q_all Q_holes n) Q_thrown_73 Q_statements_73 Q_hitKind_73 Q_hits_73 Q_conclusions_73 Q_premises_73 Q_counts_73 x1_73 x2_73 x3_73 x4_73 x5_73 x6_73 x7_73 x8_73 x9_73 x4_73
def f_Q_state_B38 (Q_all : Int32) (Q_holes : (Nat → Int32)) (Q_thrown_38 : Int32) (Q_statements_38 : Int32) (Q_hitKind_38 : Int32) (Q_hits_38 : Int32) (Q_conclusions_38 : (Nat → Int32)) (Q_premises_38 : (Nat → Int32)) (Q_counts_38 : (Nat → Int32)) (x1_38 : Int32) (x2_38 : Int32) (x3_38 : Int32) (x4_38 : Int32) (x5_38 : Int32) (s0_38 : Int32) : Option (Int32 × Int32 × Int32 × Int32 × Int32 × (Nat → Int32) × (Nat → Int32) × (Nat → Int32)) :=
  (f_Q_isTerm Q_all x5_38).bind fun r5 =>
  if r5 = 0 then
    f_Q_state_L73 Q_all Q_holes FU Q_thrown_38 Q_statements_38 Q_hitKind_38 Q_hits_38 Q_conclusions_38 Q_premises_38 Q_counts_38 x1_38 x2_38 x3_38 x4_38 x5_38 s0_38 r5 (0 : Int32) (0 : Int32)
  else
    gd (ixb x5_38 100) <|
    if (Q_holes x5_38.toNatClampNeg) = 0 then
      f_Q_state_L73 Q_all Q_holes FU Q_thrown_38 Q_statements_38 Q_hitKind_38 Q_hits_38 Q_conclusions_38 Q_premises_38 Q_counts_38 x1_38 x2_38 x3_38 x4_38 x5_38 s0_38 r5 (1 : Int32) (0 : Int32)
    else
      f_Q_state_L73 Q_all Q_holes FU Q_thrown_38 Q_statements_38 Q_hitKind_38 Q_hits_38 Q_conclusions_38 Q_premises_38 Q_counts_38 x1_38 x2_38 x3_38 x4_38 x5_38 s0_38 r5 (0 : Int32) (0 : Int32)
def f_Q_state (Q_thrown : Int32) (Q_all : Int32) (Q_statements : Int32) (Q_hitKind : Int32) (Q_hits : Int32) (Q_holes : (Nat → Int32)) (Q_conclusions : (Nat → Int32)) (Q_premises : (Nat → Int32)) (Q_counts : (Nat → Int32)) (p0 : Int32) (p1 : Int32) (p2 : Int32) (p3 : Int32) (p4 : Int32) : Option (Int32 × Int32 × Int32 × Int32 × Int32 × (Nat → Int32) × (Nat → Int32) × (Nat → Int32)) :=
  if p0 = (-1 : Int32) then
    f_Q_state_B38 Q_all Q_holes Q_thrown Q_statements Q_hitKind Q_hits Q_conclusions Q_premises Q_counts p0 p1 p2 p3 p4 (0 : Int32)
  else
    if p1 = (-1 : Int32) then
      f_Q_state_B38 Q_all Q_holes Q_thrown Q_statements Q_hitKind Q_hits Q_conclusions Q_premises Q_counts p0 p1 p2 p3 p4 (1 : Int32)
    else
      if p2 = (-1 : Int32) then
        f_Q_state_B38 Q_all Q_holes Q_thrown Q_statements Q_hitKind Q_hits Q_conclusions Q_premises Q_counts p0 p1 p2 p3 p4 (2 : Int32)
      else
        if p3 = (-1 : Int32) then
          f_Q_state_B38 Q_all Q_holes Q_thrown Q_statements Q_hitKind Q_hits Q_conclusions Q_premises Q_counts p0 p1 p2 p3 p4 (3 : Int32)
        else
          f_Q_state_B38 Q_all Q_holes Q_thrown Q_statements Q_hitKind Q_hits Q_conclusions Q_premises Q_counts p0 p1 p2 p3 p4 (4 : Int32)
abbrev rm_Q_state : Room := { frames := 1, cells := 0, slots := 0, locals := 21 }
set_option maxHeartbeats 4000000 in
set_option maxRecDepth 100000 in
theorem c_Q_state (l : Launch) (D : va_G) (cI cJ cZ : ClassId) (aQ aQ_kinds aQ_which aQ_firsts aQ_seconds aQ_thirds aQ_nexts aQ_heads aQ_names aQ_variables aQ_holes aQ_sizes aQ_places aQ_conclusions aQ_premises aQ_counts aQ_hitOf aQ_hitOne aQ_hitTwo aQ_hitTerms aQ_image aQ_bound aQ_waits aQ_waitsFor aQ_seen aQ_goals aQ_steps aQ_looked aQ_under aQ_taken aQ_news aQ_order aQ_there aQ_back : Nat) (sz : Nat) (Q_thrown : Int32) (Q_all : Int32) (Q_statements : Int32) (Q_hitKind : Int32) (Q_hits : Int32) (Q_tries : Int32) (Q_takenAll : Int32) (Q_takenFirst : Int32) (Q_holes : (Nat → Int32)) (Q_conclusions : (Nat → Int32)) (Q_premises : (Nat → Int32)) (Q_counts : (Nat → Int32)) (p0 : Int32) (p1 : Int32) (p2 : Int32) (p3 : Int32) (p4 : Int32) (o : Int32 × Int32 × Int32 × Int32 × Int32 × (Nat → Int32) × (Nat → Int32) × (Nat → Int32)) (hf : f_Q_state Q_thrown Q_all Q_statements Q_hitKind Q_hits Q_holes Q_conclusions Q_premises Q_counts p0 p1 p2 p3 p4 = some o) : Met l y_Q_state (ws_Q_state) rm_Q_state (WPc D vwCl cI cJ cZ [.ref aQ, .int p0, .int p1, .int p2, .int p3, .int p4] (wv_46 cI cJ cZ aQ aQ_kinds aQ_which aQ_firsts aQ_seconds aQ_thirds aQ_nexts aQ_heads aQ_names aQ_variables aQ_holes aQ_sizes aQ_places aQ_conclusions aQ_premises aQ_counts aQ_hitOf aQ_hitOne aQ_hitTwo aQ_hitTerms aQ_image aQ_bound aQ_waits aQ_waitsFor aQ_seen aQ_goals aQ_steps aQ_looked aQ_under aQ_taken aQ_news aQ_order aQ_there aQ_back Q_thrown Q_all Q_statements Q_hitKind Q_hits Q_tries Q_takenAll Q_takenFirst Q_holes Q_conclusions Q_premises Q_counts) sz) (WQ D vwCl (some (.int o.1)) (wv_46 cI cJ cZ aQ aQ_kinds aQ_which aQ_firsts aQ_seconds aQ_thirds aQ_nexts aQ_heads aQ_names aQ_variables aQ_holes aQ_sizes aQ_places aQ_conclusions aQ_premises aQ_counts aQ_hitOf aQ_hitOne aQ_hitTwo aQ_hitTerms aQ_image aQ_bound aQ_waits aQ_waitsFor aQ_seen aQ_goals aQ_steps aQ_looked aQ_under aQ_taken aQ_news aQ_order aQ_there aQ_back o.2.1 Q_all o.2.2.1 o.2.2.2.1 o.2.2.2.2.1 Q_tries Q_takenAll Q_takenFirst Q_holes o.2.2.2.2.2.1 o.2.2.2.2.2.2.1 o.2.2.2.2.2.2.2) (va_A (wv_46 cI cJ cZ aQ aQ_kinds aQ_which aQ_firsts aQ_seconds aQ_thirds aQ_nexts aQ_heads aQ_names aQ_variables aQ_holes aQ_sizes aQ_places aQ_conclusions aQ_premises aQ_counts aQ_hitOf aQ_hitOne aQ_hitTwo aQ_hitTerms aQ_image aQ_bound aQ_waits aQ_waitsFor aQ_seen aQ_goals aQ_steps aQ_looked aQ_under aQ_taken aQ_news aQ_order aQ_there aQ_back Q_thrown Q_all Q_statements Q_hitKind Q_hits Q_tries Q_takenAll Q_takenFirst Q_holes Q_conclusions Q_premises Q_counts) sz)) 0 0 (va_A (wv_46 cI cJ cZ aQ aQ_kinds aQ_which aQ_firsts aQ_seconds aQ_thirds aQ_nexts aQ_heads aQ_names aQ_variables aQ_holes aQ_sizes aQ_places aQ_conclusions aQ_premises aQ_counts aQ_hitOf aQ_hitOne aQ_hitTwo aQ_hitTerms aQ_image aQ_bound aQ_waits aQ_waitsFor aQ_seen aQ_goals aQ_steps aQ_looked aQ_under aQ_taken aQ_news aQ_order aQ_there aQ_back Q_thrown Q_all Q_statements Q_hitKind Q_hits Q_tries Q_takenAll Q_takenFirst Q_holes Q_conclusions Q_premises Q_counts) sz) := by
  refine Met.ofW (cc := b_Q_state) (maxL := 11) (ret := (some .int)) (by decide) rfl ?_
  intro p e s m args below meth c s₁ B hml hv
  obtain ⟨rfl, rfl, hP, hK, hD0⟩ := hv
  have hx := B.exec
  have hb := B.bytes
  have hr := B.returns
  have hts : ∀ w ∈ BG, w.before _ s = true := fun w h => atoms_spec (ws := (ws_Q_state)) B.pre w (List.mem_cons_of_mem _ h)
  have hown : s.vm.findClass RR_Q = some m.cls := findClass_of_methodNamed B.named
  have hlocks := B.notSynchronized
  have hD := hD0.self (sz := s.heap.size)
  have hA : ∀ q : Nat, s.heap.size ≤ q → va_A (wv_46 cI cJ cZ aQ aQ_kinds aQ_which aQ_firsts aQ_seconds aQ_thirds aQ_nexts aQ_heads aQ_names aQ_variables aQ_holes aQ_sizes aQ_places aQ_conclusions aQ_premises aQ_counts aQ_hitOf aQ_hitOne aQ_hitTwo aQ_hitTerms aQ_image aQ_bound aQ_waits aQ_waitsFor aQ_seen aQ_goals aQ_steps aQ_looked aQ_under aQ_taken aQ_news aQ_order aQ_there aQ_back Q_thrown Q_all Q_statements Q_hitKind Q_hits Q_tries Q_takenAll Q_takenFirst Q_holes Q_conclusions Q_premises Q_counts) s.heap.size q := fun q h => Or.inr h
  have hS : va_S (va_A (wv_46 cI cJ cZ aQ aQ_kinds aQ_which aQ_firsts aQ_seconds aQ_thirds aQ_nexts aQ_heads aQ_names aQ_variables aQ_holes aQ_sizes aQ_places aQ_conclusions aQ_premises aQ_counts aQ_hitOf aQ_hitOne aQ_hitTwo aQ_hitTerms aQ_image aQ_bound aQ_waits aQ_waitsFor aQ_seen aQ_goals aQ_steps aQ_looked aQ_under aQ_taken aQ_news aQ_order aQ_there aQ_back Q_thrown Q_all Q_statements Q_hitKind Q_hits Q_tries Q_takenAll Q_takenFirst Q_holes Q_conclusions Q_premises Q_counts) s.heap.size) s.heap s.heap [] := va_S.rf
  generalize va_A (wv_46 cI cJ cZ aQ aQ_kinds aQ_which aQ_firsts aQ_seconds aQ_thirds aQ_nexts aQ_heads aQ_names aQ_variables aQ_holes aQ_sizes aQ_places aQ_conclusions aQ_premises aQ_counts aQ_hitOf aQ_hitOne aQ_hitTwo aQ_hitTerms aQ_image aQ_bound aQ_waits aQ_waitsFor aQ_seen aQ_goals aQ_steps aQ_looked aQ_under aQ_taken aQ_news aQ_order aQ_there aQ_back Q_thrown Q_all Q_statements Q_hitKind Q_hits Q_tries Q_takenAll Q_takenFirst Q_holes Q_conclusions Q_premises Q_counts) s.heap.size = A at hD hA hS ⊢
  have hl := lv_entry ([.ref aQ, .int p0, .int p1, .int p2, .int p3, .int p4]) (n := 11) (Nat.le_of_ble_eq_true rfl)
  rw [lg_entry_eq]
  generalize (lg_sl ([.ref aQ, .int p0, .int p1, .int p2, .int p3, .int p4]) ++ List.replicate (11 - (lg_sl ([.ref aQ, .int p0, .int p1, .int p2, .int p3, .int p4])).length) Slot.unset).toArray = ls at hl ⊢
  have hl : lv_has ls 11 [(0, .ref aQ), (1, .int p0), (2, .int p1), (3, .int p2), (4, .int p3), (5, .int p4)] := hl
  have hL233 : ∀ (n233 : Nat), ∀ (Q_thrown_233 : Int32) (Q_statements_233 : Int32) (Q_hitKind_233 : Int32) (Q_hits_233 : Int32) (Q_conclusions_233 : (Nat → Int32)) (Q_premises_233 : (Nat → Int32)) (Q_counts_233 : (Nat → Int32)) (x1_233 : Int32) (x2_233 : Int32) (x3_233 : Int32) (x4_233 : Int32) (x6_233 : Int32) (x9_233 : Int32), ∀ (H : Heap) (locs : List Loc), va_P D vwCl (wv_46 cI cJ cZ aQ aQ_kinds aQ_which aQ_firsts aQ_seconds aQ_thirds aQ_nexts aQ_heads aQ_names aQ_variables aQ_holes aQ_sizes aQ_places aQ_conclusions aQ_premises aQ_counts aQ_hitOf aQ_hitOne aQ_hitTwo aQ_hitTerms aQ_image aQ_bound aQ_waits aQ_waitsFor aQ_seen aQ_goals aQ_steps aQ_looked aQ_under aQ_taken aQ_news aQ_order aQ_there aQ_back Q_thrown_233 Q_all Q_statements_233 Q_hitKind_233 Q_hits_233 Q_tries Q_takenAll Q_takenFirst Q_holes Q_conclusions_233 Q_premises_233 Q_counts_233) H → va_D A (wv_46 cI cJ cZ aQ aQ_kinds aQ_which aQ_firsts aQ_seconds aQ_thirds aQ_nexts aQ_heads aQ_names aQ_variables aQ_holes aQ_sizes aQ_places aQ_conclusions aQ_premises aQ_counts aQ_hitOf aQ_hitOne aQ_hitTwo aQ_hitTerms aQ_image aQ_bound aQ_waits aQ_waitsFor aQ_seen aQ_goals aQ_steps aQ_looked aQ_under aQ_taken aQ_news aQ_order aQ_there aQ_back Q_thrown_233 Q_all Q_statements_233 Q_hitKind_233 Q_hits_233 Q_tries Q_takenAll Q_takenFirst Q_holes Q_conclusions_233 Q_premises_233 Q_counts_233) → va_S A s.heap H locs → ∀ (ls : Array Slot), lv_has ls 11 [(0, .ref aQ), (1, .int x1_233), (2, .int x2_233), (3, .int x3_233), (4, .int x4_233), (6, .int x6_233), (9, .int x9_233)] → f_Q_state_L233 Q_all Q_holes n233 Q_thrown_233 Q_statements_233 Q_hitKind_233 Q_hits_233 Q_conclusions_233 Q_premises_233 Q_counts_233 x1_233 x2_233 x3_233 x4_233 x6_233 x9_233 = some o → W p l e (headSpec (ws_Q_state) rm_Q_state).room s m ([.ref aQ, .int p0, .int p1, .int p2, .int p3, .int p4] : List Value).toArray below meth c H locs 0 0 (MQ below (WQ D vwCl (some (.int o.1)) (wv_46 cI cJ cZ aQ aQ_kinds aQ_which aQ_firsts aQ_seconds aQ_thirds aQ_nexts aQ_heads aQ_names aQ_variables aQ_holes aQ_sizes aQ_places aQ_conclusions aQ_premises aQ_counts aQ_hitOf aQ_hitOne aQ_hitTwo aQ_hitTerms aQ_image aQ_bound aQ_waits aQ_waitsFor aQ_seen aQ_goals aQ_steps aQ_looked aQ_under aQ_taken aQ_news aQ_order aQ_there aQ_back o.2.1 Q_all o.2.2.1 o.2.2.2.1 o.2.2.2.2.1 Q_tries Q_takenAll Q_takenFirst Q_holes o.2.2.2.2.2.1 o.2.2.2.2.2.2.1 o.2.2.2.2.2.2.2) A) ([.ref aQ, .int p0, .int p1, .int p2, .int p3, .int p4] : List Value).toArray s 0 0 A) (F0 m 233 ls []) := by
    intro n233
    induction n233 with
    | zero =>
      intro Q_thrown_233 Q_statements_233 Q_hitKind_233 Q_hits_233 Q_conclusions_233 Q_premises_233 Q_counts_233 x1_233 x2_233 x3_233 x4_233 x6_233 x9_233 H locs hP hD hS ls hl hf
      rw [f_Q_state_L233] at hf
      cases hf
    | succ n233 ih233 =>
      intro Q_thrown_233 Q_statements_233 Q_hitKind_233 Q_hits_233 Q_conclusions_233 Q_premises_233 Q_counts_233 x1_233 x2_233 x3_233 x4_233 x6_233 x9_233 H locs hP hD hS ls hl hf
      rw [f_Q_state_L233] at hf
      refine lv_iload hx hb d_Q_state_233 (lv_at hl 6 rfl) ?_
      refine lv_iload hx hb d_Q_state_235 (lv_at hl 5 rfl) ?_
      refine lv_icmp_ge (tgt := 291) hx hb d_Q_state_237 (by decide) (fun c33 => ?_) (fun c33 => ?_)
      · have hf := ite_t c33 hf
        refine lv_aload_n hx hb d_Q_state_291 rfl (lv_at hl 0 rfl) ?_
        refine lv_dup hx hb d_Q_state_292 rfl ?_
        refine va_get (D := D) (ci := 7) (v := .int Q_statements_233) (C := RR_Q) (T := FF_Q) (N := 41) hx hb hts kin_Q hown hK.1 hP 0 rfl rfl 17 (by decide) (hts _ k4_84) (fun _ h9 => h9) rfl d_Q_state_293 ?_
        refine lv_iconst (v := 1) hx hb d_Q_state_296 (by decide) ?_
        refine lv_iadd hx hb d_Q_state_297 ?_
        refine lv_topi (fun x34 ex34 => ?_)
        have hf := of_nm ex34 hf
        refine va_put (D := D) (ci := 7) (v := .int x34) (ty := .int) (C := RR_Q) (T := FF_Q) (N := 41) hx hb hts kin_Q TT_Q tok_Q nok_Q hown hK.1 hP hD hS 0 rfl rfl 17 (by decide) (hts _ k4_84) (fun _ h9 => h9) rfl (by decide +kernel) rfl rfl (Nat.le_of_ble_eq_true rfl) d_Q_state_298 (fun H locs hP hD hS => ?_)
        have hP : va_P D vwCl (wv_46 cI cJ cZ aQ aQ_kinds aQ_which aQ_firsts aQ_seconds aQ_thirds aQ_nexts aQ_heads aQ_names aQ_variables aQ_holes aQ_sizes aQ_places aQ_conclusions aQ_premises aQ_counts aQ_hitOf aQ_hitOne aQ_hitTwo aQ_hitTerms aQ_image aQ_bound aQ_waits aQ_waitsFor aQ_seen aQ_goals aQ_steps aQ_looked aQ_under aQ_taken aQ_news aQ_order aQ_there aQ_back Q_thrown_233 Q_all x34 Q_hitKind_233 Q_hits_233 Q_tries Q_takenAll Q_takenFirst Q_holes Q_conclusions_233 Q_premises_233 Q_counts_233) H := hP
        have hD : va_D A (wv_46 cI cJ cZ aQ aQ_kinds aQ_which aQ_firsts aQ_seconds aQ_thirds aQ_nexts aQ_heads aQ_names aQ_variables aQ_holes aQ_sizes aQ_places aQ_conclusions aQ_premises aQ_counts aQ_hitOf aQ_hitOne aQ_hitTwo aQ_hitTerms aQ_image aQ_bound aQ_waits aQ_waitsFor aQ_seen aQ_goals aQ_steps aQ_looked aQ_under aQ_taken aQ_news aQ_order aQ_there aQ_back Q_thrown_233 Q_all x34 Q_hitKind_233 Q_hits_233 Q_tries Q_takenAll Q_takenFirst Q_holes Q_conclusions_233 Q_premises_233 Q_counts_233) := hD
        refine lv_aload_n hx hb d_Q_state_301 rfl (lv_at hl 0 rfl) ?_
        refine lv_iconst (v := 0) hx hb d_Q_state_302 (by decide) ?_
        refine va_put (D := D) (ci := 7) (v := .int (0 : Int32)) (ty := .int) (C := RR_Q) (T := FF_Q) (N := 41) hx hb hts kin_Q TT_Q tok_Q nok_Q hown hK.1 hP hD hS 0 rfl rfl 19 (by decide) (hts _ k4_86) (fun _ h9 => h9) rfl (by decide +kernel) rfl rfl (Nat.le_of_ble_eq_true rfl) d_Q_state_303 (fun H locs hP hD hS => ?_)
        have hP : va_P D vwCl (wv_46 cI cJ cZ aQ aQ_kinds aQ_which aQ_firsts aQ_seconds aQ_thirds aQ_nexts aQ_heads aQ_names aQ_variables aQ_holes aQ_sizes aQ_places aQ_conclusions aQ_premises aQ_counts aQ_hitOf aQ_hitOne aQ_hitTwo aQ_hitTerms aQ_image aQ_bound aQ_waits aQ_waitsFor aQ_seen aQ_goals aQ_steps aQ_looked aQ_under aQ_taken aQ_news aQ_order aQ_there aQ_back Q_thrown_233 Q_all x34 Q_hitKind_233 (0 : Int32) Q_tries Q_takenAll Q_takenFirst Q_holes Q_conclusions_233 Q_premises_233 Q_counts_233) H := hP
        have hD : va_D A (wv_46 cI cJ cZ aQ aQ_kinds aQ_which aQ_firsts aQ_seconds aQ_thirds aQ_nexts aQ_heads aQ_names aQ_variables aQ_holes aQ_sizes aQ_places aQ_conclusions aQ_premises aQ_counts aQ_hitOf aQ_hitOne aQ_hitTwo aQ_hitTerms aQ_image aQ_bound aQ_waits aQ_waitsFor aQ_seen aQ_goals aQ_steps aQ_looked aQ_under aQ_taken aQ_news aQ_order aQ_there aQ_back Q_thrown_233 Q_all x34 Q_hitKind_233 (0 : Int32) Q_tries Q_takenAll Q_takenFirst Q_holes Q_conclusions_233 Q_premises_233 Q_counts_233) := hD
        refine lv_aload_n hx hb d_Q_state_306 rfl (lv_at hl 0 rfl) ?_
        refine lv_iconst (v := 0) hx hb d_Q_state_307 (by decide) ?_
        refine va_put (D := D) (ci := 7) (v := .int (0 : Int32)) (ty := .int) (C := RR_Q) (T := FF_Q) (N := 41) hx hb hts kin_Q TT_Q tok_Q nok_Q hown hK.1 hP hD hS 0 rfl rfl 18 (by decide) (hts _ k4_85) (fun _ h9 => h9) rfl (by decide +kernel) rfl rfl (Nat.le_of_ble_eq_true rfl) d_Q_state_308 (fun H locs hP hD hS => ?_)
        have hP : va_P D vwCl (wv_46 cI cJ cZ aQ aQ_kinds aQ_which aQ_firsts aQ_seconds aQ_thirds aQ_nexts aQ_heads aQ_names aQ_variables aQ_holes aQ_sizes aQ_places aQ_conclusions aQ_premises aQ_counts aQ_hitOf aQ_hitOne aQ_hitTwo aQ_hitTerms aQ_image aQ_bound aQ_waits aQ_waitsFor aQ_seen aQ_goals aQ_steps aQ_looked aQ_under aQ_taken aQ_news aQ_order aQ_there aQ_back Q_thrown_233 Q_all x34 (0 : Int32) (0 : Int32) Q_tries Q_takenAll Q_takenFirst Q_holes Q_conclusions_233 Q_premises_233 Q_counts_233) H := hP
        have hD : va_D A (wv_46 cI cJ cZ aQ aQ_kinds aQ_which aQ_firsts aQ_seconds aQ_thirds aQ_nexts aQ_heads aQ_names aQ_variables aQ_holes aQ_sizes aQ_places aQ_conclusions aQ_premises aQ_counts aQ_hitOf aQ_hitOne aQ_hitTwo aQ_hitTerms aQ_image aQ_bound aQ_waits aQ_waitsFor aQ_seen aQ_goals aQ_steps aQ_looked aQ_under aQ_taken aQ_news aQ_order aQ_there aQ_back Q_thrown_233 Q_all x34 (0 : Int32) (0 : Int32) Q_tries Q_takenAll Q_takenFirst Q_holes Q_conclusions_233 Q_premises_233 Q_counts_233) := hD
        refine lv_aload_n hx hb d_Q_state_311 rfl (lv_at hl 0 rfl) ?_
        refine va_get (D := D) (ci := 7) (v := .int x34) (C := RR_Q) (T := FF_Q) (N := 41) hx hb hts kin_Q hown hK.1 hP 0 rfl rfl 17 (by decide) (hts _ k4_84) (fun _ h9 => h9) rfl d_Q_state_312 ?_
        refine lv_iconst (v := 1) hx hb d_Q_state_315 (by decide) ?_
        refine lv_isub hx hb d_Q_state_316 ?_
        obtain rfl := Option.some.inj hf
        exact W.iret (v := x34 - (1 : Int32)) hx hb hr (fun t ht hW => ⟨rfl, by rw [ht]; exact hP, hD, hS.F ht⟩) hS.2.2 d_Q_state_317
      · have hf := ite_f c33 hf
        refine lv_aload_n hx hb d_Q_state_240 rfl (lv_at hl 0 rfl) ?_
        refine va_get (D := D) (ci := 7) (v := .ref aQ_premises) (C := RR_Q) (T := FF_Q) (N := 41) hx hb hts kin_Q hown hK.1 hP 0 rfl rfl 15 (by decide) (hts _ k4_82) (fun _ h9 => h9) rfl d_Q_state_241 ?_
        refine lv_iconst (v := 4) hx hb d_Q_state_244 (by decide) ?_
        refine lv_aload_n hx hb d_Q_state_245 rfl (lv_at hl 0 rfl) ?_
        refine va_get (D := D) (ci := 7) (v := .int Q_statements_233) (C := RR_Q) (T := FF_Q) (N := 41) hx hb hts kin_Q hown hK.1 hP 0 rfl rfl 17 (by decide) (hts _ k4_84) (fun _ h9 => h9) rfl d_Q_state_246 ?_
        refine lv_imul hx hb d_Q_state_249 ?_
        refine lv_iload hx hb d_Q_state_250 (lv_at hl 6 rfl) ?_
        refine lv_iadd hx hb d_Q_state_252 ?_
        refine lv_iload hx hb d_Q_state_253 (lv_at hl 6 rfl) ?_
        refine lv_if_ne (tgt := 262) hx hb d_Q_state_255 (by decide) (fun c35 => ?_) (fun c35 => ?_)
        · have hf := ite_f c35 hf
          refine lv_iload hx hb d_Q_state_262 (lv_at hl 6 rfl) ?_
          refine lv_iconst (v := 1) hx hb d_Q_state_264 (by decide) ?_
          refine lv_icmp_ne (tgt := 272) hx hb d_Q_state_265 (by decide) (fun c36 => ?_) (fun c36 => ?_)
          · have hf := ite_f c36 hf
            refine lv_iload hx hb d_Q_state_272 (lv_at hl 6 rfl) ?_
            refine lv_iconst (v := 2) hx hb d_Q_state_274 (by decide) ?_
            refine lv_icmp_ne (tgt := 282) hx hb d_Q_state_275 (by decide) (fun c37 => ?_) (fun c37 => ?_)
            · have hf := ite_f c37 hf
              refine lv_iload hx hb d_Q_state_282 (lv_at hl 4 rfl) ?_
              obtain ⟨h38, hf⟩ := of_gd hf
              obtain ⟨g39, eg39⟩ : ∃ y : Nat → Int32, y = upd Q_premises_233 (((4 : Int32) * Q_statements_233) + x9_233).toNatClampNeg x4_233 := ⟨_, rfl⟩
              have hf := of_nm eg39 hf
              refine va_iast hx hb hK.1 hP hD hS 3 0 rfl rfl (ixb_in h38) d_Q_state_284 (fun H locs hP hD hS => ?_)
              rw [← eg39] at hP hD
              have hP : va_P D vwCl (wv_46 cI cJ cZ aQ aQ_kinds aQ_which aQ_firsts aQ_seconds aQ_thirds aQ_nexts aQ_heads aQ_names aQ_variables aQ_holes aQ_sizes aQ_places aQ_conclusions aQ_premises aQ_counts aQ_hitOf aQ_hitOne aQ_hitTwo aQ_hitTerms aQ_image aQ_bound aQ_waits aQ_waitsFor aQ_seen aQ_goals aQ_steps aQ_looked aQ_under aQ_taken aQ_news aQ_order aQ_there aQ_back Q_thrown_233 Q_all Q_statements_233 Q_hitKind_233 Q_hits_233 Q_tries Q_takenAll Q_takenFirst Q_holes Q_conclusions_233 g39 Q_counts_233) H := hP
              have hD : va_D A (wv_46 cI cJ cZ aQ aQ_kinds aQ_which aQ_firsts aQ_seconds aQ_thirds aQ_nexts aQ_heads aQ_names aQ_variables aQ_holes aQ_sizes aQ_places aQ_conclusions aQ_premises aQ_counts aQ_hitOf aQ_hitOne aQ_hitTwo aQ_hitTerms aQ_image aQ_bound aQ_waits aQ_waitsFor aQ_seen aQ_goals aQ_steps aQ_looked aQ_under aQ_taken aQ_news aQ_order aQ_there aQ_back Q_thrown_233 Q_all Q_statements_233 Q_hitKind_233 Q_hits_233 Q_tries Q_takenAll Q_takenFirst Q_holes Q_conclusions_233 g39 Q_counts_233) := hD
              obtain ⟨x40, ex40⟩ : ∃ y : Int32, y = x9_233 + (1 : Int32) := ⟨_, rfl⟩
              refine lv_iinc (v := x40) (lv' := [(9, .int x40), (0, .ref aQ), (1, .int x1_233), (2, .int x2_233), (3, .int x3_233), (4, .int x4_233), (6, .int x6_233)]) hx hb d_Q_state_285 hl (k := 6) rfl (by rw [ex40]; rfl) (by decide) rfl (fun ls hl => ?_)
              have hf := of_nm ex40 hf
              refine lv_goto (tgt := 233) hx hb d_Q_state_288 (by decide) ?_
              exact ih233 _ _ _ _ _ _ _ _ _ _ _ _ _ _ _ hP hD hS _ (lv_sub hl [1, 2, 3, 4, 5, 6, 0] rfl) hf
            · have hf := ite_t c37 hf
              refine lv_iload_n hx hb d_Q_state_278 rfl (lv_at hl 3 rfl) ?_
              refine lv_goto (tgt := 284) hx hb d_Q_state_279 (by decide) ?_
              obtain ⟨h41, hf⟩ := of_gd hf
              obtain ⟨g42, eg42⟩ : ∃ y : Nat → Int32, y = upd Q_premises_233 (((4 : Int32) * Q_statements_233) + x9_233).toNatClampNeg x3_233 := ⟨_, rfl⟩
              have hf := of_nm eg42 hf
              refine va_iast hx hb hK.1 hP hD hS 3 0 rfl rfl (ixb_in h41) d_Q_state_284 (fun H locs hP hD hS => ?_)
              rw [← eg42] at hP hD
              have hP : va_P D vwCl (wv_46 cI cJ cZ aQ aQ_kinds aQ_which aQ_firsts aQ_seconds aQ_thirds aQ_nexts aQ_heads aQ_names aQ_variables aQ_holes aQ_sizes aQ_places aQ_conclusions aQ_premises aQ_counts aQ_hitOf aQ_hitOne aQ_hitTwo aQ_hitTerms aQ_image aQ_bound aQ_waits aQ_waitsFor aQ_seen aQ_goals aQ_steps aQ_looked aQ_under aQ_taken aQ_news aQ_order aQ_there aQ_back Q_thrown_233 Q_all Q_statements_233 Q_hitKind_233 Q_hits_233 Q_tries Q_takenAll Q_takenFirst Q_holes Q_conclusions_233 g42 Q_counts_233) H := hP
              have hD : va_D A (wv_46 cI cJ cZ aQ aQ_kinds aQ_which aQ_firsts aQ_seconds aQ_thirds aQ_nexts aQ_heads aQ_names aQ_variables aQ_holes aQ_sizes aQ_places aQ_conclusions aQ_premises aQ_counts aQ_hitOf aQ_hitOne aQ_hitTwo aQ_hitTerms aQ_image aQ_bound aQ_waits aQ_waitsFor aQ_seen aQ_goals aQ_steps aQ_looked aQ_under aQ_taken aQ_news aQ_order aQ_there aQ_back Q_thrown_233 Q_all Q_statements_233 Q_hitKind_233 Q_hits_233 Q_tries Q_takenAll Q_takenFirst Q_holes Q_conclusions_233 g42 Q_counts_233) := hD
              obtain ⟨x43, ex43⟩ : ∃ y : Int32, y = x9_233 + (1 : Int32) := ⟨_, rfl⟩
              refine lv_iinc (v := x43) (lv' := [(9, .int x43), (0, .ref aQ), (1, .int x1_233), (2, .int x2_233), (3, .int x3_233), (4, .int x4_233), (6, .int x6_233)]) hx hb d_Q_state_285 hl (k := 6) rfl (by rw [ex43]; rfl) (by decide) rfl (fun ls hl => ?_)
              have hf := of_nm ex43 hf
              refine lv_goto (tgt := 233) hx hb d_Q_state_288 (by decide) ?_
              exact ih233 _ _ _ _ _ _ _ _ _ _ _ _ _ _ _ hP hD hS _ (lv_sub hl [1, 2, 3, 4, 5, 6, 0] rfl) hf
          · have hf := ite_t c36 hf
            refine lv_iload_n hx hb d_Q_state_268 rfl (lv_at hl 2 rfl) ?_
            refine lv_goto (tgt := 284) hx hb d_Q_state_269 (by decide) ?_
            obtain ⟨h44, hf⟩ := of_gd hf
            obtain ⟨g45, eg45⟩ : ∃ y : Nat → Int32, y = upd Q_premises_233 (((4 : Int32) * Q_statements_233) + x9_233).toNatClampNeg x2_233 := ⟨_, rfl⟩
            have hf := of_nm eg45 hf
            refine va_iast hx hb hK.1 hP hD hS 3 0 rfl rfl (ixb_in h44) d_Q_state_284 (fun H locs hP hD hS => ?_)
            rw [← eg45] at hP hD
            have hP : va_P D vwCl (wv_46 cI cJ cZ aQ aQ_kinds aQ_which aQ_firsts aQ_seconds aQ_thirds aQ_nexts aQ_heads aQ_names aQ_variables aQ_holes aQ_sizes aQ_places aQ_conclusions aQ_premises aQ_counts aQ_hitOf aQ_hitOne aQ_hitTwo aQ_hitTerms aQ_image aQ_bound aQ_waits aQ_waitsFor aQ_seen aQ_goals aQ_steps aQ_looked aQ_under aQ_taken aQ_news aQ_order aQ_there aQ_back Q_thrown_233 Q_all Q_statements_233 Q_hitKind_233 Q_hits_233 Q_tries Q_takenAll Q_takenFirst Q_holes Q_conclusions_233 g45 Q_counts_233) H := hP
            have hD : va_D A (wv_46 cI cJ cZ aQ aQ_kinds aQ_which aQ_firsts aQ_seconds aQ_thirds aQ_nexts aQ_heads aQ_names aQ_variables aQ_holes aQ_sizes aQ_places aQ_conclusions aQ_premises aQ_counts aQ_hitOf aQ_hitOne aQ_hitTwo aQ_hitTerms aQ_image aQ_bound aQ_waits aQ_waitsFor aQ_seen aQ_goals aQ_steps aQ_looked aQ_under aQ_taken aQ_news aQ_order aQ_there aQ_back Q_thrown_233 Q_all Q_statements_233 Q_hitKind_233 Q_hits_233 Q_tries Q_takenAll Q_takenFirst Q_holes Q_conclusions_233 g45 Q_counts_233) := hD
            obtain ⟨x46, ex46⟩ : ∃ y : Int32, y = x9_233 + (1 : Int32) := ⟨_, rfl⟩
            refine lv_iinc (v := x46) (lv' := [(9, .int x46), (0, .ref aQ), (1, .int x1_233), (2, .int x2_233), (3, .int x3_233), (4, .int x4_233), (6, .int x6_233)]) hx hb d_Q_state_285 hl (k := 6) rfl (by rw [ex46]; rfl) (by decide) rfl (fun ls hl => ?_)
            have hf := of_nm ex46 hf
            refine lv_goto (tgt := 233) hx hb d_Q_state_288 (by decide) ?_
            exact ih233 _ _ _ _ _ _ _ _ _ _ _ _ _ _ _ hP hD hS _ (lv_sub hl [1, 2, 3, 4, 5, 6, 0] rfl) hf
        · have hf := ite_t c35 hf
          refine lv_iload_n hx hb d_Q_state_258 rfl (lv_at hl 1 rfl) ?_
          refine lv_goto (tgt := 284) hx hb d_Q_state_259 (by decide) ?_
          obtain ⟨h47, hf⟩ := of_gd hf
          obtain ⟨g48, eg48⟩ : ∃ y : Nat → Int32, y = upd Q_premises_233 (((4 : Int32) * Q_statements_233) + x9_233).toNatClampNeg x1_233 := ⟨_, rfl⟩
          have hf := of_nm eg48 hf
          refine va_iast hx hb hK.1 hP hD hS 3 0 rfl rfl (ixb_in h47) d_Q_state_284 (fun H locs hP hD hS => ?_)
          rw [← eg48] at hP hD
          have hP : va_P D vwCl (wv_46 cI cJ cZ aQ aQ_kinds aQ_which aQ_firsts aQ_seconds aQ_thirds aQ_nexts aQ_heads aQ_names aQ_variables aQ_holes aQ_sizes aQ_places aQ_conclusions aQ_premises aQ_counts aQ_hitOf aQ_hitOne aQ_hitTwo aQ_hitTerms aQ_image aQ_bound aQ_waits aQ_waitsFor aQ_seen aQ_goals aQ_steps aQ_looked aQ_under aQ_taken aQ_news aQ_order aQ_there aQ_back Q_thrown_233 Q_all Q_statements_233 Q_hitKind_233 Q_hits_233 Q_tries Q_takenAll Q_takenFirst Q_holes Q_conclusions_233 g48 Q_counts_233) H := hP
          have hD : va_D A (wv_46 cI cJ cZ aQ aQ_kinds aQ_which aQ_firsts aQ_seconds aQ_thirds aQ_nexts aQ_heads aQ_names aQ_variables aQ_holes aQ_sizes aQ_places aQ_conclusions aQ_premises aQ_counts aQ_hitOf aQ_hitOne aQ_hitTwo aQ_hitTerms aQ_image aQ_bound aQ_waits aQ_waitsFor aQ_seen aQ_goals aQ_steps aQ_looked aQ_under aQ_taken aQ_news aQ_order aQ_there aQ_back Q_thrown_233 Q_all Q_statements_233 Q_hitKind_233 Q_hits_233 Q_tries Q_takenAll Q_takenFirst Q_holes Q_conclusions_233 g48 Q_counts_233) := hD
          obtain ⟨x49, ex49⟩ : ∃ y : Int32, y = x9_233 + (1 : Int32) := ⟨_, rfl⟩
          refine lv_iinc (v := x49) (lv' := [(9, .int x49), (0, .ref aQ), (1, .int x1_233), (2, .int x2_233), (3, .int x3_233), (4, .int x4_233), (6, .int x6_233)]) hx hb d_Q_state_285 hl (k := 6) rfl (by rw [ex49]; rfl) (by decide) rfl (fun ls hl => ?_)
          have hf := of_nm ex49 hf
          refine lv_goto (tgt := 233) hx hb d_Q_state_288 (by decide) ?_
          exact ih233 _ _ _ _ _ _ _ _ _ _ _ _ _ _ _ hP hD hS _ (lv_sub hl [1, 2, 3, 4, 5, 6, 0] rfl) hf
  have hB200 : ∀ (Q_thrown_200 : Int32) (Q_statements_200 : Int32) (Q_hitKind_200 : Int32) (Q_hits_200 : Int32) (Q_conclusions_200 : (Nat → Int32)) (Q_premises_200 : (Nat → Int32)) (Q_counts_200 : (Nat → Int32)) (x1_200 : Int32) (x2_200 : Int32) (x3_200 : Int32) (x4_200 : Int32) (x5_200 : Int32) (x6_200 : Int32) (s1_200 : Int32), ∀ (H : Heap) (locs : List Loc), va_P D vwCl (wv_46 cI cJ cZ aQ aQ_kinds aQ_which aQ_firsts aQ_seconds aQ_thirds aQ_nexts aQ_heads aQ_names aQ_variables aQ_holes aQ_sizes aQ_places aQ_conclusions aQ_premises aQ_counts aQ_hitOf aQ_hitOne aQ_hitTwo aQ_hitTerms aQ_image aQ_bound aQ_waits aQ_waitsFor aQ_seen aQ_goals aQ_steps aQ_looked aQ_under aQ_taken aQ_news aQ_order aQ_there aQ_back Q_thrown_200 Q_all Q_statements_200 Q_hitKind_200 Q_hits_200 Q_tries Q_takenAll Q_takenFirst Q_holes Q_conclusions_200 Q_premises_200 Q_counts_200) H → va_D A (wv_46 cI cJ cZ aQ aQ_kinds aQ_which aQ_firsts aQ_seconds aQ_thirds aQ_nexts aQ_heads aQ_names aQ_variables aQ_holes aQ_sizes aQ_places aQ_conclusions aQ_premises aQ_counts aQ_hitOf aQ_hitOne aQ_hitTwo aQ_hitTerms aQ_image aQ_bound aQ_waits aQ_waitsFor aQ_seen aQ_goals aQ_steps aQ_looked aQ_under aQ_taken aQ_news aQ_order aQ_there aQ_back Q_thrown_200 Q_all Q_statements_200 Q_hitKind_200 Q_hits_200 Q_tries Q_takenAll Q_takenFirst Q_holes Q_conclusions_200 Q_premises_200 Q_counts_200) → va_S A s.heap H locs → ∀ (ls : Array Slot), lv_has ls 11 [(0, .ref aQ), (1, .int x1_200), (2, .int x2_200), (3, .int x3_200), (4, .int x4_200), (5, .int x5_200), (6, .int x6_200)] → f_Q_state_B200 Q_all Q_holes Q_thrown_200 Q_statements_200 Q_hitKind_200 Q_hits_200 Q_conclusions_200 Q_premises_200 Q_counts_200 x1_200 x2_200 x3_200 x4_200 x5_200 x6_200 s1_200 = some o → W p l e (headSpec (ws_Q_state) rm_Q_state).room s m ([.ref aQ, .int p0, .int p1, .int p2, .int p3, .int p4] : List Value).toArray below meth c H locs 0 0 (MQ below (WQ D vwCl (some (.int o.1)) (wv_46 cI cJ cZ aQ aQ_kinds aQ_which aQ_firsts aQ_seconds aQ_thirds aQ_nexts aQ_heads aQ_names aQ_variables aQ_holes aQ_sizes aQ_places aQ_conclusions aQ_premises aQ_counts aQ_hitOf aQ_hitOne aQ_hitTwo aQ_hitTerms aQ_image aQ_bound aQ_waits aQ_waitsFor aQ_seen aQ_goals aQ_steps aQ_looked aQ_under aQ_taken aQ_news aQ_order aQ_there aQ_back o.2.1 Q_all o.2.2.1 o.2.2.2.1 o.2.2.2.2.1 Q_tries Q_takenAll Q_takenFirst Q_holes o.2.2.2.2.2.1 o.2.2.2.2.2.2.1 o.2.2.2.2.2.2.2) A) ([.ref aQ, .int p0, .int p1, .int p2, .int p3, .int p4] : List Value).toArray s 0 0 A) (F0 m 200 ls [.int s1_200, .ref aQ]) := by
    intro Q_thrown_200 Q_statements_200 Q_hitKind_200 Q_hits_200 Q_conclusions_200 Q_premises_200 Q_counts_200 x1_200 x2_200 x3_200 x4_200 x5_200 x6_200 s1_200 H locs hP hD hS ls hl hf
    rw [f_Q_state_B200] at hf
    obtain ⟨r27, hr27, hf⟩ := of_bd hf
    refine wr_call (ws' := (wv_46 cI cJ cZ aQ aQ_kinds aQ_which aQ_firsts aQ_seconds aQ_thirds aQ_nexts aQ_heads aQ_names aQ_variables aQ_holes aQ_sizes aQ_places aQ_conclusions aQ_premises aQ_counts aQ_hitOf aQ_hitOne aQ_hitTwo aQ_hitTerms aQ_image aQ_bound aQ_waits aQ_waitsFor aQ_seen aQ_goals aQ_steps aQ_looked aQ_under aQ_taken aQ_news aQ_order aQ_there aQ_back r27.2 Q_all Q_statements_200 Q_hitKind_200 Q_hits_200 Q_tries Q_takenAll Q_takenFirst Q_holes Q_conclusions_200 Q_premises_200 Q_counts_200)) (va_runV (As := [.int s1_200]) (rest := []) ⟨hx, hb, hml, hown, hts⟩ (c_Q_refuses l D cI cJ cZ aQ aQ_kinds aQ_which aQ_firsts aQ_seconds aQ_thirds aQ_nexts aQ_heads aQ_names aQ_variables aQ_holes aQ_sizes aQ_places aQ_conclusions aQ_premises aQ_counts aQ_hitOf aQ_hitOne aQ_hitTwo aQ_hitTerms aQ_image aQ_bound aQ_waits aQ_waitsFor aQ_seen aQ_goals aQ_steps aQ_looked aQ_under aQ_taken aQ_news aQ_order aQ_there aQ_back _ Q_thrown_200 Q_all Q_statements_200 Q_hitKind_200 Q_hits_200 Q_tries Q_takenAll Q_takenFirst s1_200 r27 hr27) (bigV 1 hts k4_203 k4_205 ks_Q_refuses k1_9 k4_206 rfl rfl hd_Q_refuses ⟨Nat.le_of_ble_eq_true rfl, Nat.le_of_ble_eq_true rfl⟩) (wr_preV hK hP hD [0] rfl (by decide) rfl 0 rfl rfl rfl) rfl rfl hl.1 rfl (lv_room (Nat.le_of_ble_eq_true rfl)) d_Q_state_200 ⟨Nat.le_of_ble_eq_true rfl, Nat.le_of_ble_eq_true rfl⟩) hP hD hS hA [0] [1, 2, 3, 4] rfl rfl (by decide) (by decide) [4, 0, 1, 2, 3] (by decide) rfl (fun H locs hP hD hS => ?_)
    refine lv_if_eq (tgt := 208) hx hb d_Q_state_203 (by decide) (fun c28 => ?_) (fun c28 => ?_)
    · have hf := ite_t c28 hf
      refine lv_aload_n hx hb d_Q_state_208 rfl (lv_at hl 0 rfl) ?_
      refine va_get (D := D) (ci := 7) (v := .ref aQ_conclusions) (C := RR_Q) (T := FF_Q) (N := 41) hx hb hts kin_Q hown hK.1 hP 0 rfl rfl 14 (by decide) (hts _ k4_81) (fun _ h9 => h9) rfl d_Q_state_209 ?_
      refine lv_aload_n hx hb d_Q_state_212 rfl (lv_at hl 0 rfl) ?_
      refine va_get (D := D) (ci := 7) (v := .int Q_statements_200) (C := RR_Q) (T := FF_Q) (N := 41) hx hb hts kin_Q hown hK.1 hP 0 rfl rfl 17 (by decide) (hts _ k4_84) (fun _ h9 => h9) rfl d_Q_state_213 ?_
      refine lv_iload hx hb d_Q_state_216 (lv_at hl 5 rfl) ?_
      obtain ⟨h29, hf⟩ := of_gd hf
      obtain ⟨g30, eg30⟩ : ∃ y : Nat → Int32, y = upd Q_conclusions_200 Q_statements_200.toNatClampNeg x5_200 := ⟨_, rfl⟩
      have hf := of_nm eg30 hf
      refine va_iast hx hb hK.1 hP hD hS 2 0 rfl rfl (ixb_in h29) d_Q_state_218 (fun H locs hP hD hS => ?_)
      rw [← eg30] at hP hD
      have hP : va_P D vwCl (wv_46 cI cJ cZ aQ aQ_kinds aQ_which aQ_firsts aQ_seconds aQ_thirds aQ_nexts aQ_heads aQ_names aQ_variables aQ_holes aQ_sizes aQ_places aQ_conclusions aQ_premises aQ_counts aQ_hitOf aQ_hitOne aQ_hitTwo aQ_hitTerms aQ_image aQ_bound aQ_waits aQ_waitsFor aQ_seen aQ_goals aQ_steps aQ_looked aQ_under aQ_taken aQ_news aQ_order aQ_there aQ_back r27.2 Q_all Q_statements_200 Q_hitKind_200 Q_hits_200 Q_tries Q_takenAll Q_takenFirst Q_holes g30 Q_premises_200 Q_counts_200) H := hP
      have hD : va_D A (wv_46 cI cJ cZ aQ aQ_kinds aQ_which aQ_firsts aQ_seconds aQ_thirds aQ_nexts aQ_heads aQ_names aQ_variables aQ_holes aQ_sizes aQ_places aQ_conclusions aQ_premises aQ_counts aQ_hitOf aQ_hitOne aQ_hitTwo aQ_hitTerms aQ_image aQ_bound aQ_waits aQ_waitsFor aQ_seen aQ_goals aQ_steps aQ_looked aQ_under aQ_taken aQ_news aQ_order aQ_there aQ_back r27.2 Q_all Q_statements_200 Q_hitKind_200 Q_hits_200 Q_tries Q_takenAll Q_takenFirst Q_holes g30 Q_premises_200 Q_counts_200) := hD
      refine lv_aload_n hx hb d_Q_state_219 rfl (lv_at hl 0 rfl) ?_
      refine va_get (D := D) (ci := 7) (v := .ref aQ_counts) (C := RR_Q) (T := FF_Q) (N := 41) hx hb hts kin_Q hown hK.1 hP 0 rfl rfl 16 (by decide) (hts _ k4_83) (fun _ h9 => h9) rfl d_Q_state_220 ?_
      refine lv_aload_n hx hb d_Q_state_223 rfl (lv_at hl 0 rfl) ?_
      refine va_get (D := D) (ci := 7) (v := .int Q_statements_200) (C := RR_Q) (T := FF_Q) (N := 41) hx hb hts kin_Q hown hK.1 hP 0 rfl rfl 17 (by decide) (hts _ k4_84) (fun _ h9 => h9) rfl d_Q_state_224 ?_
      refine lv_iload hx hb d_Q_state_227 (lv_at hl 6 rfl) ?_
      obtain ⟨h31, hf⟩ := of_gd hf
      obtain ⟨g32, eg32⟩ : ∃ y : Nat → Int32, y = upd Q_counts_200 Q_statements_200.toNatClampNeg x6_200 := ⟨_, rfl⟩
      have hf := of_nm eg32 hf
      refine va_iast hx hb hK.1 hP hD hS 4 0 rfl rfl (ixb_in h31) d_Q_state_229 (fun H locs hP hD hS => ?_)
      rw [← eg32] at hP hD
      have hP : va_P D vwCl (wv_46 cI cJ cZ aQ aQ_kinds aQ_which aQ_firsts aQ_seconds aQ_thirds aQ_nexts aQ_heads aQ_names aQ_variables aQ_holes aQ_sizes aQ_places aQ_conclusions aQ_premises aQ_counts aQ_hitOf aQ_hitOne aQ_hitTwo aQ_hitTerms aQ_image aQ_bound aQ_waits aQ_waitsFor aQ_seen aQ_goals aQ_steps aQ_looked aQ_under aQ_taken aQ_news aQ_order aQ_there aQ_back r27.2 Q_all Q_statements_200 Q_hitKind_200 Q_hits_200 Q_tries Q_takenAll Q_takenFirst Q_holes g30 Q_premises_200 g32) H := hP
      have hD : va_D A (wv_46 cI cJ cZ aQ aQ_kinds aQ_which aQ_firsts aQ_seconds aQ_thirds aQ_nexts aQ_heads aQ_names aQ_variables aQ_holes aQ_sizes aQ_places aQ_conclusions aQ_premises aQ_counts aQ_hitOf aQ_hitOne aQ_hitTwo aQ_hitTerms aQ_image aQ_bound aQ_waits aQ_waitsFor aQ_seen aQ_goals aQ_steps aQ_looked aQ_under aQ_taken aQ_news aQ_order aQ_there aQ_back r27.2 Q_all Q_statements_200 Q_hitKind_200 Q_hits_200 Q_tries Q_takenAll Q_takenFirst Q_holes g30 Q_premises_200 g32) := hD
      refine lv_iconst (v := 0) hx hb d_Q_state_230 (by decide) ?_
      refine lv_istore (lv' := [(9, .int (0 : Int32)), (0, .ref aQ), (1, .int x1_200), (2, .int x2_200), (3, .int x3_200), (4, .int x4_200), (5, .int x5_200), (6, .int x6_200)]) hx hb d_Q_state_231 hl (by decide) rfl (fun ls hl => ?_)
      exact hL233 FU _ _ _ _ _ _ _ _ _ _ _ _ _ _ _ hP hD hS _ (lv_sub hl [1, 2, 3, 4, 5, 7, 0] rfl) hf
    · have hf := ite_f c28 hf
      refine lv_iconst (v := 0) hx hb d_Q_state_206 (by decide) ?_
      obtain rfl := Option.some.inj hf
      exact W.iret (v := (0 : Int32)) hx hb hr (fun t ht hW => ⟨rfl, by rw [ht]; exact hP, hD, hS.F ht⟩) hS.2.2 d_Q_state_207
  have hL73 : ∀ (n73 : Nat), ∀ (Q_thrown_73 : Int32) (Q_statements_73 : Int32) (Q_hitKind_73 : Int32) (Q_hits_73 : Int32) (Q_conclusions_73 : (Nat → Int32)) (Q_premises_73 : (Nat → Int32)) (Q_counts_73 : (Nat → Int32)) (x1_73 : Int32) (x2_73 : Int32) (x3_73 : Int32) (x4_73 : Int32) (x5_73 : Int32) (x6_73 : Int32) (x7_73 : Int32) (x8_73 : Int32) (x9_73 : Int32), ∀ (H : Heap) (locs : List Loc), va_P D vwCl (wv_46 cI cJ cZ aQ aQ_kinds aQ_which aQ_firsts aQ_seconds aQ_thirds aQ_nexts aQ_heads aQ_names aQ_variables aQ_holes aQ_sizes aQ_places aQ_conclusions aQ_premises aQ_counts aQ_hitOf aQ_hitOne aQ_hitTwo aQ_hitTerms aQ_image aQ_bound aQ_waits aQ_waitsFor aQ_seen aQ_goals aQ_steps aQ_looked aQ_under aQ_taken aQ_news aQ_order aQ_there aQ_back Q_thrown_73 Q_all Q_statements_73 Q_hitKind_73 Q_hits_73 Q_tries Q_takenAll Q_takenFirst Q_holes Q_conclusions_73 Q_premises_73 Q_counts_73) H → va_D A (wv_46 cI cJ cZ aQ aQ_kinds aQ_which aQ_firsts aQ_seconds aQ_thirds aQ_nexts aQ_heads aQ_names aQ_variables aQ_holes aQ_sizes aQ_places aQ_conclusions aQ_premises aQ_counts aQ_hitOf aQ_hitOne aQ_hitTwo aQ_hitTerms aQ_image aQ_bound aQ_waits aQ_waitsFor aQ_seen aQ_goals aQ_steps aQ_looked aQ_under aQ_taken aQ_news aQ_order aQ_there aQ_back Q_thrown_73 Q_all Q_statements_73 Q_hitKind_73 Q_hits_73 Q_tries Q_takenAll Q_takenFirst Q_holes Q_conclusions_73 Q_premises_73 Q_counts_73) → va_S A s.heap H locs → ∀ (ls : Array Slot), lv_has ls 11 [(0, .ref aQ), (1, .int x1_73), (2, .int x2_73), (3, .int x3_73), (4, .int x4_73), (5, .int x5_73), (6, .int x6_73), (7, .int x7_73), (8, .int x8_73), (9, .int x9_73)] → f_Q_state_L73 Q_all Q_holes n73 Q_thrown_73 Q_statements_73 Q_hitKind_73 Q_hits_73 Q_conclusions_73 Q_premises_73 Q_counts_73 x1_73 x2_73 x3_73 x4_73 x5_73 x6_73 x7_73 x8_73 x9_73 = some o → W p l e (headSpec (ws_Q_state) rm_Q_state).room s m ([.ref aQ, .int p0, .int p1, .int p2, .int p3, .int p4] : List Value).toArray below meth c H locs 0 0 (MQ below (WQ D vwCl (some (.int o.1)) (wv_46 cI cJ cZ aQ aQ_kinds aQ_which aQ_firsts aQ_seconds aQ_thirds aQ_nexts aQ_heads aQ_names aQ_variables aQ_holes aQ_sizes aQ_places aQ_conclusions aQ_premises aQ_counts aQ_hitOf aQ_hitOne aQ_hitTwo aQ_hitTerms aQ_image aQ_bound aQ_waits aQ_waitsFor aQ_seen aQ_goals aQ_steps aQ_looked aQ_under aQ_taken aQ_news aQ_order aQ_there aQ_back o.2.1 Q_all o.2.2.1 o.2.2.2.1 o.2.2.2.2.1 Q_tries Q_takenAll Q_takenFirst Q_holes o.2.2.2.2.2.1 o.2.2.2.2.2.2.1 o.2.2.2.2.2.2.2) A) ([.ref aQ, .int p0, .int p1, .int p2, .int p3, .int p4] : List Value).toArray s 0 0 A) (F0 m 73 ls []) := by
    intro n73
    induction n73 with
    | zero =>
      intro Q_thrown_73 Q_statements_73 Q_hitKind_73 Q_hits_73 Q_conclusions_73 Q_premises_73 Q_counts_73 x1_73 x2_73 x3_73 x4_73 x5_73 x6_73 x7_73 x8_73 x9_73 H locs hP hD hS ls hl hf
      rw [f_Q_state_L73] at hf
      cases hf
    | succ n73 ih73 =>
      have hB132 : ∀ (Q_thrown_132 : Int32) (Q_statements_132 : Int32) (Q_hitKind_132 : Int32) (Q_hits_132 : Int32) (Q_conclusions_132 : (Nat → Int32)) (Q_premises_132 : (Nat → Int32)) (Q_counts_132 : (Nat → Int32)) (x1_132 : Int32) (x2_132 : Int32) (x3_132 : Int32) (x4_132 : Int32) (x5_132 : Int32) (x6_132 : Int32) (x8_132 : Int32) (x9_132 : Int32) (x10_132 : Int32) (s0_132 : Int32), ∀ (H : Heap) (locs : List Loc), va_P D vwCl (wv_46 cI cJ cZ aQ aQ_kinds aQ_which aQ_firsts aQ_seconds aQ_thirds aQ_nexts aQ_heads aQ_names aQ_variables aQ_holes aQ_sizes aQ_places aQ_conclusions aQ_premises aQ_counts aQ_hitOf aQ_hitOne aQ_hitTwo aQ_hitTerms aQ_image aQ_bound aQ_waits aQ_waitsFor aQ_seen aQ_goals aQ_steps aQ_looked aQ_under aQ_taken aQ_news aQ_order aQ_there aQ_back Q_thrown_132 Q_all Q_statements_132 Q_hitKind_132 Q_hits_132 Q_tries Q_takenAll Q_takenFirst Q_holes Q_conclusions_132 Q_premises_132 Q_counts_132) H → va_D A (wv_46 cI cJ cZ aQ aQ_kinds aQ_which aQ_firsts aQ_seconds aQ_thirds aQ_nexts aQ_heads aQ_names aQ_variables aQ_holes aQ_sizes aQ_places aQ_conclusions aQ_premises aQ_counts aQ_hitOf aQ_hitOne aQ_hitTwo aQ_hitTerms aQ_image aQ_bound aQ_waits aQ_waitsFor aQ_seen aQ_goals aQ_steps aQ_looked aQ_under aQ_taken aQ_news aQ_order aQ_there aQ_back Q_thrown_132 Q_all Q_statements_132 Q_hitKind_132 Q_hits_132 Q_tries Q_takenAll Q_takenFirst Q_holes Q_conclusions_132 Q_premises_132 Q_counts_132) → va_S A s.heap H locs → ∀ (ls : Array Slot), lv_has ls 11 [(0, .ref aQ), (1, .int x1_132), (2, .int x2_132), (3, .int x3_132), (4, .int x4_132), (5, .int x5_132), (6, .int x6_132), (8, .int x8_132), (9, .int x9_132), (10, .int x10_132)] → f_Q_state_B132 Q_all Q_holes (f_Q_state_L73 Q_all Q_holes n73) Q_thrown_132 Q_statements_132 Q_hitKind_132 Q_hits_132 Q_conclusions_132 Q_premises_132 Q_counts_132 x1_132 x2_132 x3_132 x4_132 x5_132 x6_132 x8_132 x9_132 x10_132 s0_132 = some o → W p l e (headSpec (ws_Q_state) rm_Q_state).room s m ([.ref aQ, .int p0, .int p1, .int p2, .int p3, .int p4] : List Value).toArray below meth c H locs 0 0 (MQ below (WQ D vwCl (some (.int o.1)) (wv_46 cI cJ cZ aQ aQ_kinds aQ_which aQ_firsts aQ_seconds aQ_thirds aQ_nexts aQ_heads aQ_names aQ_variables aQ_holes aQ_sizes aQ_places aQ_conclusions aQ_premises aQ_counts aQ_hitOf aQ_hitOne aQ_hitTwo aQ_hitTerms aQ_image aQ_bound aQ_waits aQ_waitsFor aQ_seen aQ_goals aQ_steps aQ_looked aQ_under aQ_taken aQ_news aQ_order aQ_there aQ_back o.2.1 Q_all o.2.2.1 o.2.2.2.1 o.2.2.2.2.1 Q_tries Q_takenAll Q_takenFirst Q_holes o.2.2.2.2.2.1 o.2.2.2.2.2.2.1 o.2.2.2.2.2.2.2) A) ([.ref aQ, .int p0, .int p1, .int p2, .int p3, .int p4] : List Value).toArray s 0 0 A) (F0 m 132 ls [.int s0_132]) := by
        intro Q_thrown_132 Q_statements_132 Q_hitKind_132 Q_hits_132 Q_conclusions_132 Q_premises_132 Q_counts_132 x1_132 x2_132 x3_132 x4_132 x5_132 x6_132 x8_132 x9_132 x10_132 s0_132 H locs hP hD hS ls hl hf
        rw [f_Q_state_B132] at hf
        refine lv_istore (lv' := [(7, .int s0_132), (0, .ref aQ), (1, .int x1_132), (2, .int x2_132), (3, .int x3_132), (4, .int x4_132), (5, .int x5_132), (6, .int x6_132), (8, .int x8_132), (9, .int x9_132), (10, .int x10_132)]) hx hb d_Q_state_132 hl (by decide) rfl (fun ls hl => ?_)
        refine lv_iload hx hb d_Q_state_134 (lv_at hl 8 rfl) ?_
        refine lv_if_eq (tgt := 158) hx hb d_Q_state_136 (by decide) (fun c19 => ?_) (fun c19 => ?_)
        · have hf := ite_t c19 hf
          refine lv_iconst (v := 0) hx hb d_Q_state_158 (by decide) ?_
          refine lv_istore (lv' := [(8, .int (0 : Int32)), (7, .int s0_132), (0, .ref aQ), (1, .int x1_132), (2, .int x2_132), (3, .int x3_132), (4, .int x4_132), (5, .int x5_132), (6, .int x6_132), (9, .int x9_132), (10, .int x10_132)]) hx hb d_Q_state_159 hl (by decide) rfl (fun ls hl => ?_)
          obtain ⟨x20, ex20⟩ : ∃ y : Int32, y = x9_132 + (1 : Int32) := ⟨_, rfl⟩
          refine lv_iinc (v := x20) (lv' := [(9, .int x20), (8, .int (0 : Int32)), (7, .int s0_132), (0, .ref aQ), (1, .int x1_132), (2, .int x2_132), (3, .int x3_132), (4, .int x4_132), (5, .int x5_132), (6, .int x6_132), (10, .int x10_132)]) hx hb d_Q_state_161 hl (k := 9) rfl (by rw [ex20]; rfl) (by decide) rfl (fun ls hl => ?_)
          have hf := of_nm ex20 hf
          refine lv_goto (tgt := 73) hx hb d_Q_state_164 (by decide) ?_
          exact ih73 _ _ _ _ _ _ _ _ _ _ _ _ _ _ _ _ _ _ hP hD hS _ (lv_sub hl [3, 4, 5, 6, 7, 8, 9, 2, 1, 0] rfl) hf
        · have hf := ite_f c19 hf
          refine lv_iload hx hb d_Q_state_139 (lv_at hl 0 rfl) ?_
          refine lv_if_eq (tgt := 158) hx hb d_Q_state_141 (by decide) (fun c21 => ?_) (fun c21 => ?_)
          · have hf := ite_t c21 hf
            refine lv_iconst (v := 0) hx hb d_Q_state_158 (by decide) ?_
            refine lv_istore (lv' := [(8, .int (0 : Int32)), (7, .int s0_132), (0, .ref aQ), (1, .int x1_132), (2, .int x2_132), (3, .int x3_132), (4, .int x4_132), (5, .int x5_132), (6, .int x6_132), (9, .int x9_132), (10, .int x10_132)]) hx hb d_Q_state_159 hl (by decide) rfl (fun ls hl => ?_)
            obtain ⟨x22, ex22⟩ : ∃ y : Int32, y = x9_132 + (1 : Int32) := ⟨_, rfl⟩
            refine lv_iinc (v := x22) (lv' := [(9, .int x22), (8, .int (0 : Int32)), (7, .int s0_132), (0, .ref aQ), (1, .int x1_132), (2, .int x2_132), (3, .int x3_132), (4, .int x4_132), (5, .int x5_132), (6, .int x6_132), (10, .int x10_132)]) hx hb d_Q_state_161 hl (k := 9) rfl (by rw [ex22]; rfl) (by decide) rfl (fun ls hl => ?_)
            have hf := of_nm ex22 hf
            refine lv_goto (tgt := 73) hx hb d_Q_state_164 (by decide) ?_
            exact ih73 _ _ _ _ _ _ _ _ _ _ _ _ _ _ _ _ _ _ hP hD hS _ (lv_sub hl [3, 4, 5, 6, 7, 8, 9, 2, 1, 0] rfl) hf
          · have hf := ite_f c21 hf
            refine lv_aload_n hx hb d_Q_state_144 rfl (lv_at hl 1 rfl) ?_
            refine va_get (D := D) (ci := 7) (v := .ref aQ_holes) (C := RR_Q) (T := FF_Q) (N := 41) hx hb hts kin_Q hown hK.1 hP 0 rfl rfl 11 (by decide) (hts _ k4_78) (fun _ h9 => h9) rfl d_Q_state_145 ?_
            refine lv_iload hx hb d_Q_state_148 (lv_at hl 10 rfl) ?_
            obtain ⟨h23, hf⟩ := of_gd hf
            refine va_iald hx hb hK.1 hP 1 0 rfl rfl (ixb_in h23) d_Q_state_150 ?_
            refine lv_if_ne (tgt := 158) hx hb d_Q_state_151 (by decide) (fun c24 => ?_) (fun c24 => ?_)
            · have hf := ite_f c24 hf
              refine lv_iconst (v := 0) hx hb d_Q_state_158 (by decide) ?_
              refine lv_istore (lv' := [(8, .int (0 : Int32)), (7, .int s0_132), (0, .ref aQ), (1, .int x1_132), (2, .int x2_132), (3, .int x3_132), (4, .int x4_132), (5, .int x5_132), (6, .int x6_132), (9, .int x9_132), (10, .int x10_132)]) hx hb d_Q_state_159 hl (by decide) rfl (fun ls hl => ?_)
              obtain ⟨x25, ex25⟩ : ∃ y : Int32, y = x9_132 + (1 : Int32) := ⟨_, rfl⟩
              refine lv_iinc (v := x25) (lv' := [(9, .int x25), (8, .int (0 : Int32)), (7, .int s0_132), (0, .ref aQ), (1, .int x1_132), (2, .int x2_132), (3, .int x3_132), (4, .int x4_132), (5, .int x5_132), (6, .int x6_132), (10, .int x10_132)]) hx hb d_Q_state_161 hl (k := 9) rfl (by rw [ex25]; rfl) (by decide) rfl (fun ls hl => ?_)
              have hf := of_nm ex25 hf
              refine lv_goto (tgt := 73) hx hb d_Q_state_164 (by decide) ?_
              exact ih73 _ _ _ _ _ _ _ _ _ _ _ _ _ _ _ _ _ _ hP hD hS _ (lv_sub hl [3, 4, 5, 6, 7, 8, 9, 2, 1, 0] rfl) hf
            · have hf := ite_t c24 hf
              refine lv_iconst (v := 1) hx hb d_Q_state_154 (by decide) ?_
              refine lv_goto (tgt := 159) hx hb d_Q_state_155 (by decide) ?_
              refine lv_istore (lv' := [(8, .int (1 : Int32)), (7, .int s0_132), (0, .ref aQ), (1, .int x1_132), (2, .int x2_132), (3, .int x3_132), (4, .int x4_132), (5, .int x5_132), (6, .int x6_132), (9, .int x9_132), (10, .int x10_132)]) hx hb d_Q_state_159 hl (by decide) rfl (fun ls hl => ?_)
              obtain ⟨x26, ex26⟩ : ∃ y : Int32, y = x9_132 + (1 : Int32) := ⟨_, rfl⟩
              refine lv_iinc (v := x26) (lv' := [(9, .int x26), (8, .int (1 : Int32)), (7, .int s0_132), (0, .ref aQ), (1, .int x1_132), (2, .int x2_132), (3, .int x3_132), (4, .int x4_132), (5, .int x5_132), (6, .int x6_132), (10, .int x10_132)]) hx hb d_Q_state_161 hl (k := 9) rfl (by rw [ex26]; rfl) (by decide) rfl (fun ls hl => ?_)
              have hf := of_nm ex26 hf
              refine lv_goto (tgt := 73) hx hb d_Q_state_164 (by decide) ?_
              exact ih73 _ _ _ _ _ _ _ _ _ _ _ _ _ _ _ _ _ _ hP hD hS _ (lv_sub hl [3, 4, 5, 6, 7, 8, 9, 2, 1, 0] rfl) hf
      have hB111 : ∀ (Q_thrown_111 : Int32) (Q_statements_111 : Int32) (Q_hitKind_111 : Int32) (Q_hits_111 : Int32) (Q_conclusions_111 : (Nat → Int32)) (Q_premises_111 : (Nat → Int32)) (Q_counts_111 : (Nat → Int32)) (x1_111 : Int32) (x2_111 : Int32) (x3_111 : Int32) (x4_111 : Int32) (x5_111 : Int32) (x6_111 : Int32) (x7_111 : Int32) (x8_111 : Int32) (x9_111 : Int32) (s0_111 : Int32), ∀ (H : Heap) (locs : List Loc), va_P D vwCl (wv_46 cI cJ cZ aQ aQ_kinds aQ_which aQ_firsts aQ_seconds aQ_thirds aQ_nexts aQ_heads aQ_names aQ_variables aQ_holes aQ_sizes aQ_places aQ_conclusions aQ_premises aQ_counts aQ_hitOf aQ_hitOne aQ_hitTwo aQ_hitTerms aQ_image aQ_bound aQ_waits aQ_waitsFor aQ_seen aQ_goals aQ_steps aQ_looked aQ_under aQ_taken aQ_news aQ_order aQ_there aQ_back Q_thrown_111 Q_all Q_statements_111 Q_hitKind_111 Q_hits_111 Q_tries Q_takenAll Q_takenFirst Q_holes Q_conclusions_111 Q_premises_111 Q_counts_111) H → va_D A (wv_46 cI cJ cZ aQ aQ_kinds aQ_which aQ_firsts aQ_seconds aQ_thirds aQ_nexts aQ_heads aQ_names aQ_variables aQ_holes aQ_sizes aQ_places aQ_conclusions aQ_premises aQ_counts aQ_hitOf aQ_hitOne aQ_hitTwo aQ_hitTerms aQ_image aQ_bound aQ_waits aQ_waitsFor aQ_seen aQ_goals aQ_steps aQ_looked aQ_under aQ_taken aQ_news aQ_order aQ_there aQ_back Q_thrown_111 Q_all Q_statements_111 Q_hitKind_111 Q_hits_111 Q_tries Q_takenAll Q_takenFirst Q_holes Q_conclusions_111 Q_premises_111 Q_counts_111) → va_S A s.heap H locs → ∀ (ls : Array Slot), lv_has ls 11 [(0, .ref aQ), (1, .int x1_111), (2, .int x2_111), (3, .int x3_111), (4, .int x4_111), (5, .int x5_111), (6, .int x6_111), (7, .int x7_111), (8, .int x8_111), (9, .int x9_111)] → f_Q_state_B111 Q_all Q_holes (f_Q_state_L73 Q_all Q_holes n73) Q_thrown_111 Q_statements_111 Q_hitKind_111 Q_hits_111 Q_conclusions_111 Q_premises_111 Q_counts_111 x1_111 x2_111 x3_111 x4_111 x5_111 x6_111 x7_111 x8_111 x9_111 s0_111 = some o → W p l e (headSpec (ws_Q_state) rm_Q_state).room s m ([.ref aQ, .int p0, .int p1, .int p2, .int p3, .int p4] : List Value).toArray below meth c H locs 0 0 (MQ below (WQ D vwCl (some (.int o.1)) (wv_46 cI cJ cZ aQ aQ_kinds aQ_which aQ_firsts aQ_seconds aQ_thirds aQ_nexts aQ_heads aQ_names aQ_variables aQ_holes aQ_sizes aQ_places aQ_conclusions aQ_premises aQ_counts aQ_hitOf aQ_hitOne aQ_hitTwo aQ_hitTerms aQ_image aQ_bound aQ_waits aQ_waitsFor aQ_seen aQ_goals aQ_steps aQ_looked aQ_under aQ_taken aQ_news aQ_order aQ_there aQ_back o.2.1 Q_all o.2.2.1 o.2.2.2.1 o.2.2.2.2.1 Q_tries Q_takenAll Q_takenFirst Q_holes o.2.2.2.2.2.1 o.2.2.2.2.2.2.1 o.2.2.2.2.2.2.2) A) ([.ref aQ, .int p0, .int p1, .int p2, .int p3, .int p4] : List Value).toArray s 0 0 A) (F0 m 111 ls [.int s0_111]) := by
        intro Q_thrown_111 Q_statements_111 Q_hitKind_111 Q_hits_111 Q_conclusions_111 Q_premises_111 Q_counts_111 x1_111 x2_111 x3_111 x4_111 x5_111 x6_111 x7_111 x8_111 x9_111 s0_111 H locs hP hD hS ls hl hf
        rw [f_Q_state_B111] at hf
        refine lv_istore (lv' := [(10, .int s0_111), (0, .ref aQ), (1, .int x1_111), (2, .int x2_111), (3, .int x3_111), (4, .int x4_111), (5, .int x5_111), (6, .int x6_111), (7, .int x7_111), (8, .int x8_111), (9, .int x9_111)]) hx hb d_Q_state_111 hl (by decide) rfl (fun ls hl => ?_)
        refine lv_iload hx hb d_Q_state_113 (lv_at hl 8 rfl) ?_
        refine lv_if_eq (tgt := 131) hx hb d_Q_state_115 (by decide) (fun c16 => ?_) (fun c16 => ?_)
        · have hf := ite_t c16 hf
          refine lv_iconst (v := 0) hx hb d_Q_state_131 (by decide) ?_
          exact hB132 _ _ _ _ _ _ _ _ _ _ _ _ _ _ _ _ _ _ _ hP hD hS _ (lv_sub hl [1, 2, 3, 4, 5, 6, 7, 9, 10, 0] rfl) hf
        · have hf := ite_f c16 hf
          refine lv_aload_n hx hb d_Q_state_118 rfl (lv_at hl 1 rfl) ?_
          refine lv_iload hx hb d_Q_state_119 (lv_at hl 0 rfl) ?_
          obtain ⟨r17, hr17, hf⟩ := of_bd hf
          refine rd_call (va_runV (As := [.int s0_111]) (rest := []) ⟨hx, hb, hml, hown, hts⟩ (c_Q_isTerm l D cI cJ cZ aQ aQ_kinds aQ_which aQ_firsts aQ_seconds aQ_thirds aQ_nexts aQ_heads aQ_names aQ_variables aQ_holes aQ_sizes aQ_places aQ_conclusions aQ_premises aQ_counts aQ_hitOf aQ_hitOne aQ_hitTwo aQ_hitTerms aQ_image aQ_bound aQ_waits aQ_waitsFor aQ_seen aQ_goals aQ_steps aQ_looked aQ_under aQ_taken aQ_news aQ_order aQ_there aQ_back Q_thrown_111 Q_all Q_statements_111 Q_hitKind_111 Q_hits_111 Q_tries Q_takenAll Q_takenFirst s0_111 r17 hr17) (bigV 1 hts k4_199 k4_201 ks_Q_isTerm k1_9 k4_202 rfl rfl hd_Q_isTerm ⟨Nat.le_of_ble_eq_true rfl, Nat.le_of_ble_eq_true rfl⟩) (rd_preV hK hP [0] rfl 0 rfl rfl rfl) rfl rfl hl.1 rfl (lv_room (Nat.le_of_ble_eq_true rfl)) d_Q_state_121 ⟨Nat.le_of_ble_eq_true rfl, Nat.le_of_ble_eq_true rfl⟩) ?_
          refine lv_if_eq (tgt := 131) hx hb d_Q_state_124 (by decide) (fun c18 => ?_) (fun c18 => ?_)
          · have hf := ite_t c18 hf
            refine lv_iconst (v := 0) hx hb d_Q_state_131 (by decide) ?_
            exact hB132 _ _ _ _ _ _ _ _ _ _ _ _ _ _ _ _ _ _ _ hP hD hS _ (lv_sub hl [1, 2, 3, 4, 5, 6, 7, 9, 10, 0] rfl) hf
          · have hf := ite_f c18 hf
            refine lv_iconst (v := 1) hx hb d_Q_state_127 (by decide) ?_
            refine lv_goto (tgt := 132) hx hb d_Q_state_128 (by decide) ?_
            exact hB132 _ _ _ _ _ _ _ _ _ _ _ _ _ _ _ _ _ _ _ hP hD hS _ (lv_sub hl [1, 2, 3, 4, 5, 6, 7, 9, 10, 0] rfl) hf
      intro Q_thrown_73 Q_statements_73 Q_hitKind_73 Q_hits_73 Q_conclusions_73 Q_premises_73 Q_counts_73 x1_73 x2_73 x3_73 x4_73 x5_73 x6_73 x7_73 x8_73 x9_73 H locs hP hD hS ls hl hf
      rw [f_Q_state_L73] at hf
      refine lv_iload hx hb d_Q_state_73 (lv_at hl 9 rfl) ?_
      refine lv_iload hx hb d_Q_state_75 (lv_at hl 6 rfl) ?_
      refine lv_icmp_ge (tgt := 167) hx hb d_Q_state_77 (by decide) (fun c9 => ?_) (fun c9 => ?_)
      · have hf := ite_t c9 hf
        refine lv_aload_n hx hb d_Q_state_167 rfl (lv_at hl 0 rfl) ?_
        refine lv_iload hx hb d_Q_state_168 (lv_at hl 7 rfl) ?_
        refine lv_if_ne (tgt := 177) hx hb d_Q_state_170 (by decide) (fun c10 => ?_) (fun c10 => ?_)
        · have hf := ite_f c10 hf
          refine lv_iload hx hb d_Q_state_177 (lv_at hl 8 rfl) ?_
          refine lv_if_ne (tgt := 186) hx hb d_Q_state_179 (by decide) (fun c11 => ?_) (fun c11 => ?_)
          · have hf := ite_f c11 hf
            refine lv_aload_n hx hb d_Q_state_186 rfl (lv_at hl 0 rfl) ?_
            refine va_get (D := D) (ci := 7) (v := .int Q_statements_73) (C := RR_Q) (T := FF_Q) (N := 41) hx hb hts kin_Q hown hK.1 hP 0 rfl rfl 17 (by decide) (hts _ k4_84) (fun _ h9 => h9) rfl d_Q_state_187 ?_
            refine lv_bipush (v := 30) hx hb d_Q_state_190 (by decide) ?_
            refine lv_icmp_ne (tgt := 199) hx hb d_Q_state_192 (by decide) (fun c12 => ?_) (fun c12 => ?_)
            · have hf := ite_f c12 hf
              refine lv_iconst (v := 0) hx hb d_Q_state_199 (by decide) ?_
              exact hB200 _ _ _ _ _ _ _ _ _ _ _ _ _ _ _ _ hP hD hS _ (lv_sub hl [0, 1, 2, 3, 4, 5, 6] rfl) hf
            · have hf := ite_t c12 hf
              refine lv_iconst (v := 3) hx hb d_Q_state_195 (by decide) ?_
              refine lv_goto (tgt := 200) hx hb d_Q_state_196 (by decide) ?_
              exact hB200 _ _ _ _ _ _ _ _ _ _ _ _ _ _ _ _ hP hD hS _ (lv_sub hl [0, 1, 2, 3, 4, 5, 6] rfl) hf
          · have hf := ite_t c11 hf
            refine lv_iconst (v := 2) hx hb d_Q_state_182 (by decide) ?_
            refine lv_goto (tgt := 200) hx hb d_Q_state_183 (by decide) ?_
            exact hB200 _ _ _ _ _ _ _ _ _ _ _ _ _ _ _ _ hP hD hS _ (lv_sub hl [0, 1, 2, 3, 4, 5, 6] rfl) hf
        · have hf := ite_t c10 hf
          refine lv_iconst (v := 1) hx hb d_Q_state_173 (by decide) ?_
          refine lv_goto (tgt := 200) hx hb d_Q_state_174 (by decide) ?_
          exact hB200 _ _ _ _ _ _ _ _ _ _ _ _ _ _ _ _ hP hD hS _ (lv_sub hl [0, 1, 2, 3, 4, 5, 6] rfl) hf
      · have hf := ite_f c9 hf
        refine lv_iload hx hb d_Q_state_80 (lv_at hl 9 rfl) ?_
        refine lv_if_ne (tgt := 89) hx hb d_Q_state_82 (by decide) (fun c13 => ?_) (fun c13 => ?_)
        · have hf := ite_f c13 hf
          refine lv_iload hx hb d_Q_state_89 (lv_at hl 9 rfl) ?_
          refine lv_iconst (v := 1) hx hb d_Q_state_91 (by decide) ?_
          refine lv_icmp_ne (tgt := 99) hx hb d_Q_state_92 (by decide) (fun c14 => ?_) (fun c14 => ?_)
          · have hf := ite_f c14 hf
            refine lv_iload hx hb d_Q_state_99 (lv_at hl 9 rfl) ?_
            refine lv_iconst (v := 2) hx hb d_Q_state_101 (by decide) ?_
            refine lv_icmp_ne (tgt := 109) hx hb d_Q_state_102 (by decide) (fun c15 => ?_) (fun c15 => ?_)
            · have hf := ite_f c15 hf
              refine lv_iload hx hb d_Q_state_109 (lv_at hl 4 rfl) ?_
              exact hB111 _ _ _ _ _ _ _ _ _ _ _ _ _ _ _ _ _ _ _ hP hD hS _ (lv_sub hl [0, 1, 2, 3, 4, 5, 6, 7, 8, 9] rfl) hf
            · have hf := ite_t c15 hf
              refine lv_iload_n hx hb d_Q_state_105 rfl (lv_at hl 3 rfl) ?_
              refine lv_goto (tgt := 111) hx hb d_Q_state_106 (by decide) ?_
              exact hB111 _ _ _ _ _ _ _ _ _ _ _ _ _ _ _ _ _ _ _ hP hD hS _ (lv_sub hl [0, 1, 2, 3, 4, 5, 6, 7, 8, 9] rfl) hf
          · have hf := ite_t c14 hf
            refine lv_iload_n hx hb d_Q_state_95 rfl (lv_at hl 2 rfl) ?_
            refine lv_goto (tgt := 111) hx hb d_Q_state_96 (by decide) ?_
            exact hB111 _ _ _ _ _ _ _ _ _ _ _ _ _ _ _ _ _ _ _ hP hD hS _ (lv_sub hl [0, 1, 2, 3, 4, 5, 6, 7, 8, 9] rfl) hf
        · have hf := ite_t c13 hf
          refine lv_iload_n hx hb d_Q_state_85 rfl (lv_at hl 1 rfl) ?_
          refine lv_goto (tgt := 111) hx hb d_Q_state_86 (by decide) ?_
          exact hB111 _ _ _ _ _ _ _ _ _ _ _ _ _ _ _ _ _ _ _ hP hD hS _ (lv_sub hl [0, 1, 2, 3, 4, 5, 6, 7, 8, 9] rfl) hf
  have hB38 : ∀ (Q_thrown_38 : Int32) (Q_statements_38 : Int32) (Q_hitKind_38 : Int32) (Q_hits_38 : Int32) (Q_conclusions_38 : (Nat → Int32)) (Q_premises_38 : (Nat → Int32)) (Q_counts_38 : (Nat → Int32)) (x1_38 : Int32) (x2_38 : Int32) (x3_38 : Int32) (x4_38 : Int32) (x5_38 : Int32) (s0_38 : Int32), ∀ (H : Heap) (locs : List Loc), va_P D vwCl (wv_46 cI cJ cZ aQ aQ_kinds aQ_which aQ_firsts aQ_seconds aQ_thirds aQ_nexts aQ_heads aQ_names aQ_variables aQ_holes aQ_sizes aQ_places aQ_conclusions aQ_premises aQ_counts aQ_hitOf aQ_hitOne aQ_hitTwo aQ_hitTerms aQ_image aQ_bound aQ_waits aQ_waitsFor aQ_seen aQ_goals aQ_steps aQ_looked aQ_under aQ_taken aQ_news aQ_order aQ_there aQ_back Q_thrown_38 Q_all Q_statements_38 Q_hitKind_38 Q_hits_38 Q_tries Q_takenAll Q_takenFirst Q_holes Q_conclusions_38 Q_premises_38 Q_counts_38) H → va_D A (wv_46 cI cJ cZ aQ aQ_kinds aQ_which aQ_firsts aQ_seconds aQ_thirds aQ_nexts aQ_heads aQ_names aQ_variables aQ_holes aQ_sizes aQ_places aQ_conclusions aQ_premises aQ_counts aQ_hitOf aQ_hitOne aQ_hitTwo aQ_hitTerms aQ_image aQ_bound aQ_waits aQ_waitsFor aQ_seen aQ_goals aQ_steps aQ_looked aQ_under aQ_taken aQ_news aQ_order aQ_there aQ_back Q_thrown_38 Q_all Q_statements_38 Q_hitKind_38 Q_hits_38 Q_tries Q_takenAll Q_takenFirst Q_holes Q_conclusions_38 Q_premises_38 Q_counts_38) → va_S A s.heap H locs → ∀ (ls : Array Slot), lv_has ls 11 [(0, .ref aQ), (1, .int x1_38), (2, .int x2_38), (3, .int x3_38), (4, .int x4_38), (5, .int x5_38)] → f_Q_state_B38 Q_all Q_holes Q_thrown_38 Q_statements_38 Q_hitKind_38 Q_hits_38 Q_conclusions_38 Q_premises_38 Q_counts_38 x1_38 x2_38 x3_38 x4_38 x5_38 s0_38 = some o → W p l e (headSpec (ws_Q_state) rm_Q_state).room s m ([.ref aQ, .int p0, .int p1, .int p2, .int p3, .int p4] : List Value).toArray below meth c H locs 0 0 (MQ below (WQ D vwCl (some (.int o.1)) (wv_46 cI cJ cZ aQ aQ_kinds aQ_which aQ_firsts aQ_seconds aQ_thirds aQ_nexts aQ_heads aQ_names aQ_variables aQ_holes aQ_sizes aQ_places aQ_conclusions aQ_premises aQ_counts aQ_hitOf aQ_hitOne aQ_hitTwo aQ_hitTerms aQ_image aQ_bound aQ_waits aQ_waitsFor aQ_seen aQ_goals aQ_steps aQ_looked aQ_under aQ_taken aQ_news aQ_order aQ_there aQ_back o.2.1 Q_all o.2.2.1 o.2.2.2.1 o.2.2.2.2.1 Q_tries Q_takenAll Q_takenFirst Q_holes o.2.2.2.2.2.1 o.2.2.2.2.2.2.1 o.2.2.2.2.2.2.2) A) ([.ref aQ, .int p0, .int p1, .int p2, .int p3, .int p4] : List Value).toArray s 0 0 A) (F0 m 38 ls [.int s0_38]) := by
    intro Q_thrown_38 Q_statements_38 Q_hitKind_38 Q_hits_38 Q_conclusions_38 Q_premises_38 Q_counts_38 x1_38 x2_38 x3_38 x4_38 x5_38 s0_38 H locs hP hD hS ls hl hf
    rw [f_Q_state_B38] at hf
    refine lv_istore (lv' := [(6, .int s0_38), (0, .ref aQ), (1, .int x1_38), (2, .int x2_38), (3, .int x3_38), (4, .int x4_38), (5, .int x5_38)]) hx hb d_Q_state_38 hl (by decide) rfl (fun ls hl => ?_)
    refine lv_aload_n hx hb d_Q_state_40 rfl (lv_at hl 1 rfl) ?_
    refine lv_iload hx hb d_Q_state_41 (lv_at hl 6 rfl) ?_
    obtain ⟨r5, hr5, hf⟩ := of_bd hf
    refine rd_call (va_runV (As := [.int x5_38]) (rest := []) ⟨hx, hb, hml, hown, hts⟩ (c_Q_isTerm l D cI cJ cZ aQ aQ_kinds aQ_which aQ_firsts aQ_seconds aQ_thirds aQ_nexts aQ_heads aQ_names aQ_variables aQ_holes aQ_sizes aQ_places aQ_conclusions aQ_premises aQ_counts aQ_hitOf aQ_hitOne aQ_hitTwo aQ_hitTerms aQ_image aQ_bound aQ_waits aQ_waitsFor aQ_seen aQ_goals aQ_steps aQ_looked aQ_under aQ_taken aQ_news aQ_order aQ_there aQ_back Q_thrown_38 Q_all Q_statements_38 Q_hitKind_38 Q_hits_38 Q_tries Q_takenAll Q_takenFirst x5_38 r5 hr5) (bigV 1 hts k4_199 k4_201 ks_Q_isTerm k1_9 k4_202 rfl rfl hd_Q_isTerm ⟨Nat.le_of_ble_eq_true rfl, Nat.le_of_ble_eq_true rfl⟩) (rd_preV hK hP [0] rfl 0 rfl rfl rfl) rfl rfl hl.1 rfl (lv_room (Nat.le_of_ble_eq_true rfl)) d_Q_state_43 ⟨Nat.le_of_ble_eq_true rfl, Nat.le_of_ble_eq_true rfl⟩) ?_
    refine lv_istore (lv' := [(7, .int r5), (6, .int s0_38), (0, .ref aQ), (1, .int x1_38), (2, .int x2_38), (3, .int x3_38), (4, .int x4_38), (5, .int x5_38)]) hx hb d_Q_state_46 hl (by decide) rfl (fun ls hl => ?_)
    refine lv_iload hx hb d_Q_state_48 (lv_at hl 0 rfl) ?_
    refine lv_if_eq (tgt := 67) hx hb d_Q_state_50 (by decide) (fun c6 => ?_) (fun c6 => ?_)
    · have hf := ite_t c6 hf
      refine lv_iconst (v := 0) hx hb d_Q_state_67 (by decide) ?_
      refine lv_istore (lv' := [(8, .int (0 : Int32)), (7, .int r5), (6, .int s0_38), (0, .ref aQ), (1, .int x1_38), (2, .int x2_38), (3, .int x3_38), (4, .int x4_38), (5, .int x5_38)]) hx hb d_Q_state_68 hl (by decide) rfl (fun ls hl => ?_)
      refine lv_iconst (v := 0) hx hb d_Q_state_70 (by decide) ?_
      refine lv_istore (lv' := [(9, .int (0 : Int32)), (8, .int (0 : Int32)), (7, .int r5), (6, .int s0_38), (0, .ref aQ), (1, .int x1_38), (2, .int x2_38), (3, .int x3_38), (4, .int x4_38), (5, .int x5_38)]) hx hb d_Q_state_71 hl (by decide) rfl (fun ls hl => ?_)
      exact hL73 FU _ _ _ _ _ _ _ _ _ _ _ _ _ _ _ _ _ _ hP hD hS _ (lv_sub hl [4, 5, 6, 7, 8, 9, 3, 2, 1, 0] rfl) hf
    · have hf := ite_f c6 hf
      refine lv_aload_n hx hb d_Q_state_53 rfl (lv_at hl 2 rfl) ?_
      refine va_get (D := D) (ci := 7) (v := .ref aQ_holes) (C := RR_Q) (T := FF_Q) (N := 41) hx hb hts kin_Q hown hK.1 hP 0 rfl rfl 11 (by decide) (hts _ k4_78) (fun _ h9 => h9) rfl d_Q_state_54 ?_
      refine lv_iload hx hb d_Q_state_57 (lv_at hl 7 rfl) ?_
      obtain ⟨h7, hf⟩ := of_gd hf
      refine va_iald hx hb hK.1 hP 1 0 rfl rfl (ixb_in h7) d_Q_state_59 ?_
      refine lv_if_ne (tgt := 67) hx hb d_Q_state_60 (by decide) (fun c8 => ?_) (fun c8 => ?_)
      · have hf := ite_f c8 hf
        refine lv_iconst (v := 0) hx hb d_Q_state_67 (by decide) ?_
        refine lv_istore (lv' := [(8, .int (0 : Int32)), (7, .int r5), (6, .int s0_38), (0, .ref aQ), (1, .int x1_38), (2, .int x2_38), (3, .int x3_38), (4, .int x4_38), (5, .int x5_38)]) hx hb d_Q_state_68 hl (by decide) rfl (fun ls hl => ?_)
        refine lv_iconst (v := 0) hx hb d_Q_state_70 (by decide) ?_
        refine lv_istore (lv' := [(9, .int (0 : Int32)), (8, .int (0 : Int32)), (7, .int r5), (6, .int s0_38), (0, .ref aQ), (1, .int x1_38), (2, .int x2_38), (3, .int x3_38), (4, .int x4_38), (5, .int x5_38)]) hx hb d_Q_state_71 hl (by decide) rfl (fun ls hl => ?_)
        exact hL73 FU _ _ _ _ _ _ _ _ _ _ _ _ _ _ _ _ _ _ hP hD hS _ (lv_sub hl [4, 5, 6, 7, 8, 9, 3, 2, 1, 0] rfl) hf
      · have hf := ite_t c8 hf
        refine lv_iconst (v := 1) hx hb d_Q_state_63 (by decide) ?_
        refine lv_goto (tgt := 68) hx hb d_Q_state_64 (by decide) ?_
        refine lv_istore (lv' := [(8, .int (1 : Int32)), (7, .int r5), (6, .int s0_38), (0, .ref aQ), (1, .int x1_38), (2, .int x2_38), (3, .int x3_38), (4, .int x4_38), (5, .int x5_38)]) hx hb d_Q_state_68 hl (by decide) rfl (fun ls hl => ?_)
        refine lv_iconst (v := 0) hx hb d_Q_state_70 (by decide) ?_
        refine lv_istore (lv' := [(9, .int (0 : Int32)), (8, .int (1 : Int32)), (7, .int r5), (6, .int s0_38), (0, .ref aQ), (1, .int x1_38), (2, .int x2_38), (3, .int x3_38), (4, .int x4_38), (5, .int x5_38)]) hx hb d_Q_state_71 hl (by decide) rfl (fun ls hl => ?_)
        exact hL73 FU _ _ _ _ _ _ _ _ _ _ _ _ _ _ _ _ _ _ hP hD hS _ (lv_sub hl [4, 5, 6, 7, 8, 9, 3, 2, 1, 0] rfl) hf
  rw [f_Q_state] at hf
  refine lv_iload_n hx hb d_Q_state_0 rfl (lv_at hl 1 rfl) ?_
  refine lv_iconst (v := -1) hx hb d_Q_state_1 (by decide) ?_
  refine lv_icmp_ne (tgt := 9) hx hb d_Q_state_2 (by decide) (fun c1 => ?_) (fun c1 => ?_)
  · have hf := ite_f c1 hf
    refine lv_iload_n hx hb d_Q_state_9 rfl (lv_at hl 2 rfl) ?_
    refine lv_iconst (v := -1) hx hb d_Q_state_10 (by decide) ?_
    refine lv_icmp_ne (tgt := 18) hx hb d_Q_state_11 (by decide) (fun c2 => ?_) (fun c2 => ?_)
    · have hf := ite_f c2 hf
      refine lv_iload_n hx hb d_Q_state_18 rfl (lv_at hl 3 rfl) ?_
      refine lv_iconst (v := -1) hx hb d_Q_state_19 (by decide) ?_
      refine lv_icmp_ne (tgt := 27) hx hb d_Q_state_20 (by decide) (fun c3 => ?_) (fun c3 => ?_)
      · have hf := ite_f c3 hf
        refine lv_iload hx hb d_Q_state_27 (lv_at hl 4 rfl) ?_
        refine lv_iconst (v := -1) hx hb d_Q_state_29 (by decide) ?_
        refine lv_icmp_ne (tgt := 37) hx hb d_Q_state_30 (by decide) (fun c4 => ?_) (fun c4 => ?_)
        · have hf := ite_f c4 hf
          refine lv_iconst (v := 4) hx hb d_Q_state_37 (by decide) ?_
          exact hB38 _ _ _ _ _ _ _ _ _ _ _ _ _ _ _ hP hD hS _ (lv_sub hl [0, 1, 2, 3, 4, 5] rfl) hf
        · have hf := ite_t c4 hf
          refine lv_iconst (v := 3) hx hb d_Q_state_33 (by decide) ?_
          refine lv_goto (tgt := 38) hx hb d_Q_state_34 (by decide) ?_
          exact hB38 _ _ _ _ _ _ _ _ _ _ _ _ _ _ _ hP hD hS _ (lv_sub hl [0, 1, 2, 3, 4, 5] rfl) hf
      · have hf := ite_t c3 hf
        refine lv_iconst (v := 2) hx hb d_Q_state_23 (by decide) ?_
        refine lv_goto (tgt := 38) hx hb d_Q_state_24 (by decide) ?_
        exact hB38 _ _ _ _ _ _ _ _ _ _ _ _ _ _ _ hP hD hS _ (lv_sub hl [0, 1, 2, 3, 4, 5] rfl) hf
    · have hf := ite_t c2 hf
      refine lv_iconst (v := 1) hx hb d_Q_state_14 (by decide) ?_
      refine lv_goto (tgt := 38) hx hb d_Q_state_15 (by decide) ?_
      exact hB38 _ _ _ _ _ _ _ _ _ _ _ _ _ _ _ hP hD hS _ (lv_sub hl [0, 1, 2, 3, 4, 5] rfl) hf
  · have hf := ite_t c1 hf
    refine lv_iconst (v := 0) hx hb d_Q_state_5 (by decide) ?_
    refine lv_goto (tgt := 38) hx hb d_Q_state_6 (by decide) ?_
    exact hB38 _ _ _ _ _ _ _ _ _ _ _ _ _ _ _ hP hD hS _ (lv_sub hl [0, 1, 2, 3, 4, 5] rfl) hf
def f_Q_forget_B32 (Q_thrown_32 : Int32) (Q_statements_32 : Int32) (Q_hitKind_32 : Int32) (Q_hits_32 : Int32) (x1_32 : Int32) (s1_32 : Int32) (s2_32 : Int32) : Option (Int32 × Int32 × Int32 × Int32 × Int32) :=
  nm (s1_32 - s2_32) fun x3 =>
  gd (zb x1_32) <|
  some (x1_32, Q_thrown_32, x3, (0 : Int32), (0 : Int32))
def f_Q_forget_B17 (Q_thrown_17 : Int32) (Q_statements_17 : Int32) (Q_hitKind_17 : Int32) (Q_hits_17 : Int32) (s0_17 : Int32) : Option (Int32 × Int32 × Int32 × Int32 × Int32) :=
  if s0_17 = 0 then
    f_Q_forget_B32 Q_thrown_17 Q_statements_17 Q_hitKind_17 Q_hits_17 s0_17 Q_statements_17 (0 : Int32)
  else
    f_Q_forget_B32 Q_thrown_17 Q_statements_17 Q_hitKind_17 Q_hits_17 s0_17 Q_statements_17 (1 : Int32)
def f_Q_forget (Q_thrown : Int32) (Q_statements : Int32) (Q_hitKind : Int32) (Q_hits : Int32) : Option (Int32 × Int32 × Int32 × Int32 × Int32) :=
  if Q_statements ≤ 0 then
    f_Q_forget_B17 (0 : Int32) Q_statements Q_hitKind Q_hits (0 : Int32)
  else
    f_Q_forget_B17 (0 : Int32) Q_statements Q_hitKind Q_hits (1 : Int32)
abbrev rm_Q_forget : Room := { frames := 0, cells := 0, slots := 0, locals := 0 }
set_option maxHeartbeats 4000000 in
set_option maxRecDepth 100000 in
theorem c_Q_forget (l : Launch) (D : va_G) (cI cJ cZ : ClassId) (aQ aQ_kinds aQ_which aQ_firsts aQ_seconds aQ_thirds aQ_nexts aQ_heads aQ_names aQ_variables aQ_holes aQ_sizes aQ_places aQ_conclusions aQ_premises aQ_counts aQ_hitOf aQ_hitOne aQ_hitTwo aQ_hitTerms aQ_image aQ_bound aQ_waits aQ_waitsFor aQ_seen aQ_goals aQ_steps aQ_looked aQ_under aQ_taken aQ_news aQ_order aQ_there aQ_back : Nat) (sz : Nat) (Q_thrown : Int32) (Q_all : Int32) (Q_statements : Int32) (Q_hitKind : Int32) (Q_hits : Int32) (Q_tries : Int32) (Q_takenAll : Int32) (Q_takenFirst : Int32) (o : Int32 × Int32 × Int32 × Int32 × Int32) (hf : f_Q_forget Q_thrown Q_statements Q_hitKind Q_hits = some o) : Met l y_Q_forget (ws_Q_forget) rm_Q_forget (WPc D vwCl cI cJ cZ [.ref aQ] (wv_39 cI cJ cZ aQ aQ_kinds aQ_which aQ_firsts aQ_seconds aQ_thirds aQ_nexts aQ_heads aQ_names aQ_variables aQ_holes aQ_sizes aQ_places aQ_conclusions aQ_premises aQ_counts aQ_hitOf aQ_hitOne aQ_hitTwo aQ_hitTerms aQ_image aQ_bound aQ_waits aQ_waitsFor aQ_seen aQ_goals aQ_steps aQ_looked aQ_under aQ_taken aQ_news aQ_order aQ_there aQ_back Q_thrown Q_all Q_statements Q_hitKind Q_hits Q_tries Q_takenAll Q_takenFirst) sz) (WQ D vwCl (some (.int o.1)) (wv_39 cI cJ cZ aQ aQ_kinds aQ_which aQ_firsts aQ_seconds aQ_thirds aQ_nexts aQ_heads aQ_names aQ_variables aQ_holes aQ_sizes aQ_places aQ_conclusions aQ_premises aQ_counts aQ_hitOf aQ_hitOne aQ_hitTwo aQ_hitTerms aQ_image aQ_bound aQ_waits aQ_waitsFor aQ_seen aQ_goals aQ_steps aQ_looked aQ_under aQ_taken aQ_news aQ_order aQ_there aQ_back o.2.1 Q_all o.2.2.1 o.2.2.2.1 o.2.2.2.2 Q_tries Q_takenAll Q_takenFirst) (va_A (wv_39 cI cJ cZ aQ aQ_kinds aQ_which aQ_firsts aQ_seconds aQ_thirds aQ_nexts aQ_heads aQ_names aQ_variables aQ_holes aQ_sizes aQ_places aQ_conclusions aQ_premises aQ_counts aQ_hitOf aQ_hitOne aQ_hitTwo aQ_hitTerms aQ_image aQ_bound aQ_waits aQ_waitsFor aQ_seen aQ_goals aQ_steps aQ_looked aQ_under aQ_taken aQ_news aQ_order aQ_there aQ_back Q_thrown Q_all Q_statements Q_hitKind Q_hits Q_tries Q_takenAll Q_takenFirst) sz)) 0 0 (va_A (wv_39 cI cJ cZ aQ aQ_kinds aQ_which aQ_firsts aQ_seconds aQ_thirds aQ_nexts aQ_heads aQ_names aQ_variables aQ_holes aQ_sizes aQ_places aQ_conclusions aQ_premises aQ_counts aQ_hitOf aQ_hitOne aQ_hitTwo aQ_hitTerms aQ_image aQ_bound aQ_waits aQ_waitsFor aQ_seen aQ_goals aQ_steps aQ_looked aQ_under aQ_taken aQ_news aQ_order aQ_there aQ_back Q_thrown Q_all Q_statements Q_hitKind Q_hits Q_tries Q_takenAll Q_takenFirst) sz) := by
  refine Met.ofW (cc := b_Q_forget) (maxL := 2) (ret := (some .boolean)) (by decide) rfl ?_
  intro p e s m args below meth c s₁ B hml hv
  obtain ⟨rfl, rfl, hP, hK, hD0⟩ := hv
  have hx := B.exec
  have hb := B.bytes
  have hr := B.returns
  have hts : ∀ w ∈ BG, w.before _ s = true := fun w h => atoms_spec (ws := (ws_Q_forget)) B.pre w (List.mem_cons_of_mem _ h)
  have hown : s.vm.findClass RR_Q = some m.cls := findClass_of_methodNamed B.named
  have hlocks := B.notSynchronized
  have hD := hD0.self (sz := s.heap.size)
  have hA : ∀ q : Nat, s.heap.size ≤ q → va_A (wv_39 cI cJ cZ aQ aQ_kinds aQ_which aQ_firsts aQ_seconds aQ_thirds aQ_nexts aQ_heads aQ_names aQ_variables aQ_holes aQ_sizes aQ_places aQ_conclusions aQ_premises aQ_counts aQ_hitOf aQ_hitOne aQ_hitTwo aQ_hitTerms aQ_image aQ_bound aQ_waits aQ_waitsFor aQ_seen aQ_goals aQ_steps aQ_looked aQ_under aQ_taken aQ_news aQ_order aQ_there aQ_back Q_thrown Q_all Q_statements Q_hitKind Q_hits Q_tries Q_takenAll Q_takenFirst) s.heap.size q := fun q h => Or.inr h
  have hS : va_S (va_A (wv_39 cI cJ cZ aQ aQ_kinds aQ_which aQ_firsts aQ_seconds aQ_thirds aQ_nexts aQ_heads aQ_names aQ_variables aQ_holes aQ_sizes aQ_places aQ_conclusions aQ_premises aQ_counts aQ_hitOf aQ_hitOne aQ_hitTwo aQ_hitTerms aQ_image aQ_bound aQ_waits aQ_waitsFor aQ_seen aQ_goals aQ_steps aQ_looked aQ_under aQ_taken aQ_news aQ_order aQ_there aQ_back Q_thrown Q_all Q_statements Q_hitKind Q_hits Q_tries Q_takenAll Q_takenFirst) s.heap.size) s.heap s.heap [] := va_S.rf
  generalize va_A (wv_39 cI cJ cZ aQ aQ_kinds aQ_which aQ_firsts aQ_seconds aQ_thirds aQ_nexts aQ_heads aQ_names aQ_variables aQ_holes aQ_sizes aQ_places aQ_conclusions aQ_premises aQ_counts aQ_hitOf aQ_hitOne aQ_hitTwo aQ_hitTerms aQ_image aQ_bound aQ_waits aQ_waitsFor aQ_seen aQ_goals aQ_steps aQ_looked aQ_under aQ_taken aQ_news aQ_order aQ_there aQ_back Q_thrown Q_all Q_statements Q_hitKind Q_hits Q_tries Q_takenAll Q_takenFirst) s.heap.size = A at hD hA hS ⊢
  have hl := lv_entry ([.ref aQ]) (n := 2) (Nat.le_of_ble_eq_true rfl)
  rw [lg_entry_eq]
  generalize (lg_sl ([.ref aQ]) ++ List.replicate (2 - (lg_sl ([.ref aQ])).length) Slot.unset).toArray = ls at hl ⊢
  have hl : lv_has ls 2 [(0, .ref aQ)] := hl
  have hB32 : ∀ (Q_thrown_32 : Int32) (Q_statements_32 : Int32) (Q_hitKind_32 : Int32) (Q_hits_32 : Int32) (x1_32 : Int32) (s1_32 : Int32) (s2_32 : Int32), ∀ (H : Heap) (locs : List Loc), va_P D vwCl (wv_39 cI cJ cZ aQ aQ_kinds aQ_which aQ_firsts aQ_seconds aQ_thirds aQ_nexts aQ_heads aQ_names aQ_variables aQ_holes aQ_sizes aQ_places aQ_conclusions aQ_premises aQ_counts aQ_hitOf aQ_hitOne aQ_hitTwo aQ_hitTerms aQ_image aQ_bound aQ_waits aQ_waitsFor aQ_seen aQ_goals aQ_steps aQ_looked aQ_under aQ_taken aQ_news aQ_order aQ_there aQ_back Q_thrown_32 Q_all Q_statements_32 Q_hitKind_32 Q_hits_32 Q_tries Q_takenAll Q_takenFirst) H → va_D A (wv_39 cI cJ cZ aQ aQ_kinds aQ_which aQ_firsts aQ_seconds aQ_thirds aQ_nexts aQ_heads aQ_names aQ_variables aQ_holes aQ_sizes aQ_places aQ_conclusions aQ_premises aQ_counts aQ_hitOf aQ_hitOne aQ_hitTwo aQ_hitTerms aQ_image aQ_bound aQ_waits aQ_waitsFor aQ_seen aQ_goals aQ_steps aQ_looked aQ_under aQ_taken aQ_news aQ_order aQ_there aQ_back Q_thrown_32 Q_all Q_statements_32 Q_hitKind_32 Q_hits_32 Q_tries Q_takenAll Q_takenFirst) → va_S A s.heap H locs → ∀ (ls : Array Slot), lv_has ls 2 [(0, .ref aQ), (1, .int x1_32)] → f_Q_forget_B32 Q_thrown_32 Q_statements_32 Q_hitKind_32 Q_hits_32 x1_32 s1_32 s2_32 = some o → W p l e (headSpec (ws_Q_forget) rm_Q_forget).room s m ([.ref aQ] : List Value).toArray below meth c H locs 0 0 (MQ below (WQ D vwCl (some (.int o.1)) (wv_39 cI cJ cZ aQ aQ_kinds aQ_which aQ_firsts aQ_seconds aQ_thirds aQ_nexts aQ_heads aQ_names aQ_variables aQ_holes aQ_sizes aQ_places aQ_conclusions aQ_premises aQ_counts aQ_hitOf aQ_hitOne aQ_hitTwo aQ_hitTerms aQ_image aQ_bound aQ_waits aQ_waitsFor aQ_seen aQ_goals aQ_steps aQ_looked aQ_under aQ_taken aQ_news aQ_order aQ_there aQ_back o.2.1 Q_all o.2.2.1 o.2.2.2.1 o.2.2.2.2 Q_tries Q_takenAll Q_takenFirst) A) ([.ref aQ] : List Value).toArray s 0 0 A) (F0 m 32 ls [.int s2_32, .int s1_32, .ref aQ]) := by
    intro Q_thrown_32 Q_statements_32 Q_hitKind_32 Q_hits_32 x1_32 s1_32 s2_32 H locs hP hD hS ls hl hf
    rw [f_Q_forget_B32] at hf
    refine lv_isub hx hb d_Q_forget_32 ?_
    refine lv_topi (fun x3 ex3 => ?_)
    have hf := of_nm ex3 hf
    refine va_put (D := D) (ci := 7) (v := .int x3) (ty := .int) (C := RR_Q) (T := FF_Q) (N := 41) hx hb hts kin_Q TT_Q tok_Q nok_Q hown hK.1 hP hD hS 0 rfl rfl 17 (by decide) (hts _ k4_84) (fun _ h9 => h9) rfl (by decide +kernel) rfl rfl (Nat.le_of_ble_eq_true rfl) d_Q_forget_33 (fun H locs hP hD hS => ?_)
    have hP : va_P D vwCl (wv_39 cI cJ cZ aQ aQ_kinds aQ_which aQ_firsts aQ_seconds aQ_thirds aQ_nexts aQ_heads aQ_names aQ_variables aQ_holes aQ_sizes aQ_places aQ_conclusions aQ_premises aQ_counts aQ_hitOf aQ_hitOne aQ_hitTwo aQ_hitTerms aQ_image aQ_bound aQ_waits aQ_waitsFor aQ_seen aQ_goals aQ_steps aQ_looked aQ_under aQ_taken aQ_news aQ_order aQ_there aQ_back Q_thrown_32 Q_all x3 Q_hitKind_32 Q_hits_32 Q_tries Q_takenAll Q_takenFirst) H := hP
    have hD : va_D A (wv_39 cI cJ cZ aQ aQ_kinds aQ_which aQ_firsts aQ_seconds aQ_thirds aQ_nexts aQ_heads aQ_names aQ_variables aQ_holes aQ_sizes aQ_places aQ_conclusions aQ_premises aQ_counts aQ_hitOf aQ_hitOne aQ_hitTwo aQ_hitTerms aQ_image aQ_bound aQ_waits aQ_waitsFor aQ_seen aQ_goals aQ_steps aQ_looked aQ_under aQ_taken aQ_news aQ_order aQ_there aQ_back Q_thrown_32 Q_all x3 Q_hitKind_32 Q_hits_32 Q_tries Q_takenAll Q_takenFirst) := hD
    refine lv_aload_n hx hb d_Q_forget_36 rfl (lv_at hl 0 rfl) ?_
    refine lv_iconst (v := 0) hx hb d_Q_forget_37 (by decide) ?_
    refine va_put (D := D) (ci := 7) (v := .int (0 : Int32)) (ty := .int) (C := RR_Q) (T := FF_Q) (N := 41) hx hb hts kin_Q TT_Q tok_Q nok_Q hown hK.1 hP hD hS 0 rfl rfl 19 (by decide) (hts _ k4_86) (fun _ h9 => h9) rfl (by decide +kernel) rfl rfl (Nat.le_of_ble_eq_true rfl) d_Q_forget_38 (fun H locs hP hD hS => ?_)
    have hP : va_P D vwCl (wv_39 cI cJ cZ aQ aQ_kinds aQ_which aQ_firsts aQ_seconds aQ_thirds aQ_nexts aQ_heads aQ_names aQ_variables aQ_holes aQ_sizes aQ_places aQ_conclusions aQ_premises aQ_counts aQ_hitOf aQ_hitOne aQ_hitTwo aQ_hitTerms aQ_image aQ_bound aQ_waits aQ_waitsFor aQ_seen aQ_goals aQ_steps aQ_looked aQ_under aQ_taken aQ_news aQ_order aQ_there aQ_back Q_thrown_32 Q_all x3 Q_hitKind_32 (0 : Int32) Q_tries Q_takenAll Q_takenFirst) H := hP
    have hD : va_D A (wv_39 cI cJ cZ aQ aQ_kinds aQ_which aQ_firsts aQ_seconds aQ_thirds aQ_nexts aQ_heads aQ_names aQ_variables aQ_holes aQ_sizes aQ_places aQ_conclusions aQ_premises aQ_counts aQ_hitOf aQ_hitOne aQ_hitTwo aQ_hitTerms aQ_image aQ_bound aQ_waits aQ_waitsFor aQ_seen aQ_goals aQ_steps aQ_looked aQ_under aQ_taken aQ_news aQ_order aQ_there aQ_back Q_thrown_32 Q_all x3 Q_hitKind_32 (0 : Int32) Q_tries Q_takenAll Q_takenFirst) := hD
    refine lv_aload_n hx hb d_Q_forget_41 rfl (lv_at hl 0 rfl) ?_
    refine lv_iconst (v := 0) hx hb d_Q_forget_42 (by decide) ?_
    refine va_put (D := D) (ci := 7) (v := .int (0 : Int32)) (ty := .int) (C := RR_Q) (T := FF_Q) (N := 41) hx hb hts kin_Q TT_Q tok_Q nok_Q hown hK.1 hP hD hS 0 rfl rfl 18 (by decide) (hts _ k4_85) (fun _ h9 => h9) rfl (by decide +kernel) rfl rfl (Nat.le_of_ble_eq_true rfl) d_Q_forget_43 (fun H locs hP hD hS => ?_)
    have hP : va_P D vwCl (wv_39 cI cJ cZ aQ aQ_kinds aQ_which aQ_firsts aQ_seconds aQ_thirds aQ_nexts aQ_heads aQ_names aQ_variables aQ_holes aQ_sizes aQ_places aQ_conclusions aQ_premises aQ_counts aQ_hitOf aQ_hitOne aQ_hitTwo aQ_hitTerms aQ_image aQ_bound aQ_waits aQ_waitsFor aQ_seen aQ_goals aQ_steps aQ_looked aQ_under aQ_taken aQ_news aQ_order aQ_there aQ_back Q_thrown_32 Q_all x3 (0 : Int32) (0 : Int32) Q_tries Q_takenAll Q_takenFirst) H := hP
    have hD : va_D A (wv_39 cI cJ cZ aQ aQ_kinds aQ_which aQ_firsts aQ_seconds aQ_thirds aQ_nexts aQ_heads aQ_names aQ_variables aQ_holes aQ_sizes aQ_places aQ_conclusions aQ_premises aQ_counts aQ_hitOf aQ_hitOne aQ_hitTwo aQ_hitTerms aQ_image aQ_bound aQ_waits aQ_waitsFor aQ_seen aQ_goals aQ_steps aQ_looked aQ_under aQ_taken aQ_news aQ_order aQ_there aQ_back Q_thrown_32 Q_all x3 (0 : Int32) (0 : Int32) Q_tries Q_takenAll Q_takenFirst) := hD
    refine lv_iload_n hx hb d_Q_forget_46 rfl (lv_at hl 1 rfl) ?_
    obtain ⟨h4, hf⟩ := of_gd hf
    obtain rfl := Option.some.inj hf
    exact W.zret (v := x1_32) hx hb hr (zb_nar h4) (fun t ht hW => ⟨rfl, by rw [ht]; exact hP, hD, hS.F ht⟩) hS.2.2 d_Q_forget_47
  have hB17 : ∀ (Q_thrown_17 : Int32) (Q_statements_17 : Int32) (Q_hitKind_17 : Int32) (Q_hits_17 : Int32) (s0_17 : Int32), ∀ (H : Heap) (locs : List Loc), va_P D vwCl (wv_39 cI cJ cZ aQ aQ_kinds aQ_which aQ_firsts aQ_seconds aQ_thirds aQ_nexts aQ_heads aQ_names aQ_variables aQ_holes aQ_sizes aQ_places aQ_conclusions aQ_premises aQ_counts aQ_hitOf aQ_hitOne aQ_hitTwo aQ_hitTerms aQ_image aQ_bound aQ_waits aQ_waitsFor aQ_seen aQ_goals aQ_steps aQ_looked aQ_under aQ_taken aQ_news aQ_order aQ_there aQ_back Q_thrown_17 Q_all Q_statements_17 Q_hitKind_17 Q_hits_17 Q_tries Q_takenAll Q_takenFirst) H → va_D A (wv_39 cI cJ cZ aQ aQ_kinds aQ_which aQ_firsts aQ_seconds aQ_thirds aQ_nexts aQ_heads aQ_names aQ_variables aQ_holes aQ_sizes aQ_places aQ_conclusions aQ_premises aQ_counts aQ_hitOf aQ_hitOne aQ_hitTwo aQ_hitTerms aQ_image aQ_bound aQ_waits aQ_waitsFor aQ_seen aQ_goals aQ_steps aQ_looked aQ_under aQ_taken aQ_news aQ_order aQ_there aQ_back Q_thrown_17 Q_all Q_statements_17 Q_hitKind_17 Q_hits_17 Q_tries Q_takenAll Q_takenFirst) → va_S A s.heap H locs → ∀ (ls : Array Slot), lv_has ls 2 [(0, .ref aQ)] → f_Q_forget_B17 Q_thrown_17 Q_statements_17 Q_hitKind_17 Q_hits_17 s0_17 = some o → W p l e (headSpec (ws_Q_forget) rm_Q_forget).room s m ([.ref aQ] : List Value).toArray below meth c H locs 0 0 (MQ below (WQ D vwCl (some (.int o.1)) (wv_39 cI cJ cZ aQ aQ_kinds aQ_which aQ_firsts aQ_seconds aQ_thirds aQ_nexts aQ_heads aQ_names aQ_variables aQ_holes aQ_sizes aQ_places aQ_conclusions aQ_premises aQ_counts aQ_hitOf aQ_hitOne aQ_hitTwo aQ_hitTerms aQ_image aQ_bound aQ_waits aQ_waitsFor aQ_seen aQ_goals aQ_steps aQ_looked aQ_under aQ_taken aQ_news aQ_order aQ_there aQ_back o.2.1 Q_all o.2.2.1 o.2.2.2.1 o.2.2.2.2 Q_tries Q_takenAll Q_takenFirst) A) ([.ref aQ] : List Value).toArray s 0 0 A) (F0 m 17 ls [.int s0_17]) := by
    intro Q_thrown_17 Q_statements_17 Q_hitKind_17 Q_hits_17 s0_17 H locs hP hD hS ls hl hf
    rw [f_Q_forget_B17] at hf
    refine lv_istore_n (lv' := [(1, .int s0_17), (0, .ref aQ)]) hx hb d_Q_forget_17 rfl hl (by decide) rfl (fun ls hl => ?_)
    refine lv_aload_n hx hb d_Q_forget_18 rfl (lv_at hl 1 rfl) ?_
    refine lv_dup hx hb d_Q_forget_19 rfl ?_
    refine va_get (D := D) (ci := 7) (v := .int Q_statements_17) (C := RR_Q) (T := FF_Q) (N := 41) hx hb hts kin_Q hown hK.1 hP 0 rfl rfl 17 (by decide) (hts _ k4_84) (fun _ h9 => h9) rfl d_Q_forget_20 ?_
    refine lv_iload_n hx hb d_Q_forget_23 rfl (lv_at hl 0 rfl) ?_
    refine lv_if_eq (tgt := 31) hx hb d_Q_forget_24 (by decide) (fun c2 => ?_) (fun c2 => ?_)
    · have hf := ite_t c2 hf
      refine lv_iconst (v := 0) hx hb d_Q_forget_31 (by decide) ?_
      exact hB32 _ _ _ _ _ _ _ _ _ hP hD hS _ (lv_sub hl [1, 0] rfl) hf
    · have hf := ite_f c2 hf
      refine lv_iconst (v := 1) hx hb d_Q_forget_27 (by decide) ?_
      refine lv_goto (tgt := 32) hx hb d_Q_forget_28 (by decide) ?_
      exact hB32 _ _ _ _ _ _ _ _ _ hP hD hS _ (lv_sub hl [1, 0] rfl) hf
  rw [f_Q_forget] at hf
  refine lv_aload_n hx hb d_Q_forget_0 rfl (lv_at hl 0 rfl) ?_
  refine lv_iconst (v := 0) hx hb d_Q_forget_1 (by decide) ?_
  refine va_put (D := D) (ci := 7) (v := .int (0 : Int32)) (ty := .int) (C := RR_Q) (T := FF_Q) (N := 41) hx hb hts kin_Q TT_Q tok_Q nok_Q hown hK.1 hP hD hS 0 rfl rfl 0 (by decide) (hts _ k4_67) (fun _ h9 => h9) rfl (by decide +kernel) rfl rfl (Nat.le_of_ble_eq_true rfl) d_Q_forget_2 (fun H locs hP hD hS => ?_)
  have hP : va_P D vwCl (wv_39 cI cJ cZ aQ aQ_kinds aQ_which aQ_firsts aQ_seconds aQ_thirds aQ_nexts aQ_heads aQ_names aQ_variables aQ_holes aQ_sizes aQ_places aQ_conclusions aQ_premises aQ_counts aQ_hitOf aQ_hitOne aQ_hitTwo aQ_hitTerms aQ_image aQ_bound aQ_waits aQ_waitsFor aQ_seen aQ_goals aQ_steps aQ_looked aQ_under aQ_taken aQ_news aQ_order aQ_there aQ_back (0 : Int32) Q_all Q_statements Q_hitKind Q_hits Q_tries Q_takenAll Q_takenFirst) H := hP
  have hD : va_D A (wv_39 cI cJ cZ aQ aQ_kinds aQ_which aQ_firsts aQ_seconds aQ_thirds aQ_nexts aQ_heads aQ_names aQ_variables aQ_holes aQ_sizes aQ_places aQ_conclusions aQ_premises aQ_counts aQ_hitOf aQ_hitOne aQ_hitTwo aQ_hitTerms aQ_image aQ_bound aQ_waits aQ_waitsFor aQ_seen aQ_goals aQ_steps aQ_looked aQ_under aQ_taken aQ_news aQ_order aQ_there aQ_back (0 : Int32) Q_all Q_statements Q_hitKind Q_hits Q_tries Q_takenAll Q_takenFirst) := hD
  refine lv_aload_n hx hb d_Q_forget_5 rfl (lv_at hl 0 rfl) ?_
  refine va_get (D := D) (ci := 7) (v := .int Q_statements) (C := RR_Q) (T := FF_Q) (N := 41) hx hb hts kin_Q hown hK.1 hP 0 rfl rfl 17 (by decide) (hts _ k4_84) (fun _ h9 => h9) rfl d_Q_forget_6 ?_
  refine lv_if_le (tgt := 16) hx hb d_Q_forget_9 (by decide) (fun c1 => ?_) (fun c1 => ?_)
  · have hf := ite_t c1 hf
    refine lv_iconst (v := 0) hx hb d_Q_forget_16 (by decide) ?_
    exact hB17 _ _ _ _ _ _ _ hP hD hS _ (lv_sub hl [0] rfl) hf
  · have hf := ite_f c1 hf
    refine lv_iconst (v := 1) hx hb d_Q_forget_12 (by decide) ?_
    refine lv_goto (tgt := 17) hx hb d_Q_forget_13 (by decide) ?_
    exact hB17 _ _ _ _ _ _ _ hP hD hS _ (lv_sub hl [0] rfl) hf
def f_Q_premise (Q_premises : (Nat → Int32)) (p0 : Int32) (p1 : Int32) : Option (Int32) :=
  gd (ixb (((4 : Int32) * p0) + p1) 120) <|
  some (Q_premises (((4 : Int32) * p0) + p1).toNatClampNeg)
abbrev rm_Q_premise : Room := { frames := 0, cells := 0, slots := 0, locals := 0 }
set_option maxHeartbeats 4000000 in
set_option maxRecDepth 100000 in
theorem c_Q_premise (l : Launch) (D : va_G) (cI cJ cZ : ClassId) (aQ aQ_kinds aQ_which aQ_firsts aQ_seconds aQ_thirds aQ_nexts aQ_heads aQ_names aQ_variables aQ_holes aQ_sizes aQ_places aQ_conclusions aQ_premises aQ_counts aQ_hitOf aQ_hitOne aQ_hitTwo aQ_hitTerms aQ_image aQ_bound aQ_waits aQ_waitsFor aQ_seen aQ_goals aQ_steps aQ_looked aQ_under aQ_taken aQ_news aQ_order aQ_there aQ_back : Nat) (Q_thrown : Int32) (Q_all : Int32) (Q_statements : Int32) (Q_hitKind : Int32) (Q_hits : Int32) (Q_tries : Int32) (Q_takenAll : Int32) (Q_takenFirst : Int32) (Q_premises : (Nat → Int32)) (p0 : Int32) (p1 : Int32) (o : Int32) (hf : f_Q_premise Q_premises p0 p1 = some o) : Met l y_Q_premise (ws_Q_premise) rm_Q_premise (RPc D vwCl cI cJ cZ [.ref aQ, .int p0, .int p1] (wv_47 cI cJ cZ aQ aQ_kinds aQ_which aQ_firsts aQ_seconds aQ_thirds aQ_nexts aQ_heads aQ_names aQ_variables aQ_holes aQ_sizes aQ_places aQ_conclusions aQ_premises aQ_counts aQ_hitOf aQ_hitOne aQ_hitTwo aQ_hitTerms aQ_image aQ_bound aQ_waits aQ_waitsFor aQ_seen aQ_goals aQ_steps aQ_looked aQ_under aQ_taken aQ_news aQ_order aQ_there aQ_back Q_thrown Q_all Q_statements Q_hitKind Q_hits Q_tries Q_takenAll Q_takenFirst Q_premises)) (RQ (some (.int o))) 0 0 (fun _ => False) := by
  refine Met.ofW (cc := b_Q_premise) (maxL := 3) (ret := (some .int)) (by decide) rfl ?_
  intro p e s m args below meth c s₁ B hml hv
  obtain ⟨rfl, hP, hK⟩ := hv
  have hx := B.exec
  have hb := B.bytes
  have hr := B.returns
  have hts : ∀ w ∈ BG, w.before _ s = true := fun w h => atoms_spec (ws := (ws_Q_premise)) B.pre w (List.mem_cons_of_mem _ h)
  have hown : s.vm.findClass RR_Q = some m.cls := findClass_of_methodNamed B.named
  have hlocks := B.notSynchronized
  have hl := lv_entry ([.ref aQ, .int p0, .int p1]) (n := 3) (Nat.le_of_ble_eq_true rfl)
  rw [lg_entry_eq]
  generalize (lg_sl ([.ref aQ, .int p0, .int p1]) ++ List.replicate (3 - (lg_sl ([.ref aQ, .int p0, .int p1])).length) Slot.unset).toArray = ls at hl ⊢
  have hl : lv_has ls 3 [(0, .ref aQ), (1, .int p0), (2, .int p1)] := hl
  rw [f_Q_premise] at hf
  refine lv_aload_n hx hb d_Q_premise_0 rfl (lv_at hl 0 rfl) ?_
  refine va_get (D := D) (ci := 7) (v := .ref aQ_premises) (C := RR_Q) (T := FF_Q) (N := 41) hx hb hts kin_Q hown hK.1 hP 0 rfl rfl 15 (by decide) (hts _ k4_82) (fun _ h9 => h9) rfl d_Q_premise_1 ?_
  refine lv_iconst (v := 4) hx hb d_Q_premise_4 (by decide) ?_
  refine lv_iload_n hx hb d_Q_premise_5 rfl (lv_at hl 1 rfl) ?_
  refine lv_imul hx hb d_Q_premise_6 ?_
  refine lv_iload_n hx hb d_Q_premise_7 rfl (lv_at hl 2 rfl) ?_
  refine lv_iadd hx hb d_Q_premise_8 ?_
  obtain ⟨h1, hf⟩ := of_gd hf
  refine va_iald hx hb hK.1 hP 1 0 rfl rfl (ixb_in h1) d_Q_premise_9 ?_
  obtain rfl := Option.some.inj hf
  exact W.iret (v := Q_premises (((4 : Int32) * p0) + p1).toNatClampNeg) hx hb hr (fun t ht hW => ⟨rfl, ht⟩) (fun q h => by cases h) d_Q_premise_10
def f_Q_open_L4 (Q_variables : (Nat → Int32)) (Q_conclusions : (Nat → Int32)) (Q_premises : (Nat → Int32)) (Q_counts : (Nat → Int32)) : Nat → Int32 → Int32 → Int32 → Option (Int32)
  | 0, _, _, _ => none
  | n + 1, x1_4, x2_4, x3_4 =>
    gd (ixb x1_4 30) <|
    if (Q_counts x1_4.toNatClampNeg) ≤ x3_4 then
      gd (ixb x1_4 30) <|
      gd (ixb (Q_conclusions x1_4.toNatClampNeg) 100) <|
      some (x2_4 &&& ((Q_variables (Q_conclusions x1_4.toNatClampNeg).toNatClampNeg) ^^^ (-1 : Int32)))
    else
      (f_Q_premise Q_premises x1_4 x3_4).bind fun r5 =>
      gd (ixb r5 100) <|
      nm (x2_4 ||| (Q_variables r5.toNatClampNeg)) fun x7 =>
      nm (x3_4 + (1 : Int32)) fun x8 =>
      (f_Q_open_L4 Q_variables Q_conclusions Q_premises Q_counts n) x1_4 x7 x8
def f_Q_open (Q_variables : (Nat → Int32)) (Q_conclusions : (Nat → Int32)) (Q_premises : (Nat → Int32)) (Q_counts : (Nat → Int32)) (p0 : Int32) : Option (Int32) :=
  f_Q_open_L4 Q_variables Q_conclusions Q_premises Q_counts FU p0 (0 : Int32) (0 : Int32)
abbrev rm_Q_open : Room := { frames := 1, cells := 0, slots := 0, locals := 22 }
set_option maxHeartbeats 4000000 in
set_option maxRecDepth 100000 in
theorem c_Q_open (l : Launch) (D : va_G) (cI cJ cZ : ClassId) (aQ aQ_kinds aQ_which aQ_firsts aQ_seconds aQ_thirds aQ_nexts aQ_heads aQ_names aQ_variables aQ_holes aQ_sizes aQ_places aQ_conclusions aQ_premises aQ_counts aQ_hitOf aQ_hitOne aQ_hitTwo aQ_hitTerms aQ_image aQ_bound aQ_waits aQ_waitsFor aQ_seen aQ_goals aQ_steps aQ_looked aQ_under aQ_taken aQ_news aQ_order aQ_there aQ_back : Nat) (Q_thrown : Int32) (Q_all : Int32) (Q_statements : Int32) (Q_hitKind : Int32) (Q_hits : Int32) (Q_tries : Int32) (Q_takenAll : Int32) (Q_takenFirst : Int32) (Q_variables : (Nat → Int32)) (Q_conclusions : (Nat → Int32)) (Q_premises : (Nat → Int32)) (Q_counts : (Nat → Int32)) (p0 : Int32) (o : Int32) (hf : f_Q_open Q_variables Q_conclusions Q_premises Q_counts p0 = some o) : Met l y_Q_open (ws_Q_open) rm_Q_open (RPc D vwCl cI cJ cZ [.ref aQ, .int p0] (wv_48 cI cJ cZ aQ aQ_kinds aQ_which aQ_firsts aQ_seconds aQ_thirds aQ_nexts aQ_heads aQ_names aQ_variables aQ_holes aQ_sizes aQ_places aQ_conclusions aQ_premises aQ_counts aQ_hitOf aQ_hitOne aQ_hitTwo aQ_hitTerms aQ_image aQ_bound aQ_waits aQ_waitsFor aQ_seen aQ_goals aQ_steps aQ_looked aQ_under aQ_taken aQ_news aQ_order aQ_there aQ_back Q_thrown Q_all Q_statements Q_hitKind Q_hits Q_tries Q_takenAll Q_takenFirst Q_variables Q_conclusions Q_premises Q_counts)) (RQ (some (.int o))) 0 0 (fun _ => False) := by
  refine Met.ofW (cc := b_Q_open) (maxL := 4) (ret := (some .int)) (by decide) rfl ?_
  intro p e s m args below meth c s₁ B hml hv
  obtain ⟨rfl, hP, hK⟩ := hv
  have hx := B.exec
  have hb := B.bytes
  have hr := B.returns
  have hts : ∀ w ∈ BG, w.before _ s = true := fun w h => atoms_spec (ws := (ws_Q_open)) B.pre w (List.mem_cons_of_mem _ h)
  have hown : s.vm.findClass RR_Q = some m.cls := findClass_of_methodNamed B.named
  have hlocks := B.notSynchronized
  have hl := lv_entry ([.ref aQ, .int p0]) (n := 4) (Nat.le_of_ble_eq_true rfl)
  rw [lg_entry_eq]
  generalize (lg_sl ([.ref aQ, .int p0]) ++ List.replicate (4 - (lg_sl ([.ref aQ, .int p0])).length) Slot.unset).toArray = ls at hl ⊢
  have hl : lv_has ls 4 [(0, .ref aQ), (1, .int p0)] := hl
  have hL4 : ∀ (n4 : Nat), ∀ (x1_4 : Int32) (x2_4 : Int32) (x3_4 : Int32), ∀ (ls : Array Slot), lv_has ls 4 [(0, .ref aQ), (1, .int x1_4), (2, .int x2_4), (3, .int x3_4)] → f_Q_open_L4 Q_variables Q_conclusions Q_premises Q_counts n4 x1_4 x2_4 x3_4 = some o → W p l e (headSpec (ws_Q_open) rm_Q_open).room s m ([.ref aQ, .int p0] : List Value).toArray below meth c s.heap [] 0 0 (MQ below (RQ (some (.int o))) ([.ref aQ, .int p0] : List Value).toArray s 0 0 (fun _ => False)) (F0 m 4 ls []) := by
    intro n4
    induction n4 with
    | zero =>
      intro x1_4 x2_4 x3_4 ls hl hf
      rw [f_Q_open_L4] at hf
      cases hf
    | succ n4 ih4 =>
      intro x1_4 x2_4 x3_4 ls hl hf
      rw [f_Q_open_L4] at hf
      refine lv_iload_n hx hb d_Q_open_4 rfl (lv_at hl 3 rfl) ?_
      refine lv_aload_n hx hb d_Q_open_5 rfl (lv_at hl 0 rfl) ?_
      refine va_get (D := D) (ci := 7) (v := .ref aQ_counts) (C := RR_Q) (T := FF_Q) (N := 41) hx hb hts kin_Q hown hK.1 hP 0 rfl rfl 16 (by decide) (hts _ k4_83) (fun _ h9 => h9) rfl d_Q_open_6 ?_
      refine lv_iload_n hx hb d_Q_open_9 rfl (lv_at hl 1 rfl) ?_
      obtain ⟨h1, hf⟩ := of_gd hf
      refine va_iald hx hb hK.1 hP 4 0 rfl rfl (ixb_in h1) d_Q_open_10 ?_
      refine lv_icmp_ge (tgt := 34) hx hb d_Q_open_11 (by decide) (fun c2 => ?_) (fun c2 => ?_)
      · have hf := ite_t c2 hf
        refine lv_iload_n hx hb d_Q_open_34 rfl (lv_at hl 2 rfl) ?_
        refine lv_aload_n hx hb d_Q_open_35 rfl (lv_at hl 0 rfl) ?_
        refine va_get (D := D) (ci := 7) (v := .ref aQ_variables) (C := RR_Q) (T := FF_Q) (N := 41) hx hb hts kin_Q hown hK.1 hP 0 rfl rfl 10 (by decide) (hts _ k4_77) (fun _ h9 => h9) rfl d_Q_open_36 ?_
        refine lv_aload_n hx hb d_Q_open_39 rfl (lv_at hl 0 rfl) ?_
        refine va_get (D := D) (ci := 7) (v := .ref aQ_conclusions) (C := RR_Q) (T := FF_Q) (N := 41) hx hb hts kin_Q hown hK.1 hP 0 rfl rfl 14 (by decide) (hts _ k4_81) (fun _ h9 => h9) rfl d_Q_open_40 ?_
        refine lv_iload_n hx hb d_Q_open_43 rfl (lv_at hl 1 rfl) ?_
        obtain ⟨h3, hf⟩ := of_gd hf
        refine va_iald hx hb hK.1 hP 2 0 rfl rfl (ixb_in h3) d_Q_open_44 ?_
        obtain ⟨h4, hf⟩ := of_gd hf
        refine va_iald hx hb hK.1 hP 1 0 rfl rfl (ixb_in h4) d_Q_open_45 ?_
        refine lv_iconst (v := -1) hx hb d_Q_open_46 (by decide) ?_
        refine lv_ixor hx hb d_Q_open_47 ?_
        refine lv_iand hx hb d_Q_open_48 ?_
        obtain rfl := Option.some.inj hf
        exact W.iret (v := x2_4 &&& ((Q_variables (Q_conclusions x1_4.toNatClampNeg).toNatClampNeg) ^^^ (-1 : Int32))) hx hb hr (fun t ht hW => ⟨rfl, ht⟩) (fun q h => by cases h) d_Q_open_49
      · have hf := ite_f c2 hf
        refine lv_iload_n hx hb d_Q_open_14 rfl (lv_at hl 2 rfl) ?_
        refine lv_aload_n hx hb d_Q_open_15 rfl (lv_at hl 0 rfl) ?_
        refine va_get (D := D) (ci := 7) (v := .ref aQ_variables) (C := RR_Q) (T := FF_Q) (N := 41) hx hb hts kin_Q hown hK.1 hP 0 rfl rfl 10 (by decide) (hts _ k4_77) (fun _ h9 => h9) rfl d_Q_open_16 ?_
        refine lv_aload_n hx hb d_Q_open_19 rfl (lv_at hl 0 rfl) ?_
        refine lv_iload_n hx hb d_Q_open_20 rfl (lv_at hl 1 rfl) ?_
        refine lv_iload_n hx hb d_Q_open_21 rfl (lv_at hl 3 rfl) ?_
        obtain ⟨r5, hr5, hf⟩ := of_bd hf
        refine rd_call (va_runV (As := [.int x1_4, .int x3_4]) (rest := [.ref aQ_variables, .int x2_4]) ⟨hx, hb, hml, hown, hts⟩ (c_Q_premise l D cI cJ cZ aQ aQ_kinds aQ_which aQ_firsts aQ_seconds aQ_thirds aQ_nexts aQ_heads aQ_names aQ_variables aQ_holes aQ_sizes aQ_places aQ_conclusions aQ_premises aQ_counts aQ_hitOf aQ_hitOne aQ_hitTwo aQ_hitTerms aQ_image aQ_bound aQ_waits aQ_waitsFor aQ_seen aQ_goals aQ_steps aQ_looked aQ_under aQ_taken aQ_news aQ_order aQ_there aQ_back Q_thrown Q_all Q_statements Q_hitKind Q_hits Q_tries Q_takenAll Q_takenFirst Q_premises x1_4 x3_4 r5 hr5) (bigV 2 hts k5_15 k5_17 ks_Q_premise k1_9 k5_18 rfl rfl hd_Q_premise ⟨Nat.le_of_ble_eq_true rfl, Nat.le_of_ble_eq_true rfl⟩) (rd_preV hK hP [0, 3] rfl 0 rfl rfl rfl) rfl rfl hl.1 rfl (lv_room (Nat.le_of_ble_eq_true rfl)) d_Q_open_22 ⟨Nat.le_of_ble_eq_true rfl, Nat.le_of_ble_eq_true rfl⟩) ?_
        obtain ⟨h6, hf⟩ := of_gd hf
        refine va_iald hx hb hK.1 hP 1 0 rfl rfl (ixb_in h6) d_Q_open_25 ?_
        refine lv_ior hx hb d_Q_open_26 ?_
        refine lv_topi (fun x7 ex7 => ?_)
        have hf := of_nm ex7 hf
        refine lv_istore_n (lv' := [(2, .int x7), (0, .ref aQ), (1, .int x1_4), (3, .int x3_4)]) hx hb d_Q_open_27 rfl hl (by decide) rfl (fun ls hl => ?_)
        obtain ⟨x8, ex8⟩ : ∃ y : Int32, y = x3_4 + (1 : Int32) := ⟨_, rfl⟩
        refine lv_iinc (v := x8) (lv' := [(3, .int x8), (2, .int x7), (0, .ref aQ), (1, .int x1_4)]) hx hb d_Q_open_28 hl (k := 3) rfl (by rw [ex8]; rfl) (by decide) rfl (fun ls hl => ?_)
        have hf := of_nm ex8 hf
        refine lv_goto (tgt := 4) hx hb d_Q_open_31 (by decide) ?_
        exact ih4 _ _ _ _ (lv_sub hl [2, 3, 1, 0] rfl) hf
  rw [f_Q_open] at hf
  refine lv_iconst (v := 0) hx hb d_Q_open_0 (by decide) ?_
  refine lv_istore_n (lv' := [(2, .int (0 : Int32)), (0, .ref aQ), (1, .int p0)]) hx hb d_Q_open_1 rfl hl (by decide) rfl (fun ls hl => ?_)
  refine lv_iconst (v := 0) hx hb d_Q_open_2 (by decide) ?_
  refine lv_istore_n (lv' := [(3, .int (0 : Int32)), (2, .int (0 : Int32)), (0, .ref aQ), (1, .int p0)]) hx hb d_Q_open_3 rfl hl (by decide) rfl (fun ls hl => ?_)
  exact hL4 FU _ _ _ _ (lv_sub hl [2, 3, 1, 0] rfl) hf
def f_Q_many_L4 : Nat → Int32 → Int32 → Int32 → Option (Int32)
  | 0, _, _, _ => none
  | n + 1, x0_4, x1_4, x2_4 =>
    if (30 : Int32) ≤ x2_4 then
      some x1_4
    else
      nm (x1_4 + ((x0_4 >>> (x2_4 &&& 31)) &&& (1 : Int32))) fun x2 =>
      nm (x2_4 + (1 : Int32)) fun x3 =>
      (f_Q_many_L4 n) x0_4 x2 x3
def f_Q_many (p0 : Int32) : Option (Int32) :=
  f_Q_many_L4 FU p0 (0 : Int32) (0 : Int32)
abbrev rm_Q_many : Room := { frames := 0, cells := 0, slots := 0, locals := 0 }
set_option maxHeartbeats 4000000 in
set_option maxRecDepth 100000 in
theorem c_Q_many (l : Launch) (D : va_G) (cI cJ cZ : ClassId) (p0 : Int32) (o : Int32) (hf : f_Q_many p0 = some o) : Met l y_Q_many (ws_Q_many) rm_Q_many (RPc D vwCl cI cJ cZ [.int p0] (wv_5 cI cJ cZ)) (RQ (some (.int o))) 0 0 (fun _ => False) := by
  refine Met.ofW (cc := b_Q_many) (maxL := 3) (ret := (some .int)) (by decide) rfl ?_
  intro p e s m args below meth c s₁ B hml hv
  obtain ⟨rfl, hP, hK⟩ := hv
  have hx := B.exec
  have hb := B.bytes
  have hr := B.returns
  have hts : ∀ w ∈ BG, w.before _ s = true := fun w h => atoms_spec (ws := (ws_Q_many)) B.pre w (List.mem_cons_of_mem _ h)
  have hown : s.vm.findClass RR_Q = some m.cls := findClass_of_methodNamed B.named
  have hlocks := B.notSynchronized
  have hl := lv_entry ([.int p0]) (n := 3) (Nat.le_of_ble_eq_true rfl)
  rw [lg_entry_eq]
  generalize (lg_sl ([.int p0]) ++ List.replicate (3 - (lg_sl ([.int p0])).length) Slot.unset).toArray = ls at hl ⊢
  have hl : lv_has ls 3 [(0, .int p0)] := hl
  have hL4 : ∀ (n4 : Nat), ∀ (x0_4 : Int32) (x1_4 : Int32) (x2_4 : Int32), ∀ (ls : Array Slot), lv_has ls 3 [(0, .int x0_4), (1, .int x1_4), (2, .int x2_4)] → f_Q_many_L4 n4 x0_4 x1_4 x2_4 = some o → W p l e (headSpec (ws_Q_many) rm_Q_many).room s m ([.int p0] : List Value).toArray below meth c s.heap [] 0 0 (MQ below (RQ (some (.int o))) ([.int p0] : List Value).toArray s 0 0 (fun _ => False)) (F0 m 4 ls []) := by
    intro n4
    induction n4 with
    | zero =>
      intro x0_4 x1_4 x2_4 ls hl hf
      rw [f_Q_many_L4] at hf
      cases hf
    | succ n4 ih4 =>
      intro x0_4 x1_4 x2_4 ls hl hf
      rw [f_Q_many_L4] at hf
      refine lv_iload_n hx hb d_Q_many_4 rfl (lv_at hl 2 rfl) ?_
      refine lv_bipush (v := 30) hx hb d_Q_many_5 (by decide) ?_
      refine lv_icmp_ge (tgt := 24) hx hb d_Q_many_7 (by decide) (fun c1 => ?_) (fun c1 => ?_)
      · have hf := ite_t c1 hf
        refine lv_iload_n hx hb d_Q_many_24 rfl (lv_at hl 1 rfl) ?_
        obtain rfl := Option.some.inj hf
        exact W.iret (v := x1_4) hx hb hr (fun t ht hW => ⟨rfl, ht⟩) (fun q h => by cases h) d_Q_many_25
      · have hf := ite_f c1 hf
        refine lv_iload_n hx hb d_Q_many_10 rfl (lv_at hl 1 rfl) ?_
        refine lv_iload_n hx hb d_Q_many_11 rfl (lv_at hl 0 rfl) ?_
        refine lv_iload_n hx hb d_Q_many_12 rfl (lv_at hl 2 rfl) ?_
        refine lv_ishr hx hb d_Q_many_13 ?_
        refine lv_iconst (v := 1) hx hb d_Q_many_14 (by decide) ?_
        refine lv_iand hx hb d_Q_many_15 ?_
        refine lv_iadd hx hb d_Q_many_16 ?_
        refine lv_topi (fun x2 ex2 => ?_)
        have hf := of_nm ex2 hf
        refine lv_istore_n (lv' := [(1, .int x2), (0, .int x0_4), (2, .int x2_4)]) hx hb d_Q_many_17 rfl hl (by decide) rfl (fun ls hl => ?_)
        obtain ⟨x3, ex3⟩ : ∃ y : Int32, y = x2_4 + (1 : Int32) := ⟨_, rfl⟩
        refine lv_iinc (v := x3) (lv' := [(2, .int x3), (1, .int x2), (0, .int x0_4)]) hx hb d_Q_many_18 hl (k := 2) rfl (by rw [ex3]; rfl) (by decide) rfl (fun ls hl => ?_)
        have hf := of_nm ex3 hf
        refine lv_goto (tgt := 4) hx hb d_Q_many_21 (by decide) ?_
        exact ih4 _ _ _ _ (lv_sub hl [2, 1, 0] rfl) hf
  rw [f_Q_many] at hf
  refine lv_iconst (v := 0) hx hb d_Q_many_0 (by decide) ?_
  refine lv_istore_n (lv' := [(1, .int (0 : Int32)), (0, .int p0)]) hx hb d_Q_many_1 rfl hl (by decide) rfl (fun ls hl => ?_)
  refine lv_iconst (v := 0) hx hb d_Q_many_2 (by decide) ?_
  refine lv_istore_n (lv' := [(2, .int (0 : Int32)), (1, .int (0 : Int32)), (0, .int p0)]) hx hb d_Q_many_3 rfl hl (by decide) rfl (fun ls hl => ?_)
  exact hL4 FU _ _ _ _ (lv_sub hl [2, 1, 0] rfl) hf
