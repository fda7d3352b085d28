abbrev b_E_tries : ByteArray := prog_5_method_2_code
abbrev y_E_tries : MethodName := ⟨"ShapeSearch$Search", "tries", "()I"⟩
abbrev ws_E_tries : List Cond := .code y_E_tries b_E_tries 1 (some .int) :: BG
theorem hd_E_tries : y_E_tries.cls ≠ "java/lang/invoke/MethodHandle" ∧ y_E_tries.cls ≠ "java/lang/invoke/VarHandle" ∧ (parseMethodDescriptor y_E_tries.desc).map (fun d => d.parameters.length) = some 0 := by decide +kernel
theorem d_E_tries_0 : decode b_E_tries 0 = .ok (.aload_n 0, 1) := by decide +kernel
theorem d_E_tries_1 : decode b_E_tries 1 = .ok (.getfield 49, 3) := by decide +kernel
theorem d_E_tries_4 : decode b_E_tries 4 = .ok (.ireturn, 1) := by decide +kernel
abbrev b_E_taken : ByteArray := prog_5_method_3_code
abbrev y_E_taken : MethodName := ⟨"ShapeSearch$Search", "taken", "()I"⟩
abbrev ws_E_taken : List Cond := .code y_E_taken b_E_taken 1 (some .int) :: BG
theorem hd_E_taken : y_E_taken.cls ≠ "java/lang/invoke/MethodHandle" ∧ y_E_taken.cls ≠ "java/lang/invoke/VarHandle" ∧ (parseMethodDescriptor y_E_taken.desc).map (fun d => d.parameters.length) = some 0 := by decide +kernel
theorem d_E_taken_0 : decode b_E_taken 0 = .ok (.aload_n 0, 1) := by decide +kernel
theorem d_E_taken_1 : decode b_E_taken 1 = .ok (.getfield 52, 3) := by decide +kernel
theorem d_E_taken_4 : decode b_E_taken 4 = .ok (.ireturn, 1) := by decide +kernel
abbrev b_E_first : ByteArray := prog_5_method_4_code
abbrev y_E_first : MethodName := ⟨"ShapeSearch$Search", "first", "()I"⟩
abbrev ws_E_first : List Cond := .code y_E_first b_E_first 1 (some .int) :: BG
theorem hd_E_first : y_E_first.cls ≠ "java/lang/invoke/MethodHandle" ∧ y_E_first.cls ≠ "java/lang/invoke/VarHandle" ∧ (parseMethodDescriptor y_E_first.desc).map (fun d => d.parameters.length) = some 0 := by decide +kernel
theorem d_E_first_0 : decode b_E_first 0 = .ok (.aload_n 0, 1) := by decide +kernel
theorem d_E_first_1 : decode b_E_first 1 = .ok (.getfield 55, 3) := by decide +kernel
theorem d_E_first_4 : decode b_E_first 4 = .ok (.ireturn, 1) := by decide +kernel
abbrev b_E_enter : ByteArray := prog_5_method_6_code
abbrev y_E_enter : MethodName := ⟨"ShapeSearch$Search", "enter", "(II)Z"⟩
abbrev ws_E_enter : List Cond := .code y_E_enter b_E_enter 3 (some .boolean) :: BG
theorem hd_E_enter : y_E_enter.cls ≠ "java/lang/invoke/MethodHandle" ∧ y_E_enter.cls ≠ "java/lang/invoke/VarHandle" ∧ (parseMethodDescriptor y_E_enter.desc).map (fun d => d.parameters.length) = some 2 := by decide +kernel
theorem d_E_enter_0 : decode b_E_enter 0 = .ok (.aload_n 0, 1) := by decide +kernel
theorem d_E_enter_1 : decode b_E_enter 1 = .ok (.getfield 42, 3) := by decide +kernel
theorem d_E_enter_4 : decode b_E_enter 4 = .ok (.iconst 1, 1) := by decide +kernel
theorem d_E_enter_5 : decode b_E_enter 5 = .ok (.iadd, 1) := by decide +kernel
theorem d_E_enter_6 : decode b_E_enter 6 = .ok (.aload_n 0, 1) := by decide +kernel
theorem d_E_enter_7 : decode b_E_enter 7 = .ok (.getfield 46, 3) := by decide +kernel
theorem d_E_enter_10 : decode b_E_enter 10 = .ok (.if_icmp .ge 14, 3) := by decide +kernel
theorem d_E_enter_13 : decode b_E_enter 13 = .ok (.aload_n 0, 1) := by decide +kernel
theorem d_E_enter_14 : decode b_E_enter 14 = .ok (.getfield 42, 3) := by decide +kernel
theorem d_E_enter_17 : decode b_E_enter 17 = .ok (.iconst 1, 1) := by decide +kernel
theorem d_E_enter_18 : decode b_E_enter 18 = .ok (.iadd, 1) := by decide +kernel
theorem d_E_enter_19 : decode b_E_enter 19 = .ok (.bipush 100, 2) := by decide +kernel
theorem d_E_enter_21 : decode b_E_enter 21 = .ok (.if_icmp .lt 5, 3) := by decide +kernel
theorem d_E_enter_24 : decode b_E_enter 24 = .ok (.iconst 0, 1) := by decide +kernel
theorem d_E_enter_25 : decode b_E_enter 25 = .ok (.ireturn, 1) := by decide +kernel
theorem d_E_enter_26 : decode b_E_enter 26 = .ok (.aload_n 0, 1) := by decide +kernel
theorem d_E_enter_27 : decode b_E_enter 27 = .ok (.dup, 1) := by decide +kernel
theorem d_E_enter_28 : decode b_E_enter 28 = .ok (.getfield 42, 3) := by decide +kernel
theorem d_E_enter_31 : decode b_E_enter 31 = .ok (.iconst 1, 1) := by decide +kernel
theorem d_E_enter_32 : decode b_E_enter 32 = .ok (.iadd, 1) := by decide +kernel
theorem d_E_enter_33 : decode b_E_enter 33 = .ok (.putfield 42, 3) := by decide +kernel
theorem d_E_enter_36 : decode b_E_enter 36 = .ok (.aload_n 0, 1) := by decide +kernel
theorem d_E_enter_37 : decode b_E_enter 37 = .ok (.getfield 23, 3) := by decide +kernel
theorem d_E_enter_40 : decode b_E_enter 40 = .ok (.aload_n 0, 1) := by decide +kernel
theorem d_E_enter_41 : decode b_E_enter 41 = .ok (.getfield 42, 3) := by decide +kernel
theorem d_E_enter_44 : decode b_E_enter 44 = .ok (.iload_n 1, 1) := by decide +kernel
theorem d_E_enter_45 : decode b_E_enter 45 = .ok (.iastore, 1) := by decide +kernel
theorem d_E_enter_46 : decode b_E_enter 46 = .ok (.aload_n 0, 1) := by decide +kernel
theorem d_E_enter_47 : decode b_E_enter 47 = .ok (.getfield 27, 3) := by decide +kernel
theorem d_E_enter_50 : decode b_E_enter 50 = .ok (.aload_n 0, 1) := by decide +kernel
theorem d_E_enter_51 : decode b_E_enter 51 = .ok (.getfield 42, 3) := by decide +kernel
theorem d_E_enter_54 : decode b_E_enter 54 = .ok (.iload_n 2, 1) := by decide +kernel
theorem d_E_enter_55 : decode b_E_enter 55 = .ok (.iastore, 1) := by decide +kernel
theorem d_E_enter_56 : decode b_E_enter 56 = .ok (.aload_n 0, 1) := by decide +kernel
theorem d_E_enter_57 : decode b_E_enter 57 = .ok (.getfield 30, 3) := by decide +kernel
theorem d_E_enter_60 : decode b_E_enter 60 = .ok (.aload_n 0, 1) := by decide +kernel
theorem d_E_enter_61 : decode b_E_enter 61 = .ok (.getfield 42, 3) := by decide +kernel
theorem d_E_enter_64 : decode b_E_enter 64 = .ok (.iconst 0, 1) := by decide +kernel
theorem d_E_enter_65 : decode b_E_enter 65 = .ok (.iastore, 1) := by decide +kernel
theorem d_E_enter_66 : decode b_E_enter 66 = .ok (.aload_n 0, 1) := by decide +kernel
theorem d_E_enter_67 : decode b_E_enter 67 = .ok (.getfield 33, 3) := by decide +kernel
theorem d_E_enter_70 : decode b_E_enter 70 = .ok (.aload_n 0, 1) := by decide +kernel
theorem d_E_enter_71 : decode b_E_enter 71 = .ok (.getfield 42, 3) := by decide +kernel
theorem d_E_enter_74 : decode b_E_enter 74 = .ok (.iconst (-1), 1) := by decide +kernel
theorem d_E_enter_75 : decode b_E_enter 75 = .ok (.iastore, 1) := by decide +kernel
theorem d_E_enter_76 : decode b_E_enter 76 = .ok (.iconst 1, 1) := by decide +kernel
theorem d_E_enter_77 : decode b_E_enter 77 = .ok (.ireturn, 1) := by decide +kernel
abbrev b_E_giveUp : ByteArray := prog_5_method_10_code
abbrev y_E_giveUp : MethodName := ⟨"ShapeSearch$Search", "giveUp", "()V"⟩
abbrev ws_E_giveUp : List Cond := .code y_E_giveUp b_E_giveUp 1 (none : Option Jvm.ClassFile.FieldType) :: BG
theorem hd_E_giveUp : y_E_giveUp.cls ≠ "java/lang/invoke/MethodHandle" ∧ y_E_giveUp.cls ≠ "java/lang/invoke/VarHandle" ∧ (parseMethodDescriptor y_E_giveUp.desc).map (fun d => d.parameters.length) = some 0 := by decide +kernel
theorem d_E_giveUp_0 : decode b_E_giveUp 0 = .ok (.aload_n 0, 1) := by decide +kernel
theorem d_E_giveUp_1 : decode b_E_giveUp 1 = .ok (.getfield 9, 3) := by decide +kernel
theorem d_E_giveUp_4 : decode b_E_giveUp 4 = .ok (.aload_n 0, 1) := by decide +kernel
theorem d_E_giveUp_5 : decode b_E_giveUp 5 = .ok (.getfield 27, 3) := by decide +kernel
theorem d_E_giveUp_8 : decode b_E_giveUp 8 = .ok (.aload_n 0, 1) := by decide +kernel
theorem d_E_giveUp_9 : decode b_E_giveUp 9 = .ok (.getfield 42, 3) := by decide +kernel
theorem d_E_giveUp_12 : decode b_E_giveUp 12 = .ok (.iaload, 1) := by decide +kernel
theorem d_E_giveUp_13 : decode b_E_giveUp 13 = .ok (.invokevirtual 95, 3) := by decide +kernel
theorem d_E_giveUp_16 : decode b_E_giveUp 16 = .ok (.aload_n 0, 1) := by decide +kernel
theorem d_E_giveUp_17 : decode b_E_giveUp 17 = .ok (.dup, 1) := by decide +kernel
theorem d_E_giveUp_18 : decode b_E_giveUp 18 = .ok (.getfield 42, 3) := by decide +kernel
theorem d_E_giveUp_21 : decode b_E_giveUp 21 = .ok (.iconst 1, 1) := by decide +kernel
theorem d_E_giveUp_22 : decode b_E_giveUp 22 = .ok (.isub, 1) := by decide +kernel
theorem d_E_giveUp_23 : decode b_E_giveUp 23 = .ok (.putfield 42, 3) := by decide +kernel
theorem d_E_giveUp_26 : decode b_E_giveUp 26 = .ok (.aload_n 0, 1) := by decide +kernel
theorem d_E_giveUp_27 : decode b_E_giveUp 27 = .ok (.getfield 42, 3) := by decide +kernel
theorem d_E_giveUp_30 : decode b_E_giveUp 30 = .ok (.ifCond .lt 13, 3) := by decide +kernel
theorem d_E_giveUp_33 : decode b_E_giveUp 33 = .ok (.aload_n 0, 1) := by decide +kernel
theorem d_E_giveUp_34 : decode b_E_giveUp 34 = .ok (.getfield 33, 3) := by decide +kernel
theorem d_E_giveUp_37 : decode b_E_giveUp 37 = .ok (.aload_n 0, 1) := by decide +kernel
theorem d_E_giveUp_38 : decode b_E_giveUp 38 = .ok (.getfield 42, 3) := by decide +kernel
theorem d_E_giveUp_41 : decode b_E_giveUp 41 = .ok (.iconst (-1), 1) := by decide +kernel
theorem d_E_giveUp_42 : decode b_E_giveUp 42 = .ok (.iastore, 1) := by decide +kernel
theorem d_E_giveUp_43 : decode b_E_giveUp 43 = .ok (.return_, 1) := by decide +kernel
abbrev b_E_looks : ByteArray := prog_5_method_7_code
abbrev y_E_looks : MethodName := ⟨"ShapeSearch$Search", "looks", "()Z"⟩
abbrev ws_E_looks : List Cond := .code y_E_looks b_E_looks 2 (some .boolean) :: BG
theorem hd_E_looks : y_E_looks.cls ≠ "java/lang/invoke/MethodHandle" ∧ y_E_looks.cls ≠ "java/lang/invoke/VarHandle" ∧ (parseMethodDescriptor y_E_looks.desc).map (fun d => d.parameters.length) = some 0 := by decide +kernel
theorem d_E_looks_0 : decode b_E_looks 0 = .ok (.aload_n 0, 1) := by decide +kernel
theorem d_E_looks_1 : decode b_E_looks 1 = .ok (.getfield 15, 3) := by decide +kernel
theorem d_E_looks_4 : decode b_E_looks 4 = .ok (.aload_n 0, 1) := by decide +kernel
theorem d_E_looks_5 : decode b_E_looks 5 = .ok (.getfield 30, 3) := by decide +kernel
theorem d_E_looks_8 : decode b_E_looks 8 = .ok (.aload_n 0, 1) := by decide +kernel
theorem d_E_looks_9 : decode b_E_looks 9 = .ok (.getfield 42, 3) := by decide +kernel
theorem d_E_looks_12 : decode b_E_looks 12 = .ok (.iaload, 1) := by decide +kernel
theorem d_E_looks_13 : decode b_E_looks 13 = .ok (.invokevirtual 98, 3) := by decide +kernel
theorem d_E_looks_16 : decode b_E_looks 16 = .ok (.istore_n 1, 1) := by decide +kernel
theorem d_E_looks_17 : decode b_E_looks 17 = .ok (.iload_n 1, 1) := by decide +kernel
theorem d_E_looks_18 : decode b_E_looks 18 = .ok (.iconst (-1), 1) := by decide +kernel
theorem d_E_looks_19 : decode b_E_looks 19 = .ok (.if_icmp .ne 9, 3) := by decide +kernel
theorem d_E_looks_22 : decode b_E_looks 22 = .ok (.aload_n 0, 1) := by decide +kernel
theorem d_E_looks_23 : decode b_E_looks 23 = .ok (.invokevirtual 101, 3) := by decide +kernel
theorem d_E_looks_26 : decode b_E_looks 26 = .ok (.iconst 1, 1) := by decide +kernel
theorem d_E_looks_27 : decode b_E_looks 27 = .ok (.ireturn, 1) := by decide +kernel
theorem d_E_looks_28 : decode b_E_looks 28 = .ok (.aload_n 0, 1) := by decide +kernel
theorem d_E_looks_29 : decode b_E_looks 29 = .ok (.getfield 49, 3) := by decide +kernel
theorem d_E_looks_32 : decode b_E_looks 32 = .ok (.sipush 1000, 3) := by decide +kernel
theorem d_E_looks_35 : decode b_E_looks 35 = .ok (.if_icmp .lt 5, 3) := by decide +kernel
theorem d_E_looks_38 : decode b_E_looks 38 = .ok (.iconst 0, 1) := by decide +kernel
theorem d_E_looks_39 : decode b_E_looks 39 = .ok (.ireturn, 1) := by decide +kernel
theorem d_E_looks_40 : decode b_E_looks 40 = .ok (.aload_n 0, 1) := by decide +kernel
theorem d_E_looks_41 : decode b_E_looks 41 = .ok (.dup, 1) := by decide +kernel
theorem d_E_looks_42 : decode b_E_looks 42 = .ok (.getfield 49, 3) := by decide +kernel
theorem d_E_looks_45 : decode b_E_looks 45 = .ok (.iconst 1, 1) := by decide +kernel
theorem d_E_looks_46 : decode b_E_looks 46 = .ok (.iadd, 1) := by decide +kernel
theorem d_E_looks_47 : decode b_E_looks 47 = .ok (.putfield 49, 3) := by decide +kernel
theorem d_E_looks_50 : decode b_E_looks 50 = .ok (.aload_n 0, 1) := by decide +kernel
theorem d_E_looks_51 : decode b_E_looks 51 = .ok (.getfield 30, 3) := by decide +kernel
theorem d_E_looks_54 : decode b_E_looks 54 = .ok (.aload_n 0, 1) := by decide +kernel
theorem d_E_looks_55 : decode b_E_looks 55 = .ok (.getfield 42, 3) := by decide +kernel
theorem d_E_looks_58 : decode b_E_looks 58 = .ok (.dup2, 1) := by decide +kernel
theorem d_E_looks_59 : decode b_E_looks 59 = .ok (.iaload, 1) := by decide +kernel
theorem d_E_looks_60 : decode b_E_looks 60 = .ok (.iconst 1, 1) := by decide +kernel
theorem d_E_looks_61 : decode b_E_looks 61 = .ok (.iadd, 1) := by decide +kernel
theorem d_E_looks_62 : decode b_E_looks 62 = .ok (.iastore, 1) := by decide +kernel
theorem d_E_looks_63 : decode b_E_looks 63 = .ok (.aload_n 0, 1) := by decide +kernel
theorem d_E_looks_64 : decode b_E_looks 64 = .ok (.getfield 15, 3) := by decide +kernel
theorem d_E_looks_67 : decode b_E_looks 67 = .ok (.iload_n 1, 1) := by decide +kernel
theorem d_E_looks_68 : decode b_E_looks 68 = .ok (.aload_n 0, 1) := by decide +kernel
theorem d_E_looks_69 : decode b_E_looks 69 = .ok (.getfield 9, 3) := by decide +kernel
theorem d_E_looks_72 : decode b_E_looks 72 = .ok (.invokevirtual 104, 3) := by decide +kernel
theorem d_E_looks_75 : decode b_E_looks 75 = .ok (.ifCond .ne 63, 3) := by decide +kernel
theorem d_E_looks_78 : decode b_E_looks 78 = .ok (.aload_n 0, 1) := by decide +kernel
theorem d_E_looks_79 : decode b_E_looks 79 = .ok (.getfield 19, 3) := by decide +kernel
theorem d_E_looks_82 : decode b_E_looks 82 = .ok (.aload_n 0, 1) := by decide +kernel
theorem d_E_looks_83 : decode b_E_looks 83 = .ok (.getfield 15, 3) := by decide +kernel
theorem d_E_looks_86 : decode b_E_looks 86 = .ok (.iload_n 1, 1) := by decide +kernel
theorem d_E_looks_87 : decode b_E_looks 87 = .ok (.invokevirtual 108, 3) := by decide +kernel
theorem d_E_looks_90 : decode b_E_looks 90 = .ok (.aload_n 0, 1) := by decide +kernel
theorem d_E_looks_91 : decode b_E_looks 91 = .ok (.getfield 23, 3) := by decide +kernel
theorem d_E_looks_94 : decode b_E_looks 94 = .ok (.aload_n 0, 1) := by decide +kernel
theorem d_E_looks_95 : decode b_E_looks 95 = .ok (.getfield 42, 3) := by decide +kernel
theorem d_E_looks_98 : decode b_E_looks 98 = .ok (.iaload, 1) := by decide +kernel
theorem d_E_looks_99 : decode b_E_looks 99 = .ok (.ldc2_w 111, 3) := by decide +kernel
theorem d_E_looks_102 : decode b_E_looks 102 = .ok (.invokevirtual 113, 3) := by decide +kernel
theorem d_E_looks_105 : decode b_E_looks 105 = .ok (.ifCond .eq 33, 3) := by decide +kernel
theorem d_E_looks_108 : decode b_E_looks 108 = .ok (.aload_n 0, 1) := by decide +kernel
theorem d_E_looks_109 : decode b_E_looks 109 = .ok (.getfield 33, 3) := by decide +kernel
theorem d_E_looks_112 : decode b_E_looks 112 = .ok (.aload_n 0, 1) := by decide +kernel
theorem d_E_looks_113 : decode b_E_looks 113 = .ok (.getfield 42, 3) := by decide +kernel
theorem d_E_looks_116 : decode b_E_looks 116 = .ok (.iload_n 1, 1) := by decide +kernel
theorem d_E_looks_117 : decode b_E_looks 117 = .ok (.iastore, 1) := by decide +kernel
theorem d_E_looks_118 : decode b_E_looks 118 = .ok (.aload_n 0, 1) := by decide +kernel
theorem d_E_looks_119 : decode b_E_looks 119 = .ok (.getfield 36, 3) := by decide +kernel
theorem d_E_looks_122 : decode b_E_looks 122 = .ok (.aload_n 0, 1) := by decide +kernel
theorem d_E_looks_123 : decode b_E_looks 123 = .ok (.getfield 42, 3) := by decide +kernel
theorem d_E_looks_126 : decode b_E_looks 126 = .ok (.iconst 0, 1) := by decide +kernel
theorem d_E_looks_127 : decode b_E_looks 127 = .ok (.iastore, 1) := by decide +kernel
theorem d_E_looks_128 : decode b_E_looks 128 = .ok (.aload_n 0, 1) := by decide +kernel
theorem d_E_looks_129 : decode b_E_looks 129 = .ok (.getfield 39, 3) := by decide +kernel
theorem d_E_looks_132 : decode b_E_looks 132 = .ok (.aload_n 0, 1) := by decide +kernel
theorem d_E_looks_133 : decode b_E_looks 133 = .ok (.getfield 42, 3) := by decide +kernel
theorem d_E_looks_136 : decode b_E_looks 136 = .ok (.iconst 1, 1) := by decide +kernel
theorem d_E_looks_137 : decode b_E_looks 137 = .ok (.iastore, 1) := by decide +kernel
theorem d_E_looks_138 : decode b_E_looks 138 = .ok (.iconst 1, 1) := by decide +kernel
theorem d_E_looks_139 : decode b_E_looks 139 = .ok (.ireturn, 1) := by decide +kernel
abbrev b_E_succeed : ByteArray := prog_5_method_9_code
abbrev y_E_succeed : MethodName := ⟨"ShapeSearch$Search", "succeed", "(I)V"⟩
abbrev ws_E_succeed : List Cond := .code y_E_succeed b_E_succeed 3 (none : Option Jvm.ClassFile.FieldType) :: BG
theorem hd_E_succeed : y_E_succeed.cls ≠ "java/lang/invoke/MethodHandle" ∧ y_E_succeed.cls ≠ "java/lang/invoke/VarHandle" ∧ (parseMethodDescriptor y_E_succeed.desc).map (fun d => d.parameters.length) = some 1 := by decide +kernel
theorem d_E_succeed_0 : decode b_E_succeed 0 = .ok (.aload_n 0, 1) := by decide +kernel
theorem d_E_succeed_1 : decode b_E_succeed 1 = .ok (.getfield 39, 3) := by decide +kernel
theorem d_E_succeed_4 : decode b_E_succeed 4 = .ok (.aload_n 0, 1) := by decide +kernel
theorem d_E_succeed_5 : decode b_E_succeed 5 = .ok (.getfield 42, 3) := by decide +kernel
theorem d_E_succeed_8 : decode b_E_succeed 8 = .ok (.iaload, 1) := by decide +kernel
theorem d_E_succeed_9 : decode b_E_succeed 9 = .ok (.istore_n 2, 1) := by decide +kernel
theorem d_E_succeed_10 : decode b_E_succeed 10 = .ok (.aload_n 0, 1) := by decide +kernel
theorem d_E_succeed_11 : decode b_E_succeed 11 = .ok (.getfield 9, 3) := by decide +kernel
theorem d_E_succeed_14 : decode b_E_succeed 14 = .ok (.aload_n 0, 1) := by decide +kernel
theorem d_E_succeed_15 : decode b_E_succeed 15 = .ok (.getfield 27, 3) := by decide +kernel
theorem d_E_succeed_18 : decode b_E_succeed 18 = .ok (.aload_n 0, 1) := by decide +kernel
theorem d_E_succeed_19 : decode b_E_succeed 19 = .ok (.getfield 42, 3) := by decide +kernel
theorem d_E_succeed_22 : decode b_E_succeed 22 = .ok (.iaload, 1) := by decide +kernel
theorem d_E_succeed_23 : decode b_E_succeed 23 = .ok (.invokevirtual 95, 3) := by decide +kernel
theorem d_E_succeed_26 : decode b_E_succeed 26 = .ok (.aload_n 0, 1) := by decide +kernel
theorem d_E_succeed_27 : decode b_E_succeed 27 = .ok (.dup, 1) := by decide +kernel
theorem d_E_succeed_28 : decode b_E_succeed 28 = .ok (.getfield 42, 3) := by decide +kernel
theorem d_E_succeed_31 : decode b_E_succeed 31 = .ok (.iconst 1, 1) := by decide +kernel
theorem d_E_succeed_32 : decode b_E_succeed 32 = .ok (.isub, 1) := by decide +kernel
theorem d_E_succeed_33 : decode b_E_succeed 33 = .ok (.putfield 42, 3) := by decide +kernel
theorem d_E_succeed_36 : decode b_E_succeed 36 = .ok (.aload_n 0, 1) := by decide +kernel
theorem d_E_succeed_37 : decode b_E_succeed 37 = .ok (.getfield 42, 3) := by decide +kernel
theorem d_E_succeed_40 : decode b_E_succeed 40 = .ok (.ifCond .lt 32, 3) := by decide +kernel
theorem d_E_succeed_43 : decode b_E_succeed 43 = .ok (.aload_n 0, 1) := by decide +kernel
theorem d_E_succeed_44 : decode b_E_succeed 44 = .ok (.getfield 36, 3) := by decide +kernel
theorem d_E_succeed_47 : decode b_E_succeed 47 = .ok (.aload_n 0, 1) := by decide +kernel
theorem d_E_succeed_48 : decode b_E_succeed 48 = .ok (.getfield 42, 3) := by decide +kernel
theorem d_E_succeed_51 : decode b_E_succeed 51 = .ok (.dup2, 1) := by decide +kernel
theorem d_E_succeed_52 : decode b_E_succeed 52 = .ok (.iaload, 1) := by decide +kernel
theorem d_E_succeed_53 : decode b_E_succeed 53 = .ok (.iconst 1, 1) := by decide +kernel
theorem d_E_succeed_54 : decode b_E_succeed 54 = .ok (.iadd, 1) := by decide +kernel
theorem d_E_succeed_55 : decode b_E_succeed 55 = .ok (.iastore, 1) := by decide +kernel
theorem d_E_succeed_56 : decode b_E_succeed 56 = .ok (.aload_n 0, 1) := by decide +kernel
theorem d_E_succeed_57 : decode b_E_succeed 57 = .ok (.getfield 39, 3) := by decide +kernel
theorem d_E_succeed_60 : decode b_E_succeed 60 = .ok (.aload_n 0, 1) := by decide +kernel
theorem d_E_succeed_61 : decode b_E_succeed 61 = .ok (.getfield 42, 3) := by decide +kernel
theorem d_E_succeed_64 : decode b_E_succeed 64 = .ok (.dup2, 1) := by decide +kernel
theorem d_E_succeed_65 : decode b_E_succeed 65 = .ok (.iaload, 1) := by decide +kernel
theorem d_E_succeed_66 : decode b_E_succeed 66 = .ok (.iload_n 2, 1) := by decide +kernel
theorem d_E_succeed_67 : decode b_E_succeed 67 = .ok (.iadd, 1) := by decide +kernel
theorem d_E_succeed_68 : decode b_E_succeed 68 = .ok (.iastore, 1) := by decide +kernel
theorem d_E_succeed_69 : decode b_E_succeed 69 = .ok (.goto 13, 3) := by decide +kernel
theorem d_E_succeed_72 : decode b_E_succeed 72 = .ok (.aload_n 0, 1) := by decide +kernel
theorem d_E_succeed_73 : decode b_E_succeed 73 = .ok (.iload_n 2, 1) := by decide +kernel
theorem d_E_succeed_74 : decode b_E_succeed 74 = .ok (.putfield 52, 3) := by decide +kernel
theorem d_E_succeed_77 : decode b_E_succeed 77 = .ok (.aload_n 0, 1) := by decide +kernel
theorem d_E_succeed_78 : decode b_E_succeed 78 = .ok (.iload_n 1, 1) := by decide +kernel
theorem d_E_succeed_79 : decode b_E_succeed 79 = .ok (.putfield 55, 3) := by decide +kernel
theorem d_E_succeed_82 : decode b_E_succeed 82 = .ok (.return_, 1) := by decide +kernel
theorem k1_146 : Cond.fieldLink "ShapeSearch$Search" 49 "ShapeSearch$Search" "tries" "I" ∈ BG := List.mem_filter.mpr ⟨in_1 (List.mem_of_getElem? (i := 146) rfl), rfl⟩
theorem k1_147 : Cond.fieldLink "ShapeSearch$Search" 52 "ShapeSearch$Search" "taken" "I" ∈ BG := List.mem_filter.mpr ⟨in_1 (List.mem_of_getElem? (i := 147) rfl), rfl⟩
theorem k1_148 : Cond.fieldLink "ShapeSearch$Search" 55 "ShapeSearch$Search" "first" "I" ∈ BG := List.mem_filter.mpr ⟨in_1 (List.mem_of_getElem? (i := 148) rfl), rfl⟩
theorem k1_144 : Cond.fieldLink "ShapeSearch$Search" 42 "ShapeSearch$Search" "level" "I" ∈ BG := List.mem_filter.mpr ⟨in_1 (List.mem_of_getElem? (i := 144) rfl), rfl⟩
theorem k1_145 : Cond.fieldLink "ShapeSearch$Search" 46 "ShapeSearch$Search" "steps" "I" ∈ BG := List.mem_filter.mpr ⟨in_1 (List.mem_of_getElem? (i := 145) rfl), rfl⟩
theorem k1_138 : Cond.fieldLink "ShapeSearch$Search" 23 "ShapeSearch$Search" "goals" "[I" ∈ BG := List.mem_filter.mpr ⟨in_1 (List.mem_of_getElem? (i := 138) rfl), rfl⟩
theorem k1_139 : Cond.fieldLink "ShapeSearch$Search" 27 "ShapeSearch$Search" "marks" "[I" ∈ BG := List.mem_filter.mpr ⟨in_1 (List.mem_of_getElem? (i := 139) rfl), rfl⟩
theorem k1_140 : Cond.fieldLink "ShapeSearch$Search" 30 "ShapeSearch$Search" "looked" "[I" ∈ BG := List.mem_filter.mpr ⟨in_1 (List.mem_of_getElem? (i := 140) rfl), rfl⟩
theorem k1_141 : Cond.fieldLink "ShapeSearch$Search" 33 "ShapeSearch$Search" "underway" "[I" ∈ BG := List.mem_filter.mpr ⟨in_1 (List.mem_of_getElem? (i := 141) rfl), rfl⟩
theorem k1_135 : Cond.fieldLink "ShapeSearch$Search" 9 "ShapeSearch$Search" "terms" "LShapeSearch$Terms;" ∈ BG := List.mem_filter.mpr ⟨in_1 (List.mem_of_getElem? (i := 135) rfl), rfl⟩
theorem k3_235 : Cond.methodLink "ShapeSearch$Search" 95 ⟨"ShapeSearch$Terms", "keepBelow", "(I)V"⟩ ∈ BG := List.mem_filter.mpr ⟨in_3 (List.mem_of_getElem? (i := 235) rfl), rfl⟩
theorem k3_238 : Cond.code ⟨"ShapeSearch$Terms", "keepBelow", "(I)V"⟩ prog_7_method_11_code 4 (none : Option Jvm.ClassFile.FieldType) ∈ BG := List.mem_filter.mpr ⟨in_3 (List.mem_of_getElem? (i := 238) rfl), rfl⟩
theorem k3_236 : Cond.instanceMethod ⟨"ShapeSearch$Terms", "keepBelow", "(I)V"⟩ ∈ BG := List.mem_filter.mpr ⟨in_3 (List.mem_of_getElem? (i := 236) rfl), rfl⟩
theorem k3_237 : Cond.selects "ShapeSearch$Terms" ⟨"ShapeSearch$Terms", "keepBelow", "(I)V"⟩ ⟨"ShapeSearch$Terms", "keepBelow", "(I)V"⟩ ∈ BG := List.mem_filter.mpr ⟨in_3 (List.mem_of_getElem? (i := 237) rfl), rfl⟩
theorem k1_136 : Cond.fieldLink "ShapeSearch$Search" 15 "ShapeSearch$Search" "statements" "LShapeSearch$Statements;" ∈ BG := List.mem_filter.mpr ⟨in_1 (List.mem_of_getElem? (i := 136) rfl), rfl⟩
theorem k3_230 : Cond.methodLink "ShapeSearch$Search" 98 ⟨"ShapeSearch$Statements", "ordered", "(I)I"⟩ ∈ BG := List.mem_filter.mpr ⟨in_3 (List.mem_of_getElem? (i := 230) rfl), rfl⟩
theorem k3_127 : Cond.code ⟨"ShapeSearch$Statements", "ordered", "(I)I"⟩ prog_6_method_12_code 2 (some .int) ∈ BG := List.mem_filter.mpr ⟨in_3 (List.mem_of_getElem? (i := 127) rfl), rfl⟩
theorem k3_125 : Cond.instanceMethod ⟨"ShapeSearch$Statements", "ordered", "(I)I"⟩ ∈ BG := List.mem_filter.mpr ⟨in_3 (List.mem_of_getElem? (i := 125) rfl), rfl⟩
theorem k3_126 : Cond.selects "ShapeSearch$Statements" ⟨"ShapeSearch$Statements", "ordered", "(I)I"⟩ ⟨"ShapeSearch$Statements", "ordered", "(I)I"⟩ ∈ BG := List.mem_filter.mpr ⟨in_3 (List.mem_of_getElem? (i := 126) rfl), rfl⟩
theorem k4_3 : Cond.methodLink "ShapeSearch$Search" 104 ⟨"ShapeSearch$Statements", "openVariables", "(ILShapeSearch$Terms;)I"⟩ ∈ BG := List.mem_filter.mpr ⟨in_4 (List.mem_of_getElem? (i := 3) rfl), rfl⟩
theorem k3_131 : Cond.code ⟨"ShapeSearch$Statements", "openVariables", "(ILShapeSearch$Terms;)I"⟩ prog_6_method_10_code 3 (some .int) ∈ BG := List.mem_filter.mpr ⟨in_3 (List.mem_of_getElem? (i := 131) rfl), rfl⟩
theorem k3_129 : Cond.instanceMethod ⟨"ShapeSearch$Statements", "openVariables", "(ILShapeSearch$Terms;)I"⟩ ∈ BG := List.mem_filter.mpr ⟨in_3 (List.mem_of_getElem? (i := 129) rfl), rfl⟩
theorem k3_130 : Cond.selects "ShapeSearch$Statements" ⟨"ShapeSearch$Statements", "openVariables", "(ILShapeSearch$Terms;)I"⟩ ⟨"ShapeSearch$Statements", "openVariables", "(ILShapeSearch$Terms;)I"⟩ ∈ BG := List.mem_filter.mpr ⟨in_3 (List.mem_of_getElem? (i := 130) rfl), rfl⟩
theorem k1_137 : Cond.fieldLink "ShapeSearch$Search" 19 "ShapeSearch$Search" "matcher" "LShapeSearch$Matcher;" ∈ BG := List.mem_filter.mpr ⟨in_1 (List.mem_of_getElem? (i := 137) rfl), rfl⟩
theorem k4_4 : Cond.methodLink "ShapeSearch$Search" 108 ⟨"ShapeSearch$Statements", "conclusion", "(I)I"⟩ ∈ BG := List.mem_filter.mpr ⟨in_4 (List.mem_of_getElem? (i := 4) rfl), rfl⟩
theorem k4_5 : Cond.constantLong "ShapeSearch$Search" 111 273804165120 ∈ BG := List.mem_filter.mpr ⟨in_4 (List.mem_of_getElem? (i := 5) rfl), rfl⟩
theorem k4_6 : Cond.methodLink "ShapeSearch$Search" 113 ⟨"ShapeSearch$Matcher", "matches", "(IIJ)Z"⟩ ∈ BG := List.mem_filter.mpr ⟨in_4 (List.mem_of_getElem? (i := 6) rfl), rfl⟩
theorem k1_142 : Cond.fieldLink "ShapeSearch$Search" 36 "ShapeSearch$Search" "met" "[I" ∈ BG := List.mem_filter.mpr ⟨in_1 (List.mem_of_getElem? (i := 142) rfl), rfl⟩
theorem k1_143 : Cond.fieldLink "ShapeSearch$Search" 39 "ShapeSearch$Search" "takenHere" "[I" ∈ BG := List.mem_filter.mpr ⟨in_1 (List.mem_of_getElem? (i := 143) rfl), rfl⟩
theorem k3_231 : Cond.methodLink "ShapeSearch$Search" 101 ⟨"ShapeSearch$Search", "giveUp", "()V"⟩ ∈ BG := List.mem_filter.mpr ⟨in_3 (List.mem_of_getElem? (i := 231) rfl), rfl⟩
theorem k3_234 : Cond.code ⟨"ShapeSearch$Search", "giveUp", "()V"⟩ prog_5_method_10_code 1 (none : Option Jvm.ClassFile.FieldType) ∈ BG := List.mem_filter.mpr ⟨in_3 (List.mem_of_getElem? (i := 234) rfl), rfl⟩
theorem k1_7 : Cond.initialized "ShapeSearch$Search" ∈ BG := List.mem_filter.mpr ⟨in_1 (List.mem_of_getElem? (i := 7) rfl), rfl⟩
theorem k3_233 : Cond.instanceMethod ⟨"ShapeSearch$Search", "giveUp", "()V"⟩ ∈ BG := List.mem_filter.mpr ⟨in_3 (List.mem_of_getElem? (i := 233) rfl), rfl⟩
abbrev wv_34 (cI cJ cZ : ClassId) (aT aS aM aE aE_goals aE_marks aE_looked aE_underway aE_met aE_takenHere : Nat) (E_level : Int32) (E_steps : Int32) (E_tries : Int32) (E_taken : Int32) (E_first : Int32) : va_W := [(aE, .inr (5, [.ref aT, .ref aS, .ref aM, .ref aE_goals, .ref aE_marks, .ref aE_looked, .ref aE_underway, .ref aE_met, .ref aE_takenHere, .int E_level, .int E_steps, .int E_tries, .int E_taken, .int E_first]))]
abbrev wv_35 (cI cJ cZ : ClassId) (aT aS aM aE aE_goals aE_marks aE_looked aE_underway aE_met aE_takenHere : Nat) (E_level : Int32) (E_steps : Int32) (E_tries : Int32) (E_taken : Int32) (E_first : Int32) (E_goals : (Nat → Int32)) (E_marks : (Nat → Int32)) (E_looked : (Nat → Int32)) (E_underway : (Nat → Int32)) : va_W := [(aE, .inr (5, [.ref aT, .ref aS, .ref aM, .ref aE_goals, .ref aE_marks, .ref aE_looked, .ref aE_underway, .ref aE_met, .ref aE_takenHere, .int E_level, .int E_steps, .int E_tries, .int E_taken, .int E_first])), (aE_goals, .inl (cI, 100, .inl E_goals)), (aE_marks, .inl (cI, 100, .inl E_marks)), (aE_looked, .inl (cI, 100, .inl E_looked)), (aE_underway, .inl (cI, 100, .inl E_underway))]
abbrev wv_36 (cI cJ cZ : ClassId) (aT aT_heads aT_places aT_olders aT_sizes aT_withins aT_newest aS aM aE aE_goals aE_marks aE_looked aE_underway aE_met aE_takenHere : Nat) (T_count : Int32) (nT_heads : Nat) (T_heads : (Nat → Int32)) (nT_places : Nat) (T_places : (Nat → Int32)) (nT_olders : Nat) (T_olders : (Nat → Int32)) (T_newest : (Nat → Int32)) (E_level : Int32) (E_steps : Int32) (E_tries : Int32) (E_taken : Int32) (E_first : Int32) (E_marks : (Nat → Int32)) (E_underway : (Nat → Int32)) : va_W := [(aT, .inr (1, [.ref aT_heads, .ref aT_places, .ref aT_olders, .ref aT_sizes, .ref aT_withins, .ref aT_newest, .int T_count])), (aT_heads, .inl (cI, nT_heads, .inl T_heads)), (aT_places, .inl (cI, nT_places, .inl T_places)), (aT_olders, .inl (cI, nT_olders, .inl T_olders)), (aT_newest, .inl (cI, 256, .inl T_newest)), (aE, .inr (5, [.ref aT, .ref aS, .ref aM, .ref aE_goals, .ref aE_marks, .ref aE_looked, .ref aE_underway, .ref aE_met, .ref aE_takenHere, .int E_level, .int E_steps, .int E_tries, .int E_taken, .int E_first])), (aE_marks, .inl (cI, 100, .inl E_marks)), (aE_underway, .inl (cI, 100, .inl E_underway))]
abbrev wv_37 (cI cJ cZ : ClassId) (aT aT_heads aT_places aT_olders aT_sizes aT_withins aT_newest aS aS_premises aS_premiseCounts aS_conclusions aS_order aM aM_images aM_path aE aE_goals aE_marks aE_looked aE_underway aE_met aE_takenHere : Nat) (T_count : Int32) (nT_heads : Nat) (T_heads : (Nat → Int32)) (nT_places : Nat) (T_places : (Nat → Int32)) (nT_olders : Nat) (T_olders : (Nat → Int32)) (nT_withins : Nat) (T_withins : (Nat → Int64)) (T_newest : (Nat → Int32)) (S_count : Int32) (S_premises : (Nat → Int32)) (S_premiseCounts : (Nat → Int32)) (S_conclusions : (Nat → Int32)) (S_order : (Nat → Int32)) (M_images : (Nat → Int32)) (E_level : Int32) (E_steps : Int32) (E_tries : Int32) (E_taken : Int32) (E_first : Int32) (E_goals : (Nat → Int32)) (E_marks : (Nat → Int32)) (E_looked : (Nat → Int32)) (E_underway : (Nat → Int32)) (E_met : (Nat → Int32)) (E_takenHere : (Nat → Int32)) : va_W := [(aT, .inr (1, [.ref aT_heads, .ref aT_places, .ref aT_olders, .ref aT_sizes, .ref aT_withins, .ref aT_newest, .int T_count])), (aT_heads, .inl (cI, nT_heads, .inl T_heads)), (aT_places, .inl (cI, nT_places, .inl T_places)), (aT_olders, .inl (cI, nT_olders, .inl T_olders)), (aT_withins, .inl (cJ, nT_withins, .inr (.inl T_withins))), (aT_newest, .inl (cI, 256, .inl T_newest)), (aS, .inr (2, [.ref aS_premises, .ref aS_premiseCounts, .ref aS_conclusions, .ref aS_order, .int S_count])), (aS_premises, .inl (cI, 120, .inl S_premises)), (aS_premiseCounts, .inl (cI, 30, .inl S_premiseCounts)), (aS_conclusions, .inl (cI, 30, .inl S_conclusions)), (aS_order, .inl (cI, 30, .inl S_order)), (aM, .inr (3, [.ref aT, .ref aM_images, .ref aM_path])), (aM_images, .inl (cI, 100, .inl M_images)), (aE, .inr (5, [.ref aT, .ref aS, .ref aM, .ref aE_goals, .ref aE_marks, .ref aE_looked, .ref aE_underway, .ref aE_met, .ref aE_takenHere, .int E_level, .int E_steps, .int E_tries, .int E_taken, .int E_first])), (aE_goals, .inl (cI, 100, .inl E_goals)), (aE_marks, .inl (cI, 100, .inl E_marks)), (aE_looked, .inl (cI, 100, .inl E_looked)), (aE_underway, .inl (cI, 100, .inl E_underway)), (aE_met, .inl (cI, 100, .inl E_met)), (aE_takenHere, .inl (cI, 100, .inl E_takenHere))]
abbrev wv_38 (cI cJ cZ : ClassId) (aT aT_heads aT_places aT_olders aT_sizes aT_withins aT_newest aS aM aE aE_goals aE_marks aE_looked aE_underway aE_met aE_takenHere : Nat) (T_count : Int32) (nT_heads : Nat) (T_heads : (Nat → Int32)) (nT_places : Nat) (T_places : (Nat → Int32)) (nT_olders : Nat) (T_olders : (Nat → Int32)) (T_newest : (Nat → Int32)) (E_level : Int32) (E_steps : Int32) (E_tries : Int32) (E_taken : Int32) (E_first : Int32) (E_marks : (Nat → Int32)) (E_met : (Nat → Int32)) (E_takenHere : (Nat → Int32)) : va_W := [(aT, .inr (1, [.ref aT_heads, .ref aT_places, .ref aT_olders, .ref aT_sizes, .ref aT_withins, .ref aT_newest, .int T_count])), (aT_heads, .inl (cI, nT_heads, .inl T_heads)), (aT_places, .inl (cI, nT_places, .inl T_places)), (aT_olders, .inl (cI, nT_olders, .inl T_olders)), (aT_newest, .inl (cI, 256, .inl T_newest)), (aE, .inr (5, [.ref aT, .ref aS, .ref aM, .ref aE_goals, .ref aE_marks, .ref aE_looked, .ref aE_underway, .ref aE_met, .ref aE_takenHere, .int E_level, .int E_steps, .int E_tries, .int E_taken, .int E_first])), (aE_marks, .inl (cI, 100, .inl E_marks)), (aE_met, .inl (cI, 100, .inl E_met)), (aE_takenHere, .inl (cI, 100, .inl E_takenHere))]
def f_E_tries (E_tries : Int32) : Option (Int32) :=
  some E_tries
abbrev rm_E_tries : Room := { frames := 0, cells := 0, slots := 0, locals := 0 }
set_option maxHeartbeats 4000000 in
set_option maxRecDepth 100000 in
theorem c_E_tries (l : Launch) (D : va_G) (cI cJ cZ : ClassId) (aT aS aM aE aE_goals aE_marks aE_looked aE_underway aE_met aE_takenHere : Nat) (E_level : Int32) (E_steps : Int32) (E_tries : Int32) (E_taken : Int32) (E_first : Int32) (o : Int32) (hf : f_E_tries E_tries = some o) : Met l y_E_tries (ws_E_tries) rm_E_tries (RPc D vwCl cI cJ cZ [.ref aE] (wv_34 cI cJ cZ aT aS aM aE aE_goals aE_marks aE_looked aE_underway aE_met aE_takenHere E_level E_steps E_tries E_taken E_first)) (RQ (some (.int o))) 0 0 (fun _ => False) := by
  refine Met.ofW (cc := b_E_tries) (maxL := 1) (ret := (some .int)) (by decide) rfl ?_
  intro p e s m args below meth c s₁ B hml hv
  obtain ⟨rfl, hP, hK⟩ := hv
  have hx := B.exec
  have hb := B.bytes
  have hr := B.returns
  have hts : ∀ w ∈ BG, w.before _ s = true := fun w h => atoms_spec (ws := (ws_E_tries)) B.pre w (List.mem_cons_of_mem _ h)
  have hown : s.vm.findClass RR_E = some m.cls := findClass_of_methodNamed B.named
  have hlocks := B.notSynchronized
  have hl := lv_entry ([.ref aE]) (n := 1) (Nat.le_of_ble_eq_true rfl)
  rw [lg_entry_eq]
  generalize (lg_sl ([.ref aE]) ++ List.replicate (1 - (lg_sl ([.ref aE])).length) Slot.unset).toArray = ls at hl ⊢
  have hl : lv_has ls 1 [(0, .ref aE)] := hl
  rw [f_E_tries] at hf
  refine lv_aload_n hx hb d_E_tries_0 rfl (lv_at hl 0 rfl) ?_
  refine va_get (D := D) (ci := 5) (v := .int E_tries) (C := RR_E) (T := FF_E) (N := 14) hx hb hts kin_E hown hK.1 hP 0 rfl rfl 11 (by decide) (hts _ k1_146) (fun _ h9 => h9) rfl d_E_tries_1 ?_
  obtain rfl := Option.some.inj hf
  exact W.iret (v := E_tries) hx hb hr (fun t ht hW => ⟨rfl, ht⟩) (fun q h => by cases h) d_E_tries_4
def f_E_taken (E_taken : Int32) : Option (Int32) :=
  some E_taken
abbrev rm_E_taken : Room := { frames := 0, cells := 0, slots := 0, locals := 0 }
set_option maxHeartbeats 4000000 in
set_option maxRecDepth 100000 in
theorem c_E_taken (l : Launch) (D : va_G) (cI cJ cZ : ClassId) (aT aS aM aE aE_goals aE_marks aE_looked aE_underway aE_met aE_takenHere : Nat) (E_level : Int32) (E_steps : Int32) (E_tries : Int32) (E_taken : Int32) (E_first : Int32) (o : Int32) (hf : f_E_taken E_taken = some o) : Met l y_E_taken (ws_E_taken) rm_E_taken (RPc D vwCl cI cJ cZ [.ref aE] (wv_34 cI cJ cZ aT aS aM aE aE_goals aE_marks aE_looked aE_underway aE_met aE_takenHere E_level E_steps E_tries E_taken E_first)) (RQ (some (.int o))) 0 0 (fun _ => False) := by
  refine Met.ofW (cc := b_E_taken) (maxL := 1) (ret := (some .int)) (by decide) rfl ?_
  intro p e s m args below meth c s₁ B hml hv
  obtain ⟨rfl, hP, hK⟩ := hv
  have hx := B.exec
  have hb := B.bytes
  have hr := B.returns
  have hts : ∀ w ∈ BG, w.before _ s = true := fun w h => atoms_spec (ws := (ws_E_taken)) B.pre w (List.mem_cons_of_mem _ h)
  have hown : s.vm.findClass RR_E = some m.cls := findClass_of_methodNamed B.named
  have hlocks := B.notSynchronized
  have hl := lv_entry ([.ref aE]) (n := 1) (Nat.le_of_ble_eq_true rfl)
  rw [lg_entry_eq]
  generalize (lg_sl ([.ref aE]) ++ List.replicate (1 - (lg_sl ([.ref aE])).length) Slot.unset).toArray = ls at hl ⊢
  have hl : lv_has ls 1 [(0, .ref aE)] := hl
  rw [f_E_taken] at hf
  refine lv_aload_n hx hb d_E_taken_0 rfl (lv_at hl 0 rfl) ?_
  refine va_get (D := D) (ci := 5) (v := .int E_taken) (C := RR_E) (T := FF_E) (N := 14) hx hb hts kin_E hown hK.1 hP 0 rfl rfl 12 (by decide) (hts _ k1_147) (fun _ h9 => h9) rfl d_E_taken_1 ?_
  obtain rfl := Option.some.inj hf
  exact W.iret (v := E_taken) hx hb hr (fun t ht hW => ⟨rfl, ht⟩) (fun q h => by cases h) d_E_taken_4
def f_E_first (E_first : Int32) : Option (Int32) :=
  some E_first
abbrev rm_E_first : Room := { frames := 0, cells := 0, slots := 0, locals := 0 }
set_option maxHeartbeats 4000000 in
set_option maxRecDepth 100000 in
theorem c_E_first (l : Launch) (D : va_G) (cI cJ cZ : ClassId) (aT aS aM aE aE_goals aE_marks aE_looked aE_underway aE_met aE_takenHere : Nat) (E_level : Int32) (E_steps : Int32) (E_tries : Int32) (E_taken : Int32) (E_first : Int32) (o : Int32) (hf : f_E_first E_first = some o) : Met l y_E_first (ws_E_first) rm_E_first (RPc D vwCl cI cJ cZ [.ref aE] (wv_34 cI cJ cZ aT aS aM aE aE_goals aE_marks aE_looked aE_underway aE_met aE_takenHere E_level E_steps E_tries E_taken E_first)) (RQ (some (.int o))) 0 0 (fun _ => False) := by
  refine Met.ofW (cc := b_E_first) (maxL := 1) (ret := (some .int)) (by decide) rfl ?_
  intro p e s m args below meth c s₁ B hml hv
  obtain ⟨rfl, hP, hK⟩ := hv
  have hx := B.exec
  have hb := B.bytes
  have hr := B.returns
  have hts : ∀ w ∈ BG, w.before _ s = true := fun w h => atoms_spec (ws := (ws_E_first)) B.pre w (List.mem_cons_of_mem _ h)
  have hown : s.vm.findClass RR_E = some m.cls := findClass_of_methodNamed B.named
  have hlocks := B.notSynchronized
  have hl := lv_entry ([.ref aE]) (n := 1) (Nat.le_of_ble_eq_true rfl)
  rw [lg_entry_eq]
  generalize (lg_sl ([.ref aE]) ++ List.replicate (1 - (lg_sl ([.ref aE])).length) Slot.unset).toArray = ls at hl ⊢
  have hl : lv_has ls 1 [(0, .ref aE)] := hl
  rw [f_E_first] at hf
  refine lv_aload_n hx hb d_E_first_0 rfl (lv_at hl 0 rfl) ?_
  refine va_get (D := D) (ci := 5) (v := .int E_first) (C := RR_E) (T := FF_E) (N := 14) hx hb hts kin_E hown hK.1 hP 0 rfl rfl 13 (by decide) (hts _ k1_148) (fun _ h9 => h9) rfl d_E_first_1 ?_
  obtain rfl := Option.some.inj hf
  exact W.iret (v := E_first) hx hb hr (fun t ht hW => ⟨rfl, ht⟩) (fun q h => by cases h) d_E_first_4
def f_E_enter (E_level : Int32) (E_steps : Int32) (E_goals : (Nat → Int32)) (E_marks : (Nat → Int32)) (E_looked : (Nat → Int32)) (E_underway : (Nat → Int32)) (p0 : Int32) (p1 : Int32) : Option (Int32 × Int32 × (Nat → Int32) × (Nat → Int32) × (Nat → Int32) × (Nat → Int32)) :=
  if E_steps ≤ (E_level + (1 : Int32)) then
    some ((0 : Int32), E_level, E_goals, E_marks, E_looked, E_underway)
  else
    if (E_level + (1 : Int32)) < (100 : Int32) then
      nm (E_level + (1 : Int32)) fun x3 =>
      gd (ixb x3 100) <| nm (upd E_goals x3.toNatClampNeg p0) fun g5 =>
      gd (ixb x3 100) <| nm (upd E_marks x3.toNatClampNeg p1) fun g7 =>
      gd (ixb x3 100) <| nm (upd E_looked x3.toNatClampNeg (0 : Int32)) fun g9 =>
      gd (ixb x3 100) <| nm (upd E_underway x3.toNatClampNeg (-1 : Int32)) fun g11 =>
      some ((1 : Int32), x3, g5, g7, g9, g11)
    else
      some ((0 : Int32), E_level, E_goals, E_marks, E_looked, E_underway)
abbrev rm_E_enter : Room := { frames := 0, cells := 0, slots := 0, locals := 0 }
set_option maxHeartbeats 4000000 in
set_option maxRecDepth 100000 in
theorem c_E_enter (l : Launch) (D : va_G) (cI cJ cZ : ClassId) (aT aS aM aE aE_goals aE_marks aE_looked aE_underway aE_met aE_takenHere : Nat) (sz : Nat) (E_level : Int32) (E_steps : Int32) (E_tries : Int32) (E_taken : Int32) (E_first : Int32) (E_goals : (Nat → Int32)) (E_marks : (Nat → Int32)) (E_looked : (Nat → Int32)) (E_underway : (Nat → Int32)) (p0 : Int32) (p1 : Int32) (o : Int32 × Int32 × (Nat → Int32) × (Nat → Int32) × (Nat → Int32) × (Nat → Int32)) (hf : f_E_enter E_level E_steps E_goals E_marks E_looked E_underway p0 p1 = some o) : Met l y_E_enter (ws_E_enter) rm_E_enter (WPc D vwCl cI cJ cZ [.ref aE, .int p0, .int p1] (wv_35 cI cJ cZ aT aS aM aE aE_goals aE_marks aE_looked aE_underway aE_met aE_takenHere E_level E_steps E_tries E_taken E_first E_goals E_marks E_looked E_underway) sz) (WQ D vwCl (some (.int o.1)) (wv_35 cI cJ cZ aT aS aM aE aE_goals aE_marks aE_looked aE_underway aE_met aE_takenHere o.2.1 E_steps E_tries E_taken E_first o.2.2.1 o.2.2.2.1 o.2.2.2.2.1 o.2.2.2.2.2) (va_A (wv_35 cI cJ cZ aT aS aM aE aE_goals aE_marks aE_looked aE_underway aE_met aE_takenHere E_level E_steps E_tries E_taken E_first E_goals E_marks E_looked E_underway) sz)) 0 0 (va_A (wv_35 cI cJ cZ aT aS aM aE aE_goals aE_marks aE_looked aE_underway aE_met aE_takenHere E_level E_steps E_tries E_taken E_first E_goals E_marks E_looked E_underway) sz) := by
  refine Met.ofW (cc := b_E_enter) (maxL := 3) (ret := (some .boolean)) (by decide) rfl ?_
  intro p e s m args below meth c s₁ B hml hv
  obtain ⟨rfl, rfl, hP, hK, hD0⟩ := hv
  have hx := B.exec
  have hb := B.bytes
  have hr := B.returns
  have hts : ∀ w ∈ BG, w.before _ s = true := fun w h => atoms_spec (ws := (ws_E_enter)) B.pre w (List.mem_cons_of_mem _ h)
  have hown : s.vm.findClass RR_E = some m.cls := findClass_of_methodNamed B.named
  have hlocks := B.notSynchronized
  have hD := hD0.self (sz := s.heap.size)
  have hA : ∀ q : Nat, s.heap.size ≤ q → va_A (wv_35 cI cJ cZ aT aS aM aE aE_goals aE_marks aE_looked aE_underway aE_met aE_takenHere E_level E_steps E_tries E_taken E_first E_goals E_marks E_looked E_underway) s.heap.size q := fun q h => Or.inr h
  have hS : va_S (va_A (wv_35 cI cJ cZ aT aS aM aE aE_goals aE_marks aE_looked aE_underway aE_met aE_takenHere E_level E_steps E_tries E_taken E_first E_goals E_marks E_looked E_underway) s.heap.size) s.heap s.heap [] := va_S.rf
  generalize va_A (wv_35 cI cJ cZ aT aS aM aE aE_goals aE_marks aE_looked aE_underway aE_met aE_takenHere E_level E_steps E_tries E_taken E_first E_goals E_marks E_looked E_underway) s.heap.size = A at hD hA hS ⊢
  have hl := lv_entry ([.ref aE, .int p0, .int p1]) (n := 3) (Nat.le_of_ble_eq_true rfl)
  rw [lg_entry_eq]
  generalize (lg_sl ([.ref aE, .int p0, .int p1]) ++ List.replicate (3 - (lg_sl ([.ref aE, .int p0, .int p1])).length) Slot.unset).toArray = ls at hl ⊢
  have hl : lv_has ls 3 [(0, .ref aE), (1, .int p0), (2, .int p1)] := hl
  rw [f_E_enter] at hf
  refine lv_aload_n hx hb d_E_enter_0 rfl (lv_at hl 0 rfl) ?_
  refine va_get (D := D) (ci := 5) (v := .int E_level) (C := RR_E) (T := FF_E) (N := 14) hx hb hts kin_E hown hK.1 hP 0 rfl rfl 9 (by decide) (hts _ k1_144) (fun _ h9 => h9) rfl d_E_enter_1 ?_
  refine lv_iconst (v := 1) hx hb d_E_enter_4 (by decide) ?_
  refine lv_iadd hx hb d_E_enter_5 ?_
  refine lv_aload_n hx hb d_E_enter_6 rfl (lv_at hl 0 rfl) ?_
  refine va_get (D := D) (ci := 5) (v := .int E_steps) (C := RR_E) (T := FF_E) (N := 14) hx hb hts kin_E hown hK.1 hP 0 rfl rfl 10 (by decide) (hts _ k1_145) (fun _ h9 => h9) rfl d_E_enter_7 ?_
  refine lv_icmp_ge (tgt := 24) hx hb d_E_enter_10 (by decide) (fun c1 => ?_) (fun c1 => ?_)
  · have hf := ite_t c1 hf
    refine lv_iconst (v := 0) hx hb d_E_enter_24 (by decide) ?_
    obtain rfl := Option.some.inj hf
    exact W.zret (v := (0 : Int32)) hx hb hr rfl (fun t ht hW => ⟨rfl, by rw [ht]; exact hP, hD, hS.F ht⟩) hS.2.2 d_E_enter_25
  · have hf := ite_f c1 hf
    refine lv_aload_n hx hb d_E_enter_13 rfl (lv_at hl 0 rfl) ?_
    refine va_get (D := D) (ci := 5) (v := .int E_level) (C := RR_E) (T := FF_E) (N := 14) hx hb hts kin_E hown hK.1 hP 0 rfl rfl 9 (by decide) (hts _ k1_144) (fun _ h9 => h9) rfl d_E_enter_14 ?_
    refine lv_iconst (v := 1) hx hb d_E_enter_17 (by decide) ?_
    refine lv_iadd hx hb d_E_enter_18 ?_
    refine lv_bipush (v := 100) hx hb d_E_enter_19 (by decide) ?_
    refine lv_icmp_lt (tgt := 26) hx hb d_E_enter_21 (by decide) (fun c2 => ?_) (fun c2 => ?_)
    · have hf := ite_t c2 hf
      refine lv_aload_n hx hb d_E_enter_26 rfl (lv_at hl 0 rfl) ?_
      refine lv_dup hx hb d_E_enter_27 rfl ?_
      refine va_get (D := D) (ci := 5) (v := .int E_level) (C := RR_E) (T := FF_E) (N := 14) hx hb hts kin_E hown hK.1 hP 0 rfl rfl 9 (by decide) (hts _ k1_144) (fun _ h9 => h9) rfl d_E_enter_28 ?_
      refine lv_iconst (v := 1) hx hb d_E_enter_31 (by decide) ?_
      refine lv_iadd hx hb d_E_enter_32 ?_
      refine lv_topi (fun x3 ex3 => ?_)
      have hf := of_nm ex3 hf
      refine va_put (D := D) (ci := 5) (v := .int x3) (ty := .int) (C := RR_E) (T := FF_E) (N := 14) hx hb hts kin_E TT_E tok_E nok_E hown hK.1 hP hD hS 0 rfl rfl 9 (by decide) (hts _ k1_144) (fun _ h9 => h9) rfl (by decide +kernel) rfl rfl (Nat.le_of_ble_eq_true rfl) d_E_enter_33 (fun H locs hP hD hS => ?_)
      have hP : va_P D vwCl (wv_35 cI cJ cZ aT aS aM aE aE_goals aE_marks aE_looked aE_underway aE_met aE_takenHere x3 E_steps E_tries E_taken E_first E_goals E_marks E_looked E_underway) H := hP
      have hD : va_D A (wv_35 cI cJ cZ aT aS aM aE aE_goals aE_marks aE_looked aE_underway aE_met aE_takenHere x3 E_steps E_tries E_taken E_first E_goals E_marks E_looked E_underway) := hD
      refine lv_aload_n hx hb d_E_enter_36 rfl (lv_at hl 0 rfl) ?_
      refine va_get (D := D) (ci := 5) (v := .ref aE_goals) (C := RR_E) (T := FF_E) (N := 14) hx hb hts kin_E hown hK.1 hP 0 rfl rfl 3 (by decide) (hts _ k1_138) (fun _ h9 => h9) rfl d_E_enter_37 ?_
      refine lv_aload_n hx hb d_E_enter_40 rfl (lv_at hl 0 rfl) ?_
      refine va_get (D := D) (ci := 5) (v := .int x3) (C := RR_E) (T := FF_E) (N := 14) hx hb hts kin_E hown hK.1 hP 0 rfl rfl 9 (by decide) (hts _ k1_144) (fun _ h9 => h9) rfl d_E_enter_41 ?_
      refine lv_iload_n hx hb d_E_enter_44 rfl (lv_at hl 1 rfl) ?_
      obtain ⟨h4, hf⟩ := of_gd hf
      obtain ⟨g5, eg5⟩ : ∃ y : Nat → Int32, y = upd E_goals x3.toNatClampNeg p0 := ⟨_, rfl⟩
      have hf := of_nm eg5 hf
      refine va_iast hx hb hK.1 hP hD hS 1 0 rfl rfl (ixb_in h4) d_E_enter_45 (fun H locs hP hD hS => ?_)
      rw [← eg5] at hP hD
      have hP : va_P D vwCl (wv_35 cI cJ cZ aT aS aM aE aE_goals aE_marks aE_looked aE_underway aE_met aE_takenHere x3 E_steps E_tries E_taken E_first g5 E_marks E_looked E_underway) H := hP
      have hD : va_D A (wv_35 cI cJ cZ aT aS aM aE aE_goals aE_marks aE_looked aE_underway aE_met aE_takenHere x3 E_steps E_tries E_taken E_first g5 E_marks E_looked E_underway) := hD
      refine lv_aload_n hx hb d_E_enter_46 rfl (lv_at hl 0 rfl) ?_
      refine va_get (D := D) (ci := 5) (v := .ref aE_marks) (C := RR_E) (T := FF_E) (N := 14) hx hb hts kin_E hown hK.1 hP 0 rfl rfl 4 (by decide) (hts _ k1_139) (fun _ h9 => h9) rfl d_E_enter_47 ?_
      refine lv_aload_n hx hb d_E_enter_50 rfl (lv_at hl 0 rfl) ?_
      refine va_get (D := D) (ci := 5) (v := .int x3) (C := RR_E) (T := FF_E) (N := 14) hx hb hts kin_E hown hK.1 hP 0 rfl rfl 9 (by decide) (hts _ k1_144) (fun _ h9 => h9) rfl d_E_enter_51 ?_
      refine lv_iload_n hx hb d_E_enter_54 rfl (lv_at hl 2 rfl) ?_
      obtain ⟨h6, hf⟩ := of_gd hf
      obtain ⟨g7, eg7⟩ : ∃ y : Nat → Int32, y = upd E_marks x3.toNatClampNeg p1 := ⟨_, rfl⟩
      have hf := of_nm eg7 hf
      refine va_iast hx hb hK.1 hP hD hS 2 0 rfl rfl (ixb_in h6) d_E_enter_55 (fun H locs hP hD hS => ?_)
      rw [← eg7] at hP hD
      have hP : va_P D vwCl (wv_35 cI cJ cZ aT aS aM aE aE_goals aE_marks aE_looked aE_underway aE_met aE_takenHere x3 E_steps E_tries E_taken E_first g5 g7 E_looked E_underway) H := hP
      have hD : va_D A (wv_35 cI cJ cZ aT aS aM aE aE_goals aE_marks aE_looked aE_underway aE_met aE_takenHere x3 E_steps E_tries E_taken E_first g5 g7 E_looked E_underway) := hD
      refine lv_aload_n hx hb d_E_enter_56 rfl (lv_at hl 0 rfl) ?_
      refine va_get (D := D) (ci := 5) (v := .ref aE_looked) (C := RR_E) (T := FF_E) (N := 14) hx hb hts kin_E hown hK.1 hP 0 rfl rfl 5 (by decide) (hts _ k1_140) (fun _ h9 => h9) rfl d_E_enter_57 ?_
      refine lv_aload_n hx hb d_E_enter_60 rfl (lv_at hl 0 rfl) ?_
      refine va_get (D := D) (ci := 5) (v := .int x3) (C := RR_E) (T := FF_E) (N := 14) hx hb hts kin_E hown hK.1 hP 0 rfl rfl 9 (by decide) (hts _ k1_144) (fun _ h9 => h9) rfl d_E_enter_61 ?_
      refine lv_iconst (v := 0) hx hb d_E_enter_64 (by decide) ?_
      obtain ⟨h8, hf⟩ := of_gd hf
      obtain ⟨g9, eg9⟩ : ∃ y : Nat → Int32, y = upd E_looked x3.toNatClampNeg (0 : Int32) := ⟨_, rfl⟩
      have hf := of_nm eg9 hf
      refine va_iast hx hb hK.1 hP hD hS 3 0 rfl rfl (ixb_in h8) d_E_enter_65 (fun H locs hP hD hS => ?_)
      rw [← eg9] at hP hD
      have hP : va_P D vwCl (wv_35 cI cJ cZ aT aS aM aE aE_goals aE_marks aE_looked aE_underway aE_met aE_takenHere x3 E_steps E_tries E_taken E_first g5 g7 g9 E_underway) H := hP
      have hD : va_D A (wv_35 cI cJ cZ aT aS aM aE aE_goals aE_marks aE_looked aE_underway aE_met aE_takenHere x3 E_steps E_tries E_taken E_first g5 g7 g9 E_underway) := hD
      refine lv_aload_n hx hb d_E_enter_66 rfl (lv_at hl 0 rfl) ?_
      refine va_get (D := D) (ci := 5) (v := .ref aE_underway) (C := RR_E) (T := FF_E) (N := 14) hx hb hts kin_E hown hK.1 hP 0 rfl rfl 6 (by decide) (hts _ k1_141) (fun _ h9 => h9) rfl d_E_enter_67 ?_
      refine lv_aload_n hx hb d_E_enter_70 rfl (lv_at hl 0 rfl) ?_
      refine va_get (D := D) (ci := 5) (v := .int x3) (C := RR_E) (T := FF_E) (N := 14) hx hb hts kin_E hown hK.1 hP 0 rfl rfl 9 (by decide) (hts _ k1_144) (fun _ h9 => h9) rfl d_E_enter_71 ?_
      refine lv_iconst (v := -1) hx hb d_E_enter_74 (by decide) ?_
      obtain ⟨h10, hf⟩ := of_gd hf
      obtain ⟨g11, eg11⟩ : ∃ y : Nat → Int32, y = upd E_underway x3.toNatClampNeg (-1 : Int32) := ⟨_, rfl⟩
      have hf := of_nm eg11 hf
      refine va_iast hx hb hK.1 hP hD hS 4 0 rfl rfl (ixb_in h10) d_E_enter_75 (fun H locs hP hD hS => ?_)
      rw [← eg11] at hP hD
      have hP : va_P D vwCl (wv_35 cI cJ cZ aT aS aM aE aE_goals aE_marks aE_looked aE_underway aE_met aE_takenHere x3 E_steps E_tries E_taken E_first g5 g7 g9 g11) H := hP
      have hD : va_D A (wv_35 cI cJ cZ aT aS aM aE aE_goals aE_marks aE_looked aE_underway aE_met aE_takenHere x3 E_steps E_tries E_taken E_first g5 g7 g9 g11) := hD
      refine lv_iconst (v := 1) hx hb d_E_enter_76 (by decide) ?_
      obtain rfl := Option.some.inj hf
      exact W.zret (v := (1 : Int32)) hx hb hr rfl (fun t ht hW => ⟨rfl, by rw [ht]; exact hP, hD, hS.F ht⟩) hS.2.2 d_E_enter_77
    · have hf := ite_f c2 hf
      refine lv_iconst (v := 0) hx hb d_E_enter_24 (by decide) ?_
      obtain rfl := Option.some.inj hf
      exact W.zret (v := (0 : Int32)) hx hb hr rfl (fun t ht hW => ⟨rfl, by rw [ht]; exact hP, hD, hS.F ht⟩) hS.2.2 d_E_enter_25
def f_E_giveUp (T_count : Int32) (nT_heads : Nat) (T_heads : (Nat → Int32)) (nT_places : Nat) (T_places : (Nat → Int32)) (nT_olders : Nat) (T_olders : (Nat → Int32)) (T_newest : (Nat → Int32)) (E_level : Int32) (E_marks : (Nat → Int32)) (E_underway : (Nat → Int32)) : Option (Int32 × (Nat → Int32) × Int32 × (Nat → Int32)) :=
  gd (ixb E_level 100) <|
  (f_T_keepBelow T_count nT_heads T_heads nT_places T_places nT_olders T_olders T_newest (E_marks E_level.toNatClampNeg)).bind fun r2 =>
  nm (E_level - (1 : Int32)) fun x3 =>
  if x3 < 0 then
    some (r2.1, r2.2, x3, E_underway)
  else
    gd (ixb x3 100) <| nm (upd E_underway x3.toNatClampNeg (-1 : Int32)) fun g6 =>
    some (r2.1, r2.2, x3, g6)
abbrev rm_E_giveUp : Room := { frames := 2, cells := 0, slots := 0, locals := 46 }
set_option maxHeartbeats 4000000 in
set_option maxRecDepth 100000 in
theorem c_E_giveUp (l : Launch) (D : va_G) (cI cJ cZ : ClassId) (aT aT_heads aT_places aT_olders aT_sizes aT_withins aT_newest aS aM aE aE_goals aE_marks aE_looked aE_underway aE_met aE_takenHere : Nat) (sz : Nat) (T_count : Int32) (nT_heads : Nat) (T_heads : (Nat → Int32)) (nT_places : Nat) (T_places : (Nat → Int32)) (nT_olders : Nat) (T_olders : (Nat → Int32)) (T_newest : (Nat → Int32)) (E_level : Int32) (E_steps : Int32) (E_tries : Int32) (E_taken : Int32) (E_first : Int32) (E_marks : (Nat → Int32)) (E_underway : (Nat → Int32)) (o : Int32 × (Nat → Int32) × Int32 × (Nat → Int32)) (hf : f_E_giveUp T_count nT_heads T_heads nT_places T_places nT_olders T_olders T_newest E_level E_marks E_underway = some o) : Met l y_E_giveUp (ws_E_giveUp) rm_E_giveUp (WPc D vwCl cI cJ cZ [.ref aE] (wv_36 cI cJ cZ aT aT_heads aT_places aT_olders aT_sizes aT_withins aT_newest aS aM aE aE_goals aE_marks aE_looked aE_underway aE_met aE_takenHere T_count nT_heads T_heads nT_places T_places nT_olders T_olders T_newest E_level E_steps E_tries E_taken E_first E_marks E_underway) sz) (WQ D vwCl none (wv_36 cI cJ cZ aT aT_heads aT_places aT_olders aT_sizes aT_withins aT_newest aS aM aE aE_goals aE_marks aE_looked aE_underway aE_met aE_takenHere o.1 nT_heads T_heads nT_places T_places nT_olders T_olders o.2.1 o.2.2.1 E_steps E_tries E_taken E_first E_marks o.2.2.2) (va_A (wv_36 cI cJ cZ aT aT_heads aT_places aT_olders aT_sizes aT_withins aT_newest aS aM aE aE_goals aE_marks aE_looked aE_underway aE_met aE_takenHere T_count nT_heads T_heads nT_places T_places nT_olders T_olders T_newest E_level E_steps E_tries E_taken E_first E_marks E_underway) sz)) 0 0 (va_A (wv_36 cI cJ cZ aT aT_heads aT_places aT_olders aT_sizes aT_withins aT_newest aS aM aE aE_goals aE_marks aE_looked aE_underway aE_met aE_takenHere T_count nT_heads T_heads nT_places T_places nT_olders T_olders T_newest E_level E_steps E_tries E_taken E_first E_marks E_underway) sz) := by
  refine Met.ofW (cc := b_E_giveUp) (maxL := 1) (ret := none) (by decide) rfl ?_
  intro p e s m args below meth c s₁ B hml hv
  obtain ⟨rfl, rfl, hP, hK, hD0⟩ := hv
  have hx := B.exec
  have hb := B.bytes
  have hr := B.returns
  have hts : ∀ w ∈ BG, w.before _ s = true := fun w h => atoms_spec (ws := (ws_E_giveUp)) B.pre w (List.mem_cons_of_mem _ h)
  have hown : s.vm.findClass RR_E = some m.cls := findClass_of_methodNamed B.named
  have hlocks := B.notSynchronized
  have hD := hD0.self (sz := s.heap.size)
  have hA : ∀ q : Nat, s.heap.size ≤ q → va_A (wv_36 cI cJ cZ aT aT_heads aT_places aT_olders aT_sizes aT_withins aT_newest aS aM aE aE_goals aE_marks aE_looked aE_underway aE_met aE_takenHere T_count nT_heads T_heads nT_places T_places nT_olders T_olders T_newest E_level E_steps E_tries E_taken E_first E_marks E_underway) s.heap.size q := fun q h => Or.inr h
  have hS : va_S (va_A (wv_36 cI cJ cZ aT aT_heads aT_places aT_olders aT_sizes aT_withins aT_newest aS aM aE aE_goals aE_marks aE_looked aE_underway aE_met aE_takenHere T_count nT_heads T_heads nT_places T_places nT_olders T_olders T_newest E_level E_steps E_tries E_taken E_first E_marks E_underway) s.heap.size) s.heap s.heap [] := va_S.rf
  generalize va_A (wv_36 cI cJ cZ aT aT_heads aT_places aT_olders aT_sizes aT_withins aT_newest aS aM aE aE_goals aE_marks aE_looked aE_underway aE_met aE_takenHere T_count nT_heads T_heads nT_places T_places nT_olders T_olders T_newest E_level E_steps E_tries E_taken E_first E_marks E_underway) s.heap.size = A at hD hA hS ⊢
  have hl := lv_entry ([.ref aE]) (n := 1) (Nat.le_of_ble_eq_true rfl)
  rw [lg_entry_eq]
  generalize (lg_sl ([.ref aE]) ++ List.replicate (1 - (lg_sl ([.ref aE])).length) Slot.unset).toArray = ls at hl ⊢
  have hl : lv_has ls 1 [(0, .ref aE)] := hl
  rw [f_E_giveUp] at hf
  refine lv_aload_n hx hb d_E_giveUp_0 rfl (lv_at hl 0 rfl) ?_
  refine va_get (D := D) (ci := 5) (v := .ref aT) (C := RR_E) (T := FF_E) (N := 14) hx hb hts kin_E hown hK.1 hP 5 rfl rfl 0 (by decide) (hts _ k1_135) (fun _ h9 => h9) rfl d_E_giveUp_1 ?_
  refine lv_aload_n hx hb d_E_giveUp_4 rfl (lv_at hl 0 rfl) ?_
  refine va_get (D := D) (ci := 5) (v := .ref aE_marks) (C := RR_E) (T := FF_E) (N := 14) hx hb hts kin_E hown hK.1 hP 5 rfl rfl 4 (by decide) (hts _ k1_139) (fun _ h9 => h9) rfl d_E_giveUp_5 ?_
  refine lv_aload_n hx hb d_E_giveUp_8 rfl (lv_at hl 0 rfl) ?_
  refine va_get (D := D) (ci := 5) (v := .int E_level) (C := RR_E) (T := FF_E) (N := 14) hx hb hts kin_E hown hK.1 hP 5 rfl rfl 9 (by decide) (hts _ k1_144) (fun _ h9 => h9) rfl d_E_giveUp_9 ?_
  obtain ⟨h1, hf⟩ := of_gd hf
  refine va_iald hx hb hK.1 hP 6 0 rfl rfl (ixb_in h1) d_E_giveUp_12 ?_
  obtain ⟨r2, hr2, hf⟩ := of_bd hf
  refine wr_call (ws' := (wv_36 cI cJ cZ aT aT_heads aT_places aT_olders aT_sizes aT_withins aT_newest aS aM aE aE_goals aE_marks aE_looked aE_underway aE_met aE_takenHere r2.1 nT_heads T_heads nT_places T_places nT_olders T_olders r2.2 E_level E_steps E_tries E_taken E_first E_marks E_underway)) (va_runV (As := [.int (E_marks E_level.toNatClampNeg)]) (rest := []) ⟨hx, hb, hml, hown, hts⟩ (c_T_keepBelow l D cI cJ cZ aT aT_heads aT_places aT_olders aT_sizes aT_withins aT_newest _ T_count nT_heads T_heads nT_places T_places nT_olders T_olders T_newest (E_marks E_level.toNatClampNeg) r2 hr2) (bigV 1 hts k3_235 k3_236 k3_237 k1_2 k3_238 rfl rfl hd_T_keepBelow ⟨Nat.le_of_ble_eq_true rfl, Nat.le_of_ble_eq_true rfl⟩) (wr_preV hK hP hD [0, 1, 2, 3, 4] rfl (by decide) rfl 0 rfl rfl rfl) rfl rfl hl.1 rfl (lv_room (Nat.le_of_ble_eq_true rfl)) d_E_giveUp_13 ⟨Nat.le_of_ble_eq_true rfl, Nat.le_of_ble_eq_true rfl⟩) hP hD hS hA [0, 1, 2, 3, 4] [5, 6, 7] rfl rfl (by decide) (by decide) [3, 4, 5, 6, 7, 0, 1, 2] (by decide) rfl (fun H locs hP hD hS => ?_)
  refine lv_aload_n hx hb d_E_giveUp_16 rfl (lv_at hl 0 rfl) ?_
  refine lv_dup hx hb d_E_giveUp_17 rfl ?_
  refine va_get (D := D) (ci := 5) (v := .int E_level) (C := RR_E) (T := FF_E) (N := 14) hx hb hts kin_E hown hK.1 hP 5 rfl rfl 9 (by decide) (hts _ k1_144) (fun _ h9 => h9) rfl d_E_giveUp_18 ?_
  refine lv_iconst (v := 1) hx hb d_E_giveUp_21 (by decide) ?_
  refine lv_isub hx hb d_E_giveUp_22 ?_
  refine lv_topi (fun x3 ex3 => ?_)
  have hf := of_nm ex3 hf
  refine va_put (D := D) (ci := 5) (v := .int x3) (ty := .int) (C := RR_E) (T := FF_E) (N := 14) hx hb hts kin_E TT_E tok_E nok_E hown hK.1 hP hD hS 5 rfl rfl 9 (by decide) (hts _ k1_144) (fun _ h9 => h9) rfl (by decide +kernel) rfl rfl (Nat.le_of_ble_eq_true rfl) d_E_giveUp_23 (fun H locs hP hD hS => ?_)
  have hP : va_P D vwCl (wv_36 cI cJ cZ aT aT_heads aT_places aT_olders aT_sizes aT_withins aT_newest aS aM aE aE_goals aE_marks aE_looked aE_underway aE_met aE_takenHere r2.1 nT_heads T_heads nT_places T_places nT_olders T_olders r2.2 x3 E_steps E_tries E_taken E_first E_marks E_underway) H := hP
  have hD : va_D A (wv_36 cI cJ cZ aT aT_heads aT_places aT_olders aT_sizes aT_withins aT_newest aS aM aE aE_goals aE_marks aE_looked aE_underway aE_met aE_takenHere r2.1 nT_heads T_heads nT_places T_places nT_olders T_olders r2.2 x3 E_steps E_tries E_taken E_first E_marks E_underway) := hD
  refine lv_aload_n hx hb d_E_giveUp_26 rfl (lv_at hl 0 rfl) ?_
  refine va_get (D := D) (ci := 5) (v := .int x3) (C := RR_E) (T := FF_E) (N := 14) hx hb hts kin_E hown hK.1 hP 5 rfl rfl 9 (by decide) (hts _ k1_144) (fun _ h9 => h9) rfl d_E_giveUp_27 ?_
  refine lv_if_lt (tgt := 43) hx hb d_E_giveUp_30 (by decide) (fun c4 => ?_) (fun c4 => ?_)
  · have hf := ite_t c4 hf
    obtain rfl := Option.some.inj hf
    exact W.vret hx hb hr (fun t ht hW => ⟨rfl, by rw [ht]; exact hP, hD, hS.F ht⟩) hS.2.2 d_E_giveUp_43
  · have hf := ite_f c4 hf
    refine lv_aload_n hx hb d_E_giveUp_33 rfl (lv_at hl 0 rfl) ?_
    refine va_get (D := D) (ci := 5) (v := .ref aE_underway) (C := RR_E) (T := FF_E) (N := 14) hx hb hts kin_E hown hK.1 hP 5 rfl rfl 6 (by decide) (hts _ k1_141) (fun _ h9 => h9) rfl d_E_giveUp_34 ?_
    refine lv_aload_n hx hb d_E_giveUp_37 rfl (lv_at hl 0 rfl) ?_
    refine va_get (D := D) (ci := 5) (v := .int x3) (C := RR_E) (T := FF_E) (N := 14) hx hb hts kin_E hown hK.1 hP 5 rfl rfl 9 (by decide) (hts _ k1_144) (fun _ h9 => h9) rfl d_E_giveUp_38 ?_
    refine lv_iconst (v := -1) hx hb d_E_giveUp_41 (by decide) ?_
    obtain ⟨h5, hf⟩ := of_gd hf
    obtain ⟨g6, eg6⟩ : ∃ y : Nat → Int32, y = upd E_underway x3.toNatClampNeg (-1 : Int32) := ⟨_, rfl⟩
    have hf := of_nm eg6 hf
    refine va_iast hx hb hK.1 hP hD hS 7 0 rfl rfl (ixb_in h5) d_E_giveUp_42 (fun H locs hP hD hS => ?_)
    rw [← eg6] at hP hD
    have hP : va_P D vwCl (wv_36 cI cJ cZ aT aT_heads aT_places aT_olders aT_sizes aT_withins aT_newest aS aM aE aE_goals aE_marks aE_looked aE_underway aE_met aE_takenHere r2.1 nT_heads T_heads nT_places T_places nT_olders T_olders r2.2 x3 E_steps E_tries E_taken E_first E_marks g6) H := hP
    have hD : va_D A (wv_36 cI cJ cZ aT aT_heads aT_places aT_olders aT_sizes aT_withins aT_newest aS aM aE aE_goals aE_marks aE_looked aE_underway aE_met aE_takenHere r2.1 nT_heads T_heads nT_places T_places nT_olders T_olders r2.2 x3 E_steps E_tries E_taken E_first E_marks g6) := hD
    obtain rfl := Option.some.inj hf
    exact W.vret hx hb hr (fun t ht hW => ⟨rfl, by rw [ht]; exact hP, hD, hS.F ht⟩) hS.2.2 d_E_giveUp_43
def f_E_looks (T_count : Int32) (nT_heads : Nat) (T_heads : (Nat → Int32)) (nT_places : Nat) (T_places : (Nat → Int32)) (nT_olders : Nat) (T_olders : (Nat → Int32)) (nT_withins : Nat) (T_withins : (Nat → Int64)) (T_newest : (Nat → Int32)) (S_count : Int32) (S_premises : (Nat → Int32)) (S_premiseCounts : (Nat → Int32)) (S_conclusions : (Nat → Int32)) (S_order : (Nat → Int32)) (M_images : (Nat → Int32)) (E_level : Int32) (E_tries : Int32) (E_goals : (Nat → Int32)) (E_marks : (Nat → Int32)) (E_looked : (Nat → Int32)) (E_underway : (Nat → Int32)) (E_met : (Nat → Int32)) (E_takenHere : (Nat → Int32)) : Option (Int32 × Int32 × (Nat → Int32) × (Nat → Int32) × Int32 × Int32 × (Nat → Int32) × (Nat → Int32) × (Nat → Int32) × (Nat → Int32)) :=
  gd (ixb E_level 100) <|
  (f_S_ordered S_count S_order (E_looked E_level.toNatClampNeg)).bind fun r2 =>
  if r2 = (-1 : Int32) then
    (f_E_giveUp T_count nT_heads T_heads nT_places T_places nT_olders T_olders T_newest E_level E_marks E_underway).bind fun r21 =>
    some ((1 : Int32), r21.1, r21.2.1, M_images, r21.2.2.1, E_tries, E_looked, r21.2.2.2, E_met, E_takenHere)
  else
    if E_tries < (1000 : Int32) then
      nm (E_tries + (1 : Int32)) fun x5 =>
      gd (ixb E_level 100) <|
      gd (ixb E_level 100) <| nm (upd E_looked E_level.toNatClampNeg ((E_looked E_level.toNatClampNeg) + (1 : Int32))) fun g8 =>
      (f_S_openVariables T_count nT_withins T_withins S_count S_premises S_premiseCounts S_conclusions r2).bind fun r9 =>
      if r9 = 0 then
        (f_S_conclusion S_count S_conclusions r2).bind fun r11 =>
        gd (ixb E_level 100) <|
        (f_M_matches T_count nT_heads T_heads nT_places T_places nT_withins T_withins M_images r11 (E_goals E_level.toNatClampNeg) (273804165120 : Int64)).bind fun r13 =>
        if r13.1 = 0 then
          some ((1 : Int32), T_count, T_newest, r13.2, E_level, x5, g8, E_underway, E_met, E_takenHere)
        else
          gd (ixb E_level 100) <| nm (upd E_underway E_level.toNatClampNeg r2) fun g16 =>
          gd (ixb E_level 100) <| nm (upd E_met E_level.toNatClampNeg (0 : Int32)) fun g18 =>
          gd (ixb E_level 100) <| nm (upd E_takenHere E_level.toNatClampNeg (1 : Int32)) fun g20 =>
          some ((1 : Int32), T_count, T_newest, r13.2, E_level, x5, g8, g16, g18, g20)
      else
        some ((1 : Int32), T_count, T_newest, M_images, E_level, x5, g8, E_underway, E_met, E_takenHere)
    else
      some ((0 : Int32), T_count, T_newest, M_images, E_level, E_tries, E_looked, E_underway, E_met, E_takenHere)
abbrev rm_E_looks : Room := { frames := 4, cells := 0, slots := 0, locals := 98 }
set_option maxHeartbeats 4000000 in
set_option maxRecDepth 100000 in
theorem c_E_looks (l : Launch) (D : va_G) (cI cJ cZ : ClassId) (aT aT_heads aT_places aT_olders aT_sizes aT_withins aT_newest aS aS_premises aS_premiseCounts aS_conclusions aS_order aM aM_images aM_path aE aE_goals aE_marks aE_looked aE_underway aE_met aE_takenHere : Nat) (sz : Nat) (T_count : Int32) (nT_heads : Nat) (T_heads : (Nat → Int32)) (nT_places : Nat) (T_places : (Nat → Int32)) (nT_olders : Nat) (T_olders : (Nat → Int32)) (nT_withins : Nat) (T_withins : (Nat → Int64)) (T_newest : (Nat → Int32)) (S_count : Int32) (S_premises : (Nat → Int32)) (S_premiseCounts : (Nat → Int32)) (S_conclusions : (Nat → Int32)) (S_order : (Nat → Int32)) (M_images : (Nat → Int32)) (E_level : Int32) (E_steps : Int32) (E_tries : Int32) (E_taken : Int32) (E_first : Int32) (E_goals : (Nat → Int32)) (E_marks : (Nat → Int32)) (E_looked : (Nat → Int32)) (E_underway : (Nat → Int32)) (E_met : (Nat → Int32)) (E_takenHere : (Nat → Int32)) (o : Int32 × Int32 × (Nat → Int32) × (Nat → Int32) × Int32 × Int32 × (Nat → Int32) × (Nat → Int32) × (Nat → Int32) × (Nat → Int32)) (hf : f_E_looks T_count nT_heads T_heads nT_places T_places nT_olders T_olders nT_withins T_withins T_newest S_count S_premises S_premiseCounts S_conclusions S_order M_images E_level E_tries E_goals E_marks E_looked E_underway E_met E_takenHere = some o) : Met l y_E_looks (ws_E_looks) rm_E_looks (WPc D vwCl cI cJ cZ [.ref aE] (wv_37 cI cJ cZ aT aT_heads aT_places aT_olders aT_sizes aT_withins aT_newest aS aS_premises aS_premiseCounts aS_conclusions aS_order aM aM_images aM_path aE aE_goals aE_marks aE_looked aE_underway aE_met aE_takenHere T_count nT_heads T_heads nT_places T_places nT_olders T_olders nT_withins T_withins T_newest S_count S_premises S_premiseCounts S_conclusions S_order M_images E_level E_steps E_tries E_taken E_first E_goals E_marks E_looked E_underway E_met E_takenHere) sz) (WQ D vwCl (some (.int o.1)) (wv_37 cI cJ cZ aT aT_heads aT_places aT_olders aT_sizes aT_withins aT_newest aS aS_premises aS_premiseCounts aS_conclusions aS_order aM aM_images aM_path aE aE_goals aE_marks aE_looked aE_underway aE_met aE_takenHere o.2.1 nT_heads T_heads nT_places T_places nT_olders T_olders nT_withins T_withins o.2.2.1 S_count S_premises S_premiseCounts S_conclusions S_order o.2.2.2.1 o.2.2.2.2.1 E_steps o.2.2.2.2.2.1 E_taken E_first E_goals E_marks o.2.2.2.2.2.2.1 o.2.2.2.2.2.2.2.1 o.2.2.2.2.2.2.2.2.1 o.2.2.2.2.2.2.2.2.2) (va_A (wv_37 cI cJ cZ aT aT_heads aT_places aT_olders aT_sizes aT_withins aT_newest aS aS_premises aS_premiseCounts aS_conclusions aS_order aM aM_images aM_path aE aE_goals aE_marks aE_looked aE_underway aE_met aE_takenHere T_count nT_heads T_heads nT_places T_places nT_olders T_olders nT_withins T_withins T_newest S_count S_premises S_premiseCounts S_conclusions S_order M_images E_level E_steps E_tries E_taken E_first E_goals E_marks E_looked E_underway E_met E_takenHere) sz)) 0 0 (va_A (wv_37 cI cJ cZ aT aT_heads aT_places aT_olders aT_sizes aT_withins aT_newest aS aS_premises aS_premiseCounts aS_conclusions aS_order aM aM_images aM_path aE aE_goals aE_marks aE_looked aE_underway aE_met aE_takenHere T_count nT_heads T_heads nT_places T_places nT_olders T_olders nT_withins T_withins T_newest S_count S_premises S_premiseCounts S_conclusions S_order M_images E_level E_steps E_tries E_taken E_first E_goals E_marks E_looked E_underway E_met E_takenHere) sz) := by
  refine Met.ofW (cc := b_E_looks) (maxL := 2) (ret := (some .boolean)) (by decide) rfl ?_
  intro p e s m args below meth c s₁ B hml hv
  obtain ⟨rfl, rfl, hP, hK, hD0⟩ := hv
  have hx := B.exec
  have hb := B.bytes
  have hr := B.returns
  have hts : ∀ w ∈ BG, w.before _ s = true := fun w h => atoms_spec (ws := (ws_E_looks)) B.pre w (List.mem_cons_of_mem _ h)
  have hown : s.vm.findClass RR_E = some m.cls := findClass_of_methodNamed B.named
  have hlocks := B.notSynchronized
  have hD := hD0.self (sz := s.heap.size)
  have hA : ∀ q : Nat, s.heap.size ≤ q → va_A (wv_37 cI cJ cZ aT aT_heads aT_places aT_olders aT_sizes aT_withins aT_newest aS aS_premises aS_premiseCounts aS_conclusions aS_order aM aM_images aM_path aE aE_goals aE_marks aE_looked aE_underway aE_met aE_takenHere T_count nT_heads T_heads nT_places T_places nT_olders T_olders nT_withins T_withins T_newest S_count S_premises S_premiseCounts S_conclusions S_order M_images E_level E_steps E_tries E_taken E_first E_goals E_marks E_looked E_underway E_met E_takenHere) s.heap.size q := fun q h => Or.inr h
  have hS : va_S (va_A (wv_37 cI cJ cZ aT aT_heads aT_places aT_olders aT_sizes aT_withins aT_newest aS aS_premises aS_premiseCounts aS_conclusions aS_order aM aM_images aM_path aE aE_goals aE_marks aE_looked aE_underway aE_met aE_takenHere T_count nT_heads T_heads nT_places T_places nT_olders T_olders nT_withins T_withins T_newest S_count S_premises S_premiseCounts S_conclusions S_order M_images E_level E_steps E_tries E_taken E_first E_goals E_marks E_looked E_underway E_met E_takenHere) s.heap.size) s.heap s.heap [] := va_S.rf
  generalize va_A (wv_37 cI cJ cZ aT aT_heads aT_places aT_olders aT_sizes aT_withins aT_newest aS aS_premises aS_premiseCounts aS_conclusions aS_order aM aM_images aM_path aE aE_goals aE_marks aE_looked aE_underway aE_met aE_takenHere T_count nT_heads T_heads nT_places T_places nT_olders T_olders nT_withins T_withins T_newest S_count S_premises S_premiseCounts S_conclusions S_order M_images E_level E_steps E_tries E_taken E_first E_goals E_marks E_looked E_underway E_met E_takenHere) s.heap.size = A at hD hA hS ⊢
  have hl := lv_entry ([.ref aE]) (n := 2) (Nat.le_of_ble_eq_true rfl)
  rw [lg_entry_eq]
  generalize (lg_sl ([.ref aE]) ++ List.replicate (2 - (lg_sl ([.ref aE])).length) Slot.unset).toArray = ls at hl ⊢
  have hl : lv_has ls 2 [(0, .ref aE)] := hl
  rw [f_E_looks] at hf
  refine lv_aload_n hx hb d_E_looks_0 rfl (lv_at hl 0 rfl) ?_
  refine va_get (D := D) (ci := 5) (v := .ref aS) (C := RR_E) (T := FF_E) (N := 14) hx hb hts kin_E hown hK.1 hP 13 rfl rfl 1 (by decide) (hts _ k1_136) (fun _ h9 => h9) rfl d_E_looks_1 ?_
  refine lv_aload_n hx hb d_E_looks_4 rfl (lv_at hl 0 rfl) ?_
  refine va_get (D := D) (ci := 5) (v := .ref aE_looked) (C := RR_E) (T := FF_E) (N := 14) hx hb hts kin_E hown hK.1 hP 13 rfl rfl 5 (by decide) (hts _ k1_140) (fun _ h9 => h9) rfl d_E_looks_5 ?_
  refine lv_aload_n hx hb d_E_looks_8 rfl (lv_at hl 0 rfl) ?_
  refine va_get (D := D) (ci := 5) (v := .int E_level) (C := RR_E) (T := FF_E) (N := 14) hx hb hts kin_E hown hK.1 hP 13 rfl rfl 9 (by decide) (hts _ k1_144) (fun _ h9 => h9) rfl d_E_looks_9 ?_
  obtain ⟨h1, hf⟩ := of_gd hf
  refine va_iald hx hb hK.1 hP 16 0 rfl rfl (ixb_in h1) d_E_looks_12 ?_
  obtain ⟨r2, hr2, hf⟩ := of_bd hf
  refine rd_call (va_runV (As := [.int (E_looked E_level.toNatClampNeg)]) (rest := []) ⟨hx, hb, hml, hown, hts⟩ (c_S_ordered l D cI cJ cZ aS aS_premises aS_premiseCounts aS_conclusions aS_order S_count S_order (E_looked E_level.toNatClampNeg) r2 hr2) (bigV 1 hts k3_230 k3_125 k3_126 k1_4 k3_127 rfl rfl hd_S_ordered ⟨Nat.le_of_ble_eq_true rfl, Nat.le_of_ble_eq_true rfl⟩) (rd_preV hK hP [6, 10] rfl 6 rfl rfl rfl) rfl rfl hl.1 rfl (lv_room (Nat.le_of_ble_eq_true rfl)) d_E_looks_13 ⟨Nat.le_of_ble_eq_true rfl, Nat.le_of_ble_eq_true rfl⟩) ?_
  refine lv_istore_n (lv' := [(1, .int r2), (0, .ref aE)]) hx hb d_E_looks_16 rfl hl (by decide) rfl (fun ls hl => ?_)
  refine lv_iload_n hx hb d_E_looks_17 rfl (lv_at hl 0 rfl) ?_
  refine lv_iconst (v := -1) hx hb d_E_looks_18 (by decide) ?_
  refine lv_icmp_ne (tgt := 28) hx hb d_E_looks_19 (by decide) (fun c3 => ?_) (fun c3 => ?_)
  · have hf := ite_f c3 hf
    refine lv_aload_n hx hb d_E_looks_28 rfl (lv_at hl 1 rfl) ?_
    refine va_get (D := D) (ci := 5) (v := .int E_tries) (C := RR_E) (T := FF_E) (N := 14) hx hb hts kin_E hown hK.1 hP 13 rfl rfl 11 (by decide) (hts _ k1_146) (fun _ h9 => h9) rfl d_E_looks_29 ?_
    refine lv_sipush (v := 1000) hx hb d_E_looks_32 (by decide) ?_
    refine lv_icmp_lt (tgt := 40) hx hb d_E_looks_35 (by decide) (fun c4 => ?_) (fun c4 => ?_)
    · have hf := ite_t c4 hf
      refine lv_aload_n hx hb d_E_looks_40 rfl (lv_at hl 1 rfl) ?_
      refine lv_dup hx hb d_E_looks_41 rfl ?_
      refine va_get (D := D) (ci := 5) (v := .int E_tries) (C := RR_E) (T := FF_E) (N := 14) hx hb hts kin_E hown hK.1 hP 13 rfl rfl 11 (by decide) (hts _ k1_146) (fun _ h9 => h9) rfl d_E_looks_42 ?_
      refine lv_iconst (v := 1) hx hb d_E_looks_45 (by decide) ?_
      refine lv_iadd hx hb d_E_looks_46 ?_
      refine lv_topi (fun x5 ex5 => ?_)
      have hf := of_nm ex5 hf
      refine va_put (D := D) (ci := 5) (v := .int x5) (ty := .int) (C := RR_E) (T := FF_E) (N := 14) hx hb hts kin_E TT_E tok_E nok_E hown hK.1 hP hD hS 13 rfl rfl 11 (by decide) (hts _ k1_146) (fun _ h9 => h9) rfl (by decide +kernel) rfl rfl (Nat.le_of_ble_eq_true rfl) d_E_looks_47 (fun H locs hP hD hS => ?_)
      have hP : va_P D vwCl (wv_37 cI cJ cZ aT aT_heads aT_places aT_olders aT_sizes aT_withins aT_newest aS aS_premises aS_premiseCounts aS_conclusions aS_order aM aM_images aM_path aE aE_goals aE_marks aE_looked aE_underway aE_met aE_takenHere T_count nT_heads T_heads nT_places T_places nT_olders T_olders nT_withins T_withins T_newest S_count S_premises S_premiseCounts S_conclusions S_order M_images E_level E_steps x5 E_taken E_first E_goals E_marks E_looked E_underway E_met E_takenHere) H := hP
      have hD : va_D A (wv_37 cI cJ cZ aT aT_heads aT_places aT_olders aT_sizes aT_withins aT_newest aS aS_premises aS_premiseCounts aS_conclusions aS_order aM aM_images aM_path aE aE_goals aE_marks aE_looked aE_underway aE_met aE_takenHere T_count nT_heads T_heads nT_places T_places nT_olders T_olders nT_withins T_withins T_newest S_count S_premises S_premiseCounts S_conclusions S_order M_images E_level E_steps x5 E_taken E_first E_goals E_marks E_looked E_underway E_met E_takenHere) := hD
      refine lv_aload_n hx hb d_E_looks_50 rfl (lv_at hl 1 rfl) ?_
      refine va_get (D := D) (ci := 5) (v := .ref aE_looked) (C := RR_E) (T := FF_E) (N := 14) hx hb hts kin_E hown hK.1 hP 13 rfl rfl 5 (by decide) (hts _ k1_140) (fun _ h9 => h9) rfl d_E_looks_51 ?_
      refine lv_aload_n hx hb d_E_looks_54 rfl (lv_at hl 1 rfl) ?_
      refine va_get (D := D) (ci := 5) (v := .int E_level) (C := RR_E) (T := FF_E) (N := 14) hx hb hts kin_E hown hK.1 hP 13 rfl rfl 9 (by decide) (hts _ k1_144) (fun _ h9 => h9) rfl d_E_looks_55 ?_
      refine lv_dup2_11 hx hb d_E_looks_58 rfl rfl ?_
      obtain ⟨h6, hf⟩ := of_gd hf
      refine va_iald hx hb hK.1 hP 16 0 rfl rfl (ixb_in h6) d_E_looks_59 ?_
      refine lv_iconst (v := 1) hx hb d_E_looks_60 (by decide) ?_
      refine lv_iadd hx hb d_E_looks_61 ?_
      obtain ⟨h7, hf⟩ := of_gd hf
      obtain ⟨g8, eg8⟩ : ∃ y : Nat → Int32, y = upd E_looked E_level.toNatClampNeg ((E_looked E_level.toNatClampNeg) + (1 : Int32)) := ⟨_, rfl⟩
      have hf := of_nm eg8 hf
      refine va_iast hx hb hK.1 hP hD hS 16 0 rfl rfl (ixb_in h7) d_E_looks_62 (fun H locs hP hD hS => ?_)
      rw [← eg8] at hP hD
      have hP : va_P D vwCl (wv_37 cI cJ cZ aT aT_heads aT_places aT_olders aT_sizes aT_withins aT_newest aS aS_premises aS_premiseCounts aS_conclusions aS_order aM aM_images aM_path aE aE_goals aE_marks aE_looked aE_underway aE_met aE_takenHere T_count nT_heads T_heads nT_places T_places nT_olders T_olders nT_withins T_withins T_newest S_count S_premises S_premiseCounts S_conclusions S_order M_images E_level E_steps x5 E_taken E_first E_goals E_marks g8 E_underway E_met E_takenHere) H := hP
      have hD : va_D A (wv_37 cI cJ cZ aT aT_heads aT_places aT_olders aT_sizes aT_withins aT_newest aS aS_premises aS_premiseCounts aS_conclusions aS_order aM aM_images aM_path aE aE_goals aE_marks aE_looked aE_underway aE_met aE_takenHere T_count nT_heads T_heads nT_places T_places nT_olders T_olders nT_withins T_withins T_newest S_count S_premises S_premiseCounts S_conclusions S_order M_images E_level E_steps x5 E_taken E_first E_goals E_marks g8 E_underway E_met E_takenHere) := hD
      refine lv_aload_n hx hb d_E_looks_63 rfl (lv_at hl 1 rfl) ?_
      refine va_get (D := D) (ci := 5) (v := .ref aS) (C := RR_E) (T := FF_E) (N := 14) hx hb hts kin_E hown hK.1 hP 13 rfl rfl 1 (by decide) (hts _ k1_136) (fun _ h9 => h9) rfl d_E_looks_64 ?_
      refine lv_iload_n hx hb d_E_looks_67 rfl (lv_at hl 0 rfl) ?_
      refine lv_aload_n hx hb d_E_looks_68 rfl (lv_at hl 1 rfl) ?_
      refine va_get (D := D) (ci := 5) (v := .ref aT) (C := RR_E) (T := FF_E) (N := 14) hx hb hts kin_E hown hK.1 hP 13 rfl rfl 0 (by decide) (hts _ k1_135) (fun _ h9 => h9) rfl d_E_looks_69 ?_
      obtain ⟨r9, hr9, hf⟩ := of_bd hf
      refine rd_call (va_runV (As := [.int r2, .ref aT]) (rest := []) ⟨hx, hb, hml, hown, hts⟩ (c_S_openVariables l D cI cJ cZ aT aT_heads aT_places aT_olders aT_sizes aT_withins aT_newest aS aS_premises aS_premiseCounts aS_conclusions aS_order T_count nT_withins T_withins S_count S_premises S_premiseCounts S_conclusions r2 r9 hr9) (bigV 2 hts k4_3 k3_129 k3_130 k1_4 k3_131 rfl rfl hd_S_openVariables ⟨Nat.le_of_ble_eq_true rfl, Nat.le_of_ble_eq_true rfl⟩) (rd_preV hK hP [0, 4, 6, 7, 8, 9] rfl 6 rfl rfl rfl) rfl rfl hl.1 rfl (lv_room (Nat.le_of_ble_eq_true rfl)) d_E_looks_72 ⟨Nat.le_of_ble_eq_true rfl, Nat.le_of_ble_eq_true rfl⟩) ?_
      refine lv_if_ne (tgt := 138) hx hb d_E_looks_75 (by decide) (fun c10 => ?_) (fun c10 => ?_)
      · have hf := ite_f c10 hf
        refine lv_iconst (v := 1) hx hb d_E_looks_138 (by decide) ?_
        obtain rfl := Option.some.inj hf
        exact W.zret (v := (1 : Int32)) hx hb hr rfl (fun t ht hW => ⟨rfl, by rw [ht]; exact hP, hD, hS.F ht⟩) hS.2.2 d_E_looks_139
      · have hf := ite_t c10 hf
        refine lv_aload_n hx hb d_E_looks_78 rfl (lv_at hl 1 rfl) ?_
        refine va_get (D := D) (ci := 5) (v := .ref aM) (C := RR_E) (T := FF_E) (N := 14) hx hb hts kin_E hown hK.1 hP 13 rfl rfl 2 (by decide) (hts _ k1_137) (fun _ h9 => h9) rfl d_E_looks_79 ?_
        refine lv_aload_n hx hb d_E_looks_82 rfl (lv_at hl 1 rfl) ?_
        refine va_get (D := D) (ci := 5) (v := .ref aS) (C := RR_E) (T := FF_E) (N := 14) hx hb hts kin_E hown hK.1 hP 13 rfl rfl 1 (by decide) (hts _ k1_136) (fun _ h9 => h9) rfl d_E_looks_83 ?_
        refine lv_iload_n hx hb d_E_looks_86 rfl (lv_at hl 0 rfl) ?_
        obtain ⟨r11, hr11, hf⟩ := of_bd hf
        refine rd_call (va_runV (As := [.int r2]) (rest := [.ref aM]) ⟨hx, hb, hml, hown, hts⟩ (c_S_conclusion l D cI cJ cZ aS aS_premises aS_premiseCounts aS_conclusions aS_order S_count S_conclusions r2 r11 hr11) (bigV 1 hts k4_4 k2_101 k2_102 k1_4 k2_103 rfl rfl hd_S_conclusion ⟨Nat.le_of_ble_eq_true rfl, Nat.le_of_ble_eq_true rfl⟩) (rd_preV hK hP [6, 9] rfl 6 rfl rfl rfl) rfl rfl hl.1 rfl (lv_room (Nat.le_of_ble_eq_true rfl)) d_E_looks_87 ⟨Nat.le_of_ble_eq_true rfl, Nat.le_of_ble_eq_true rfl⟩) ?_
        refine lv_aload_n hx hb d_E_looks_90 rfl (lv_at hl 1 rfl) ?_
        refine va_get (D := D) (ci := 5) (v := .ref aE_goals) (C := RR_E) (T := FF_E) (N := 14) hx hb hts kin_E hown hK.1 hP 13 rfl rfl 3 (by decide) (hts _ k1_138) (fun _ h9 => h9) rfl d_E_looks_91 ?_
        refine lv_aload_n hx hb d_E_looks_94 rfl (lv_at hl 1 rfl) ?_
        refine va_get (D := D) (ci := 5) (v := .int E_level) (C := RR_E) (T := FF_E) (N := 14) hx hb hts kin_E hown hK.1 hP 13 rfl rfl 9 (by decide) (hts _ k1_144) (fun _ h9 => h9) rfl d_E_looks_95 ?_
        obtain ⟨h12, hf⟩ := of_gd hf
        refine va_iald hx hb hK.1 hP 14 0 rfl rfl (ixb_in h12) d_E_looks_98 ?_
        refine lv_ldc2 (v := 273804165120) hx hb hown (hts _ k4_5) d_E_looks_99 ?_
        obtain ⟨r13, hr13, hf⟩ := of_bd hf
        refine wr_call (ws' := (wv_37 cI cJ cZ aT aT_heads aT_places aT_olders aT_sizes aT_withins aT_newest aS aS_premises aS_premiseCounts aS_conclusions aS_order aM aM_images aM_path aE aE_goals aE_marks aE_looked aE_underway aE_met aE_takenHere T_count nT_heads T_heads nT_places T_places nT_olders T_olders nT_withins T_withins T_newest S_count S_premises S_premiseCounts S_conclusions S_order r13.2 E_level E_steps x5 E_taken E_first E_goals E_marks g8 E_underway E_met E_takenHere)) (va_runV (As := [.int r11, .int (E_goals E_level.toNatClampNeg), .long (273804165120 : Int64)]) (rest := []) ⟨hx, hb, hml, hown, hts⟩ (c_M_matches l D cI cJ cZ aT aT_heads aT_places aT_olders aT_sizes aT_withins aT_newest aM aM_images aM_path _ T_count nT_heads T_heads nT_places T_places nT_withins T_withins M_images r11 (E_goals E_level.toNatClampNeg) (273804165120 : Int64) r13 hr13) (bigV 3 hts k4_6 k2_59 k2_60 k1_5 k2_61 rfl rfl hd_M_matches ⟨Nat.le_of_ble_eq_true rfl, Nat.le_of_ble_eq_true rfl⟩) (wr_preV hK hP hD [0, 1, 2, 4, 11, 12] rfl (by decide) rfl 11 rfl rfl rfl) rfl rfl hl.1 rfl (lv_room (Nat.le_of_ble_eq_true rfl)) d_E_looks_102 ⟨Nat.le_of_ble_eq_true rfl, Nat.le_of_ble_eq_true rfl⟩) hP hD hS hA [0, 1, 2, 4, 11, 12] [3, 5, 6, 7, 8, 9, 10, 13, 14, 15, 16, 17, 18, 19] rfl rfl (by decide) (by decide) [14, 15, 16, 0, 17, 1, 2, 3, 4, 5, 6, 18, 19, 7, 8, 9, 10, 11, 12, 13] (by decide) rfl (fun H locs hP hD hS => ?_)
        refine lv_if_eq (tgt := 138) hx hb d_E_looks_105 (by decide) (fun c14 => ?_) (fun c14 => ?_)
        · have hf := ite_t c14 hf
          refine lv_iconst (v := 1) hx hb d_E_looks_138 (by decide) ?_
          obtain rfl := Option.some.inj hf
          exact W.zret (v := (1 : Int32)) hx hb hr rfl (fun t ht hW => ⟨rfl, by rw [ht]; exact hP, hD, hS.F ht⟩) hS.2.2 d_E_looks_139
        · have hf := ite_f c14 hf
          refine lv_aload_n hx hb d_E_looks_108 rfl (lv_at hl 1 rfl) ?_
          refine va_get (D := D) (ci := 5) (v := .ref aE_underway) (C := RR_E) (T := FF_E) (N := 14) hx hb hts kin_E hown hK.1 hP 13 rfl rfl 6 (by decide) (hts _ k1_141) (fun _ h9 => h9) rfl d_E_looks_109 ?_
          refine lv_aload_n hx hb d_E_looks_112 rfl (lv_at hl 1 rfl) ?_
          refine va_get (D := D) (ci := 5) (v := .int E_level) (C := RR_E) (T := FF_E) (N := 14) hx hb hts kin_E hown hK.1 hP 13 rfl rfl 9 (by decide) (hts _ k1_144) (fun _ h9 => h9) rfl d_E_looks_113 ?_
          refine lv_iload_n hx hb d_E_looks_116 rfl (lv_at hl 0 rfl) ?_
          obtain ⟨h15, hf⟩ := of_gd hf
          obtain ⟨g16, eg16⟩ : ∃ y : Nat → Int32, y = upd E_underway E_level.toNatClampNeg r2 := ⟨_, rfl⟩
          have hf := of_nm eg16 hf
          refine va_iast hx hb hK.1 hP hD hS 17 0 rfl rfl (ixb_in h15) d_E_looks_117 (fun H locs hP hD hS => ?_)
          rw [← eg16] at hP hD
          have hP : va_P D vwCl (wv_37 cI cJ cZ aT aT_heads aT_places aT_olders aT_sizes aT_withins aT_newest aS aS_premises aS_premiseCounts aS_conclusions aS_order aM aM_images aM_path aE aE_goals aE_marks aE_looked aE_underway aE_met aE_takenHere T_count nT_heads T_heads nT_places T_places nT_olders T_olders nT_withins T_withins T_newest S_count S_premises S_premiseCounts S_conclusions S_order r13.2 E_level E_steps x5 E_taken E_first E_goals E_marks g8 g16 E_met E_takenHere) H := hP
          have hD : va_D A (wv_37 cI cJ cZ aT aT_heads aT_places aT_olders aT_sizes aT_withins aT_newest aS aS_premises aS_premiseCounts aS_conclusions aS_order aM aM_images aM_path aE aE_goals aE_marks aE_looked aE_underway aE_met aE_takenHere T_count nT_heads T_heads nT_places T_places nT_olders T_olders nT_withins T_withins T_newest S_count S_premises S_premiseCounts S_conclusions S_order r13.2 E_level E_steps x5 E_taken E_first E_goals E_marks g8 g16 E_met E_takenHere) := hD
          refine lv_aload_n hx hb d_E_looks_118 rfl (lv_at hl 1 rfl) ?_
          refine va_get (D := D) (ci := 5) (v := .ref aE_met) (C := RR_E) (T := FF_E) (N := 14) hx hb hts kin_E hown hK.1 hP 13 rfl rfl 7 (by decide) (hts _ k1_142) (fun _ h9 => h9) rfl d_E_looks_119 ?_
          refine lv_aload_n hx hb d_E_looks_122 rfl (lv_at hl 1 rfl) ?_
          refine va_get (D := D) (ci := 5) (v := .int E_level) (C := RR_E) (T := FF_E) (N := 14) hx hb hts kin_E hown hK.1 hP 13 rfl rfl 9 (by decide) (hts _ k1_144) (fun _ h9 => h9) rfl d_E_looks_123 ?_
          refine lv_iconst (v := 0) hx hb d_E_looks_126 (by decide) ?_
          obtain ⟨h17, hf⟩ := of_gd hf
          obtain ⟨g18, eg18⟩ : ∃ y : Nat → Int32, y = upd E_met E_level.toNatClampNeg (0 : Int32) := ⟨_, rfl⟩
          have hf := of_nm eg18 hf
          refine va_iast hx hb hK.1 hP hD hS 18 0 rfl rfl (ixb_in h17) d_E_looks_127 (fun H locs hP hD hS => ?_)
          rw [← eg18] at hP hD
          have hP : va_P D vwCl (wv_37 cI cJ cZ aT aT_heads aT_places aT_olders aT_sizes aT_withins aT_newest aS aS_premises aS_premiseCounts aS_conclusions aS_order aM aM_images aM_path aE aE_goals aE_marks aE_looked aE_underway aE_met aE_takenHere T_count nT_heads T_heads nT_places T_places nT_olders T_olders nT_withins T_withins T_newest S_count S_premises S_premiseCounts S_conclusions S_order r13.2 E_level E_steps x5 E_taken E_first E_goals E_marks g8 g16 g18 E_takenHere) H := hP
          have hD : va_D A (wv_37 cI cJ cZ aT aT_heads aT_places aT_olders aT_sizes aT_withins aT_newest aS aS_premises aS_premiseCounts aS_conclusions aS_order aM aM_images aM_path aE aE_goals aE_marks aE_looked aE_underway aE_met aE_takenHere T_count nT_heads T_heads nT_places T_places nT_olders T_olders nT_withins T_withins T_newest S_count S_premises S_premiseCounts S_conclusions S_order r13.2 E_level E_steps x5 E_taken E_first E_goals E_marks g8 g16 g18 E_takenHere) := hD
          refine lv_aload_n hx hb d_E_looks_128 rfl (lv_at hl 1 rfl) ?_
          refine va_get (D := D) (ci := 5) (v := .ref aE_takenHere) (C := RR_E) (T := FF_E) (N := 14) hx hb hts kin_E hown hK.1 hP 13 rfl rfl 8 (by decide) (hts _ k1_143) (fun _ h9 => h9) rfl d_E_looks_129 ?_
          refine lv_aload_n hx hb d_E_looks_132 rfl (lv_at hl 1 rfl) ?_
          refine va_get (D := D) (ci := 5) (v := .int E_level) (C := RR_E) (T := FF_E) (N := 14) hx hb hts kin_E hown hK.1 hP 13 rfl rfl 9 (by decide) (hts _ k1_144) (fun _ h9 => h9) rfl d_E_looks_133 ?_
          refine lv_iconst (v := 1) hx hb d_E_looks_136 (by decide) ?_
          obtain ⟨h19, hf⟩ := of_gd hf
          obtain ⟨g20, eg20⟩ : ∃ y : Nat → Int32, y = upd E_takenHere E_level.toNatClampNeg (1 : Int32) := ⟨_, rfl⟩
          have hf := of_nm eg20 hf
          refine va_iast hx hb hK.1 hP hD hS 19 0 rfl rfl (ixb_in h19) d_E_looks_137 (fun H locs hP hD hS => ?_)
          rw [← eg20] at hP hD
          have hP : va_P D vwCl (wv_37 cI cJ cZ aT aT_heads aT_places aT_olders aT_sizes aT_withins aT_newest aS aS_premises aS_premiseCounts aS_conclusions aS_order aM aM_images aM_path aE aE_goals aE_marks aE_looked aE_underway aE_met aE_takenHere T_count nT_heads T_heads nT_places T_places nT_olders T_olders nT_withins T_withins T_newest S_count S_premises S_premiseCounts S_conclusions S_order r13.2 E_level E_steps x5 E_taken E_first E_goals E_marks g8 g16 g18 g20) H := hP
          have hD : va_D A (wv_37 cI cJ cZ aT aT_heads aT_places aT_olders aT_sizes aT_withins aT_newest aS aS_premises aS_premiseCounts aS_conclusions aS_order aM aM_images aM_path aE aE_goals aE_marks aE_looked aE_underway aE_met aE_takenHere T_count nT_heads T_heads nT_places T_places nT_olders T_olders nT_withins T_withins T_newest S_count S_premises S_premiseCounts S_conclusions S_order r13.2 E_level E_steps x5 E_taken E_first E_goals E_marks g8 g16 g18 g20) := hD
          refine lv_iconst (v := 1) hx hb d_E_looks_138 (by decide) ?_
          obtain rfl := Option.some.inj hf
          exact W.zret (v := (1 : Int32)) hx hb hr rfl (fun t ht hW => ⟨rfl, by rw [ht]; exact hP, hD, hS.F ht⟩) hS.2.2 d_E_looks_139
    · have hf := ite_f c4 hf
      refine lv_iconst (v := 0) hx hb d_E_looks_38 (by decide) ?_
      obtain rfl := Option.some.inj hf
      exact W.zret (v := (0 : Int32)) hx hb hr rfl (fun t ht hW => ⟨rfl, by rw [ht]; exact hP, hD, hS.F ht⟩) hS.2.2 d_E_looks_39
  · have hf := ite_t c3 hf
    refine lv_aload_n hx hb d_E_looks_22 rfl (lv_at hl 1 rfl) ?_
    obtain ⟨r21, hr21, hf⟩ := of_bd hf
    refine wr_call (ws' := (wv_37 cI cJ cZ aT aT_heads aT_places aT_olders aT_sizes aT_withins aT_newest aS aS_premises aS_premiseCounts aS_conclusions aS_order aM aM_images aM_path aE aE_goals aE_marks aE_looked aE_underway aE_met aE_takenHere r21.1 nT_heads T_heads nT_places T_places nT_olders T_olders nT_withins T_withins r21.2.1 S_count S_premises S_premiseCounts S_conclusions S_order M_images r21.2.2.1 E_steps E_tries E_taken E_first E_goals E_marks E_looked r21.2.2.2 E_met E_takenHere)) (va_runV (As := []) (rest := []) ⟨hx, hb, hml, hown, hts⟩ (c_E_giveUp l D cI cJ cZ aT aT_heads aT_places aT_olders aT_sizes aT_withins aT_newest aS aM aE aE_goals aE_marks aE_looked aE_underway aE_met aE_takenHere _ T_count nT_heads T_heads nT_places T_places nT_olders T_olders T_newest E_level E_steps E_tries E_taken E_first E_marks E_underway r21 hr21) (bigV 0 hts k3_231 k3_233 ks_E_giveUp k1_7 k3_234 rfl rfl hd_E_giveUp ⟨Nat.le_of_ble_eq_true rfl, Nat.le_of_ble_eq_true rfl⟩) (wr_preV hK hP hD [0, 1, 2, 3, 5, 13, 15, 17] rfl (by decide) rfl 13 rfl rfl rfl) rfl rfl hl.1 rfl (lv_room (Nat.le_of_ble_eq_true rfl)) d_E_looks_23 ⟨Nat.le_of_ble_eq_true rfl, Nat.le_of_ble_eq_true rfl⟩) hP hD hS hA [0, 1, 2, 3, 5, 13, 15, 17] [4, 6, 7, 8, 9, 10, 11, 12, 14, 16, 18, 19] rfl rfl (by decide) (by decide) [12, 13, 14, 15, 0, 16, 1, 2, 3, 4, 5, 6, 7, 17, 8, 18, 9, 19, 10, 11] (by decide) rfl (fun H locs hP hD hS => ?_)
    refine lv_iconst (v := 1) hx hb d_E_looks_26 (by decide) ?_
    obtain rfl := Option.some.inj hf
    exact W.zret (v := (1 : Int32)) hx hb hr rfl (fun t ht hW => ⟨rfl, by rw [ht]; exact hP, hD, hS.F ht⟩) hS.2.2 d_E_looks_27
def f_E_succeed (T_count : Int32) (nT_heads : Nat) (T_heads : (Nat → Int32)) (nT_places : Nat) (T_places : (Nat → Int32)) (nT_olders : Nat) (T_olders : (Nat → Int32)) (T_newest : (Nat → Int32)) (E_level : Int32) (E_taken : Int32) (E_first : Int32) (E_marks : (Nat → Int32)) (E_met : (Nat → Int32)) (E_takenHere : (Nat → Int32)) (p0 : Int32) : Option (Int32 × (Nat → Int32) × Int32 × Int32 × Int32 × (Nat → Int32) × (Nat → Int32)) :=
  gd (ixb E_level 100) <|
  nm (E_takenHere E_level.toNatClampNeg) fun x2 =>
  gd (ixb E_level 100) <|
  (f_T_keepBelow T_count nT_heads T_heads nT_places T_places nT_olders T_olders T_newest (E_marks E_level.toNatClampNeg)).bind fun r4 =>
  nm (E_level - (1 : Int32)) fun x5 =>
  if x5 < 0 then
    some (r4.1, r4.2, x5, x2, p0, E_met, E_takenHere)
  else
    gd (ixb x5 100) <|
    gd (ixb x5 100) <| nm (upd E_met x5.toNatClampNeg ((E_met x5.toNatClampNeg) + (1 : Int32))) fun g9 =>
    gd (ixb x5 100) <|
    gd (ixb x5 100) <| nm (upd E_takenHere x5.toNatClampNeg ((E_takenHere x5.toNatClampNeg) + x2)) fun g12 =>
    some (r4.1, r4.2, x5, E_taken, E_first, g9, g12)
abbrev rm_E_succeed : Room := { frames := 2, cells := 0, slots := 0, locals := 46 }
set_option maxHeartbeats 4000000 in
set_option maxRecDepth 100000 in
theorem c_E_succeed (l : Launch) (D : va_G) (cI cJ cZ : ClassId) (aT aT_heads aT_places aT_olders aT_sizes aT_withins aT_newest aS aM aE aE_goals aE_marks aE_looked aE_underway aE_met aE_takenHere : Nat) (sz : Nat) (T_count : Int32) (nT_heads : Nat) (T_heads : (Nat → Int32)) (nT_places : Nat) (T_places : (Nat → Int32)) (nT_olders : Nat) (T_olders : (Nat → Int32)) (T_newest : (Nat → Int32)) (E_level : Int32) (E_steps : Int32) (E_tries : Int32) (E_taken : Int32) (E_first : Int32) (E_marks : (Nat → Int32)) (E_met : (Nat → Int32)) (E_takenHere : (Nat → Int32)) (p0 : Int32) (o : Int32 × (Nat → Int32) × Int32 × Int32 × Int32 × (Nat → Int32) × (Nat → Int32)) (hf : f_E_succeed T_count nT_heads T_heads nT_places T_places nT_olders T_olders T_newest E_level E_taken E_first E_marks E_met E_takenHere p0 = some o) : Met l y_E_succeed (ws_E_succeed) rm_E_succeed (WPc D vwCl cI cJ cZ [.ref aE, .int p0] (wv_38 cI cJ cZ aT aT_heads aT_places aT_olders aT_sizes aT_withins aT_newest aS aM aE aE_goals aE_marks aE_looked aE_underway aE_met aE_takenHere T_count nT_heads T_heads nT_places T_places nT_olders T_olders T_newest E_level E_steps E_tries E_taken E_first E_marks E_met E_takenHere) sz) (WQ D vwCl none (wv_38 cI cJ cZ aT aT_heads aT_places aT_olders aT_sizes aT_withins aT_newest aS aM aE aE_goals aE_marks aE_looked aE_underway aE_met aE_takenHere o.1 nT_heads T_heads nT_places T_places nT_olders T_olders o.2.1 o.2.2.1 E_steps E_tries o.2.2.2.1 o.2.2.2.2.1 E_marks o.2.2.2.2.2.1 o.2.2.2.2.2.2) (va_A (wv_38 cI cJ cZ aT aT_heads aT_places aT_olders aT_sizes aT_withins aT_newest aS aM aE aE_goals aE_marks aE_looked aE_underway aE_met aE_takenHere T_count nT_heads T_heads nT_places T_places nT_olders T_olders T_newest E_level E_steps E_tries E_taken E_first E_marks E_met E_takenHere) sz)) 0 0 (va_A (wv_38 cI cJ cZ aT aT_heads aT_places aT_olders aT_sizes aT_withins aT_newest aS aM aE aE_goals aE_marks aE_looked aE_underway aE_met aE_takenHere T_count nT_heads T_heads nT_places T_places nT_olders T_olders T_newest E_level E_steps E_tries E_taken E_first E_marks E_met E_takenHere) sz) := by
  refine Met.ofW (cc := b_E_succeed) (maxL := 3) (ret := none) (by decide) rfl ?_
  intro p e s m args below meth c s₁ B hml hv
  obtain ⟨rfl, rfl, hP, hK, hD0⟩ := hv
  have hx := B.exec
  have hb := B.bytes
  have hr := B.returns
  have hts : ∀ w ∈ BG, w.before _ s = true := fun w h => atoms_spec (ws := (ws_E_succeed)) B.pre w (List.mem_cons_of_mem _ h)
  have hown : s.vm.findClass RR_E = some m.cls := findClass_of_methodNamed B.named
  have hlocks := B.notSynchronized
  have hD := hD0.self (sz := s.heap.size)
  have hA : ∀ q : Nat, s.heap.size ≤ q → va_A (wv_38 cI cJ cZ aT aT_heads aT_places aT_olders aT_sizes aT_withins aT_newest aS aM aE aE_goals aE_marks aE_looked aE_underway aE_met aE_takenHere T_count nT_heads T_heads nT_places T_places nT_olders T_olders T_newest E_level E_steps E_tries E_taken E_first E_marks E_met E_takenHere) s.heap.size q := fun q h => Or.inr h
  have hS : va_S (va_A (wv_38 cI cJ cZ aT aT_heads aT_places aT_olders aT_sizes aT_withins aT_newest aS aM aE aE_goals aE_marks aE_looked aE_underway aE_met aE_takenHere T_count nT_heads T_heads nT_places T_places nT_olders T_olders T_newest E_level E_steps E_tries E_taken E_first E_marks E_met E_takenHere) s.heap.size) s.heap s.heap [] := va_S.rf
  generalize va_A (wv_38 cI cJ cZ aT aT_heads aT_places aT_olders aT_sizes aT_withins aT_newest aS aM aE aE_goals aE_marks aE_looked aE_underway aE_met aE_takenHere T_count nT_heads T_heads nT_places T_places nT_olders T_olders T_newest E_level E_steps E_tries E_taken E_first E_marks E_met E_takenHere) s.heap.size = A at hD hA hS ⊢
  have hl := lv_entry ([.ref aE, .int p0]) (n := 3) (Nat.le_of_ble_eq_true rfl)
  rw [lg_entry_eq]
  generalize (lg_sl ([.ref aE, .int p0]) ++ List.replicate (3 - (lg_sl ([.ref aE, .int p0])).length) Slot.unset).toArray = ls at hl ⊢
  have hl : lv_has ls 3 [(0, .ref aE), (1, .int p0)] := hl
  rw [f_E_succeed] at hf
  refine lv_aload_n hx hb d_E_succeed_0 rfl (lv_at hl 0 rfl) ?_
  refine va_get (D := D) (ci := 5) (v := .ref aE_takenHere) (C := RR_E) (T := FF_E) (N := 14) hx hb hts kin_E hown hK.1 hP 5 rfl rfl 8 (by decide) (hts _ k1_143) (fun _ h9 => h9) rfl d_E_succeed_1 ?_
  refine lv_aload_n hx hb d_E_succeed_4 rfl (lv_at hl 0 rfl) ?_
  refine va_get (D := D) (ci := 5) (v := .int E_level) (C := RR_E) (T := FF_E) (N := 14) hx hb hts kin_E hown hK.1 hP 5 rfl rfl 9 (by decide) (hts _ k1_144) (fun _ h9 => h9) rfl d_E_succeed_5 ?_
  obtain ⟨h1, hf⟩ := of_gd hf
  refine va_iald hx hb hK.1 hP 8 0 rfl rfl (ixb_in h1) d_E_succeed_8 ?_
  refine lv_topi (fun x2 ex2 => ?_)
  have hf := of_nm ex2 hf
  refine lv_istore_n (lv' := [(2, .int x2), (0, .ref aE), (1, .int p0)]) hx hb d_E_succeed_9 rfl hl (by decide) rfl (fun ls hl => ?_)
  refine lv_aload_n hx hb d_E_succeed_10 rfl (lv_at hl 1 rfl) ?_
  refine va_get (D := D) (ci := 5) (v := .ref aT) (C := RR_E) (T := FF_E) (N := 14) hx hb hts kin_E hown hK.1 hP 5 rfl rfl 0 (by decide) (hts _ k1_135) (fun _ h9 => h9) rfl d_E_succeed_11 ?_
  refine lv_aload_n hx hb d_E_succeed_14 rfl (lv_at hl 1 rfl) ?_
  refine va_get (D := D) (ci := 5) (v := .ref aE_marks) (C := RR_E) (T := FF_E) (N := 14) hx hb hts kin_E hown hK.1 hP 5 rfl rfl 4 (by decide) (hts _ k1_139) (fun _ h9 => h9) rfl d_E_succeed_15 ?_
  refine lv_aload_n hx hb d_E_succeed_18 rfl (lv_at hl 1 rfl) ?_
  refine va_get (D := D) (ci := 5) (v := .int E_level) (C := RR_E) (T := FF_E) (N := 14) hx hb hts kin_E hown hK.1 hP 5 rfl rfl 9 (by decide) (hts _ k1_144) (fun _ h9 => h9) rfl d_E_succeed_19 ?_
  obtain ⟨h3, hf⟩ := of_gd hf
  refine va_iald hx hb hK.1 hP 6 0 rfl rfl (ixb_in h3) d_E_succeed_22 ?_
  obtain ⟨r4, hr4, hf⟩ := of_bd hf
  refine wr_call (ws' := (wv_38 cI cJ cZ aT aT_heads aT_places aT_olders aT_sizes aT_withins aT_newest aS aM aE aE_goals aE_marks aE_looked aE_underway aE_met aE_takenHere r4.1 nT_heads T_heads nT_places T_places nT_olders T_olders r4.2 E_level E_steps E_tries E_taken E_first E_marks E_met E_takenHere)) (va_runV (As := [.int (E_marks E_level.toNatClampNeg)]) (rest := []) ⟨hx, hb, hml, hown, hts⟩ (c_T_keepBelow l D cI cJ cZ aT aT_heads aT_places aT_olders aT_sizes aT_withins aT_newest _ T_count nT_heads T_heads nT_places T_places nT_olders T_olders T_newest (E_marks E_level.toNatClampNeg) r4 hr4) (bigV 1 hts k3_235 k3_236 k3_237 k1_2 k3_238 rfl rfl hd_T_keepBelow ⟨Nat.le_of_ble_eq_true rfl, Nat.le_of_ble_eq_true rfl⟩) (wr_preV hK hP hD [0, 1, 2, 3, 4] rfl (by decide) rfl 0 rfl rfl rfl) rfl rfl hl.1 rfl (lv_room (Nat.le_of_ble_eq_true rfl)) d_E_succeed_23 ⟨Nat.le_of_ble_eq_true rfl, Nat.le_of_ble_eq_true rfl⟩) hP hD hS hA [0, 1, 2, 3, 4] [5, 6, 7, 8] rfl rfl (by decide) (by decide) [4, 5, 6, 7, 8, 0, 1, 2, 3] (by decide) rfl (fun H locs hP hD hS => ?_)
  refine lv_aload_n hx hb d_E_succeed_26 rfl (lv_at hl 1 rfl) ?_
  refine lv_dup hx hb d_E_succeed_27 rfl ?_
  refine va_get (D := D) (ci := 5) (v := .int E_level) (C := RR_E) (T := FF_E) (N := 14) hx hb hts kin_E hown hK.1 hP 5 rfl rfl 9 (by decide) (hts _ k1_144) (fun _ h9 => h9) rfl d_E_succeed_28 ?_
  refine lv_iconst (v := 1) hx hb d_E_succeed_31 (by decide) ?_
  refine lv_isub hx hb d_E_succeed_32 ?_
  refine lv_topi (fun x5 ex5 => ?_)
  have hf := of_nm ex5 hf
  refine va_put (D := D) (ci := 5) (v := .int x5) (ty := .int) (C := RR_E) (T := FF_E) (N := 14) hx hb hts kin_E TT_E tok_E nok_E hown hK.1 hP hD hS 5 rfl rfl 9 (by decide) (hts _ k1_144) (fun _ h9 => h9) rfl (by decide +kernel) rfl rfl (Nat.le_of_ble_eq_true rfl) d_E_succeed_33 (fun H locs hP hD hS => ?_)
  have hP : va_P D vwCl (wv_38 cI cJ cZ aT aT_heads aT_places aT_olders aT_sizes aT_withins aT_newest aS aM aE aE_goals aE_marks aE_looked aE_underway aE_met aE_takenHere r4.1 nT_heads T_heads nT_places T_places nT_olders T_olders r4.2 x5 E_steps E_tries E_taken E_first E_marks E_met E_takenHere) H := hP
  have hD : va_D A (wv_38 cI cJ cZ aT aT_heads aT_places aT_olders aT_sizes aT_withins aT_newest aS aM aE aE_goals aE_marks aE_looked aE_underway aE_met aE_takenHere r4.1 nT_heads T_heads nT_places T_places nT_olders T_olders r4.2 x5 E_steps E_tries E_taken E_first E_marks E_met E_takenHere) := hD
  refine lv_aload_n hx hb d_E_succeed_36 rfl (lv_at hl 1 rfl) ?_
  refine va_get (D := D) (ci := 5) (v := .int x5) (C := RR_E) (T := FF_E) (N := 14) hx hb hts kin_E hown hK.1 hP 5 rfl rfl 9 (by decide) (hts _ k1_144) (fun _ h9 => h9) rfl d_E_succeed_37 ?_
  refine lv_if_lt (tgt := 72) hx hb d_E_succeed_40 (by decide) (fun c6 => ?_) (fun c6 => ?_)
  · have hf := ite_t c6 hf
    refine lv_aload_n hx hb d_E_succeed_72 rfl (lv_at hl 1 rfl) ?_
    refine lv_iload_n hx hb d_E_succeed_73 rfl (lv_at hl 0 rfl) ?_
    refine va_put (D := D) (ci := 5) (v := .int x2) (ty := .int) (C := RR_E) (T := FF_E) (N := 14) hx hb hts kin_E TT_E tok_E nok_E hown hK.1 hP hD hS 5 rfl rfl 12 (by decide) (hts _ k1_147) (fun _ h9 => h9) rfl (by decide +kernel) rfl rfl (Nat.le_of_ble_eq_true rfl) d_E_succeed_74 (fun H locs hP hD hS => ?_)
    have hP : va_P D vwCl (wv_38 cI cJ cZ aT aT_heads aT_places aT_olders aT_sizes aT_withins aT_newest aS aM aE aE_goals aE_marks aE_looked aE_underway aE_met aE_takenHere r4.1 nT_heads T_heads nT_places T_places nT_olders T_olders r4.2 x5 E_steps E_tries x2 E_first E_marks E_met E_takenHere) H := hP
    have hD : va_D A (wv_38 cI cJ cZ aT aT_heads aT_places aT_olders aT_sizes aT_withins aT_newest aS aM aE aE_goals aE_marks aE_looked aE_underway aE_met aE_takenHere r4.1 nT_heads T_heads nT_places T_places nT_olders T_olders r4.2 x5 E_steps E_tries x2 E_first E_marks E_met E_takenHere) := hD
    refine lv_aload_n hx hb d_E_succeed_77 rfl (lv_at hl 1 rfl) ?_
    refine lv_iload_n hx hb d_E_succeed_78 rfl (lv_at hl 2 rfl) ?_
    refine va_put (D := D) (ci := 5) (v := .int p0) (ty := .int) (C := RR_E) (T := FF_E) (N := 14) hx hb hts kin_E TT_E tok_E nok_E hown hK.1 hP hD hS 5 rfl rfl 13 (by decide) (hts _ k1_148) (fun _ h9 => h9) rfl (by decide +kernel) rfl rfl (Nat.le_of_ble_eq_true rfl) d_E_succeed_79 (fun H locs hP hD hS => ?_)
    have hP : va_P D vwCl (wv_38 cI cJ cZ aT aT_heads aT_places aT_olders aT_sizes aT_withins aT_newest aS aM aE aE_goals aE_marks aE_looked aE_underway aE_met aE_takenHere r4.1 nT_heads T_heads nT_places T_places nT_olders T_olders r4.2 x5 E_steps E_tries x2 p0 E_marks E_met E_takenHere) H := hP
    have hD : va_D A (wv_38 cI cJ cZ aT aT_heads aT_places aT_olders aT_sizes aT_withins aT_newest aS aM aE aE_goals aE_marks aE_looked aE_underway aE_met aE_takenHere r4.1 nT_heads T_heads nT_places T_places nT_olders T_olders r4.2 x5 E_steps E_tries x2 p0 E_marks E_met E_takenHere) := hD
    obtain rfl := Option.some.inj hf
    exact W.vret hx hb hr (fun t ht hW => ⟨rfl, by rw [ht]; exact hP, hD, hS.F ht⟩) hS.2.2 d_E_succeed_82
  · have hf := ite_f c6 hf
    refine lv_aload_n hx hb d_E_succeed_43 rfl (lv_at hl 1 rfl) ?_
    refine va_get (D := D) (ci := 5) (v := .ref aE_met) (C := RR_E) (T := FF_E) (N := 14) hx hb hts kin_E hown hK.1 hP 5 rfl rfl 7 (by decide) (hts _ k1_142) (fun _ h9 => h9) rfl d_E_succeed_44 ?_
    refine lv_aload_n hx hb d_E_succeed_47 rfl (lv_at hl 1 rfl) ?_
    refine va_get (D := D) (ci := 5) (v := .int x5) (C := RR_E) (T := FF_E) (N := 14) hx hb hts kin_E hown hK.1 hP 5 rfl rfl 9 (by decide) (hts _ k1_144) (fun _ h9 => h9) rfl d_E_succeed_48 ?_
    refine lv_dup2_11 hx hb d_E_succeed_51 rfl rfl ?_
    obtain ⟨h7, hf⟩ := of_gd hf
    refine va_iald hx hb hK.1 hP 7 0 rfl rfl (ixb_in h7) d_E_succeed_52 ?_
    refine lv_iconst (v := 1) hx hb d_E_succeed_53 (by decide) ?_
    refine lv_iadd hx hb d_E_succeed_54 ?_
    obtain ⟨h8, hf⟩ := of_gd hf
    obtain ⟨g9, eg9⟩ : ∃ y : Nat → Int32, y = upd E_met x5.toNatClampNeg ((E_met x5.toNatClampNeg) + (1 : Int32)) := ⟨_, rfl⟩
    have hf := of_nm eg9 hf
    refine va_iast hx hb hK.1 hP hD hS 7 0 rfl rfl (ixb_in h8) d_E_succeed_55 (fun H locs hP hD hS => ?_)
    rw [← eg9] at hP hD
    have hP : va_P D vwCl (wv_38 cI cJ cZ aT aT_heads aT_places aT_olders aT_sizes aT_withins aT_newest aS aM aE aE_goals aE_marks aE_looked aE_underway aE_met aE_takenHere r4.1 nT_heads T_heads nT_places T_places nT_olders T_olders r4.2 x5 E_steps E_tries E_taken E_first E_marks g9 E_takenHere) H := hP
    have hD : va_D A (wv_38 cI cJ cZ aT aT_heads aT_places aT_olders aT_sizes aT_withins aT_newest aS aM aE aE_goals aE_marks aE_looked aE_underway aE_met aE_takenHere r4.1 nT_heads T_heads nT_places T_places nT_olders T_olders r4.2 x5 E_steps E_tries E_taken E_first E_marks g9 E_takenHere) := hD
    refine lv_aload_n hx hb d_E_succeed_56 rfl (lv_at hl 1 rfl) ?_
    refine va_get (D := D) (ci := 5) (v := .ref aE_takenHere) (C := RR_E) (T := FF_E) (N := 14) hx hb hts kin_E hown hK.1 hP 5 rfl rfl 8 (by decide) (hts _ k1_143) (fun _ h9 => h9) rfl d_E_succeed_57 ?_
    refine lv_aload_n hx hb d_E_succeed_60 rfl (lv_at hl 1 rfl) ?_
    refine va_get (D := D) (ci := 5) (v := .int x5) (C := RR_E) (T := FF_E) (N := 14) hx hb hts kin_E hown hK.1 hP 5 rfl rfl 9 (by decide) (hts _ k1_144) (fun _ h9 => h9) rfl d_E_succeed_61 ?_
    refine lv_dup2_11 hx hb d_E_succeed_64 rfl rfl ?_
    obtain ⟨h10, hf⟩ := of_gd hf
    refine va_iald hx hb hK.1 hP 8 0 rfl rfl (ixb_in h10) d_E_succeed_65 ?_
    refine lv_iload_n hx hb d_E_succeed_66 rfl (lv_at hl 0 rfl) ?_
    refine lv_iadd hx hb d_E_succeed_67 ?_
    obtain ⟨h11, hf⟩ := of_gd hf
    obtain ⟨g12, eg12⟩ : ∃ y : Nat → Int32, y = upd E_takenHere x5.toNatClampNeg ((E_takenHere x5.toNatClampNeg) + x2) := ⟨_, rfl⟩
    have hf := of_nm eg12 hf
    refine va_iast hx hb hK.1 hP hD hS 8 0 rfl rfl (ixb_in h11) d_E_succeed_68 (fun H locs hP hD hS => ?_)
    rw [← eg12] at hP hD
    have hP : va_P D vwCl (wv_38 cI cJ cZ aT aT_heads aT_places aT_olders aT_sizes aT_withins aT_newest aS aM aE aE_goals aE_marks aE_looked aE_underway aE_met aE_takenHere r4.1 nT_heads T_heads nT_places T_places nT_olders T_olders r4.2 x5 E_steps E_tries E_taken E_first E_marks g9 g12) H := hP
    have hD : va_D A (wv_38 cI cJ cZ aT aT_heads aT_places aT_olders aT_sizes aT_withins aT_newest aS aM aE aE_goals aE_marks aE_looked aE_underway aE_met aE_takenHere r4.1 nT_heads T_heads nT_places T_places nT_olders T_olders r4.2 x5 E_steps E_tries E_taken E_first E_marks g9 g12) := hD
    refine lv_goto (tgt := 82) hx hb d_E_succeed_69 (by decide) ?_
    obtain rfl := Option.some.inj hf
    exact W.vret hx hb hr (fun t ht hW => ⟨rfl, by rw [ht]; exact hP, hD, hS.F ht⟩) hS.2.2 d_E_succeed_82
