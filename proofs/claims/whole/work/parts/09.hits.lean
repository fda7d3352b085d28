abbrev b_H_put : ByteArray := prog_3_method_6_code
abbrev y_H_put : MethodName := ⟨"ShapeSearch$Hits", "put", "(IIII)V"⟩
abbrev ws_H_put : List Cond := .code y_H_put b_H_put 5 (none : Option Jvm.ClassFile.FieldType) :: BG
theorem hd_H_put : y_H_put.cls ≠ "java/lang/invoke/MethodHandle" ∧ y_H_put.cls ≠ "java/lang/invoke/VarHandle" ∧ (parseMethodDescriptor y_H_put.desc).map (fun d => d.parameters.length) = some 4 := by decide +kernel
theorem d_H_put_0 : decode b_H_put 0 = .ok (.aload_n 0, 1) := by decide +kernel
theorem d_H_put_1 : decode b_H_put 1 = .ok (.getfield 9, 3) := by decide +kernel
theorem d_H_put_4 : decode b_H_put 4 = .ok (.iload_n 1, 1) := by decide +kernel
theorem d_H_put_5 : decode b_H_put 5 = .ok (.iload_n 2, 1) := by decide +kernel
theorem d_H_put_6 : decode b_H_put 6 = .ok (.iastore, 1) := by decide +kernel
theorem d_H_put_7 : decode b_H_put 7 = .ok (.aload_n 0, 1) := by decide +kernel
theorem d_H_put_8 : decode b_H_put 8 = .ok (.getfield 15, 3) := by decide +kernel
theorem d_H_put_11 : decode b_H_put 11 = .ok (.iload_n 1, 1) := by decide +kernel
theorem d_H_put_12 : decode b_H_put 12 = .ok (.iload_n 3, 1) := by decide +kernel
theorem d_H_put_13 : decode b_H_put 13 = .ok (.iastore, 1) := by decide +kernel
theorem d_H_put_14 : decode b_H_put 14 = .ok (.aload_n 0, 1) := by decide +kernel
theorem d_H_put_15 : decode b_H_put 15 = .ok (.getfield 18, 3) := by decide +kernel
theorem d_H_put_18 : decode b_H_put 18 = .ok (.iload_n 1, 1) := by decide +kernel
theorem d_H_put_19 : decode b_H_put 19 = .ok (.iload 4, 2) := by decide +kernel
theorem d_H_put_21 : decode b_H_put 21 = .ok (.iastore, 1) := by decide +kernel
theorem d_H_put_22 : decode b_H_put 22 = .ok (.return_, 1) := by decide +kernel
abbrev b_H_begin : ByteArray := prog_3_method_3_code
abbrev y_H_begin : MethodName := ⟨"ShapeSearch$Hits", "begin", "(II)V"⟩
abbrev ws_H_begin : List Cond := .code y_H_begin b_H_begin 3 (none : Option Jvm.ClassFile.FieldType) :: BG
theorem hd_H_begin : y_H_begin.cls ≠ "java/lang/invoke/MethodHandle" ∧ y_H_begin.cls ≠ "java/lang/invoke/VarHandle" ∧ (parseMethodDescriptor y_H_begin.desc).map (fun d => d.parameters.length) = some 2 := by decide +kernel
theorem d_H_begin_0 : decode b_H_begin 0 = .ok (.aload_n 0, 1) := by decide +kernel
theorem d_H_begin_1 : decode b_H_begin 1 = .ok (.iload_n 1, 1) := by decide +kernel
theorem d_H_begin_2 : decode b_H_begin 2 = .ok (.putfield 21, 3) := by decide +kernel
theorem d_H_begin_5 : decode b_H_begin 5 = .ok (.aload_n 0, 1) := by decide +kernel
theorem d_H_begin_6 : decode b_H_begin 6 = .ok (.iload_n 2, 1) := by decide +kernel
theorem d_H_begin_7 : decode b_H_begin 7 = .ok (.putfield 25, 3) := by decide +kernel
theorem d_H_begin_10 : decode b_H_begin 10 = .ok (.aload_n 0, 1) := by decide +kernel
theorem d_H_begin_11 : decode b_H_begin 11 = .ok (.iconst 0, 1) := by decide +kernel
theorem d_H_begin_12 : decode b_H_begin 12 = .ok (.putfield 28, 3) := by decide +kernel
theorem d_H_begin_15 : decode b_H_begin 15 = .ok (.return_, 1) := by decide +kernel
abbrev b_H_clear : ByteArray := prog_3_method_2_code
abbrev y_H_clear : MethodName := ⟨"ShapeSearch$Hits", "clear", "()V"⟩
abbrev ws_H_clear : List Cond := .code y_H_clear b_H_clear 1 (none : Option Jvm.ClassFile.FieldType) :: BG
theorem hd_H_clear : y_H_clear.cls ≠ "java/lang/invoke/MethodHandle" ∧ y_H_clear.cls ≠ "java/lang/invoke/VarHandle" ∧ (parseMethodDescriptor y_H_clear.desc).map (fun d => d.parameters.length) = some 0 := by decide +kernel
theorem d_H_clear_0 : decode b_H_clear 0 = .ok (.aload_n 0, 1) := by decide +kernel
theorem d_H_clear_1 : decode b_H_clear 1 = .ok (.iconst (-1), 1) := by decide +kernel
theorem d_H_clear_2 : decode b_H_clear 2 = .ok (.iconst (-1), 1) := by decide +kernel
theorem d_H_clear_3 : decode b_H_clear 3 = .ok (.invokevirtual 31, 3) := by decide +kernel
theorem d_H_clear_6 : decode b_H_clear 6 = .ok (.return_, 1) := by decide +kernel
abbrev b_H_add : ByteArray := prog_3_method_4_code
abbrev y_H_add : MethodName := ⟨"ShapeSearch$Hits", "add", "(III)V"⟩
abbrev ws_H_add : List Cond := .code y_H_add b_H_add 4 (none : Option Jvm.ClassFile.FieldType) :: BG
theorem hd_H_add : y_H_add.cls ≠ "java/lang/invoke/MethodHandle" ∧ y_H_add.cls ≠ "java/lang/invoke/VarHandle" ∧ (parseMethodDescriptor y_H_add.desc).map (fun d => d.parameters.length) = some 3 := by decide +kernel
theorem d_H_add_0 : decode b_H_add 0 = .ok (.aload_n 0, 1) := by decide +kernel
theorem d_H_add_1 : decode b_H_add 1 = .ok (.getfield 28, 3) := by decide +kernel
theorem d_H_add_4 : decode b_H_add 4 = .ok (.bipush 30, 2) := by decide +kernel
theorem d_H_add_6 : decode b_H_add 6 = .ok (.if_icmp .ge 24, 3) := by decide +kernel
theorem d_H_add_9 : decode b_H_add 9 = .ok (.aload_n 0, 1) := by decide +kernel
theorem d_H_add_10 : decode b_H_add 10 = .ok (.aload_n 0, 1) := by decide +kernel
theorem d_H_add_11 : decode b_H_add 11 = .ok (.getfield 28, 3) := by decide +kernel
theorem d_H_add_14 : decode b_H_add 14 = .ok (.iload_n 1, 1) := by decide +kernel
theorem d_H_add_15 : decode b_H_add 15 = .ok (.iload_n 2, 1) := by decide +kernel
theorem d_H_add_16 : decode b_H_add 16 = .ok (.iload_n 3, 1) := by decide +kernel
theorem d_H_add_17 : decode b_H_add 17 = .ok (.invokevirtual 35, 3) := by decide +kernel
theorem d_H_add_20 : decode b_H_add 20 = .ok (.aload_n 0, 1) := by decide +kernel
theorem d_H_add_21 : decode b_H_add 21 = .ok (.dup, 1) := by decide +kernel
theorem d_H_add_22 : decode b_H_add 22 = .ok (.getfield 28, 3) := by decide +kernel
theorem d_H_add_25 : decode b_H_add 25 = .ok (.iconst 1, 1) := by decide +kernel
theorem d_H_add_26 : decode b_H_add 26 = .ok (.iadd, 1) := by decide +kernel
theorem d_H_add_27 : decode b_H_add 27 = .ok (.putfield 28, 3) := by decide +kernel
theorem d_H_add_30 : decode b_H_add 30 = .ok (.return_, 1) := by decide +kernel
abbrev b_H_addByShare : ByteArray := prog_3_method_5_code
abbrev y_H_addByShare : MethodName := ⟨"ShapeSearch$Hits", "addByShare", "(III)V"⟩
abbrev ws_H_addByShare : List Cond := .code y_H_addByShare b_H_addByShare 5 (none : Option Jvm.ClassFile.FieldType) :: BG
theorem hd_H_addByShare : y_H_addByShare.cls ≠ "java/lang/invoke/MethodHandle" ∧ y_H_addByShare.cls ≠ "java/lang/invoke/VarHandle" ∧ (parseMethodDescriptor y_H_addByShare.desc).map (fun d => d.parameters.length) = some 3 := by decide +kernel
theorem d_H_addByShare_0 : decode b_H_addByShare 0 = .ok (.aload_n 0, 1) := by decide +kernel
theorem d_H_addByShare_1 : decode b_H_addByShare 1 = .ok (.getfield 28, 3) := by decide +kernel
theorem d_H_addByShare_4 : decode b_H_addByShare 4 = .ok (.istore 4, 2) := by decide +kernel
theorem d_H_addByShare_6 : decode b_H_addByShare 6 = .ok (.aload_n 0, 1) := by decide +kernel
theorem d_H_addByShare_7 : decode b_H_addByShare 7 = .ok (.iload_n 1, 1) := by decide +kernel
theorem d_H_addByShare_8 : decode b_H_addByShare 8 = .ok (.iload_n 2, 1) := by decide +kernel
theorem d_H_addByShare_9 : decode b_H_addByShare 9 = .ok (.iload_n 3, 1) := by decide +kernel
theorem d_H_addByShare_10 : decode b_H_addByShare 10 = .ok (.invokevirtual 39, 3) := by decide +kernel
theorem d_H_addByShare_13 : decode b_H_addByShare 13 = .ok (.iload 4, 2) := by decide +kernel
theorem d_H_addByShare_15 : decode b_H_addByShare 15 = .ok (.ifCond .le 87, 3) := by decide +kernel
theorem d_H_addByShare_18 : decode b_H_addByShare 18 = .ok (.iload 4, 2) := by decide +kernel
theorem d_H_addByShare_20 : decode b_H_addByShare 20 = .ok (.aload_n 0, 1) := by decide +kernel
theorem d_H_addByShare_21 : decode b_H_addByShare 21 = .ok (.getfield 28, 3) := by decide +kernel
theorem d_H_addByShare_24 : decode b_H_addByShare 24 = .ok (.if_icmp .ge 78, 3) := by decide +kernel
theorem d_H_addByShare_27 : decode b_H_addByShare 27 = .ok (.aload_n 0, 1) := by decide +kernel
theorem d_H_addByShare_28 : decode b_H_addByShare 28 = .ok (.getfield 15, 3) := by decide +kernel
theorem d_H_addByShare_31 : decode b_H_addByShare 31 = .ok (.iload 4, 2) := by decide +kernel
theorem d_H_addByShare_33 : decode b_H_addByShare 33 = .ok (.iconst 1, 1) := by decide +kernel
theorem d_H_addByShare_34 : decode b_H_addByShare 34 = .ok (.isub, 1) := by decide +kernel
theorem d_H_addByShare_35 : decode b_H_addByShare 35 = .ok (.iaload, 1) := by decide +kernel
theorem d_H_addByShare_36 : decode b_H_addByShare 36 = .ok (.iload_n 3, 1) := by decide +kernel
theorem d_H_addByShare_37 : decode b_H_addByShare 37 = .ok (.imul, 1) := by decide +kernel
theorem d_H_addByShare_38 : decode b_H_addByShare 38 = .ok (.iload_n 2, 1) := by decide +kernel
theorem d_H_addByShare_39 : decode b_H_addByShare 39 = .ok (.aload_n 0, 1) := by decide +kernel
theorem d_H_addByShare_40 : decode b_H_addByShare 40 = .ok (.getfield 18, 3) := by decide +kernel
theorem d_H_addByShare_43 : decode b_H_addByShare 43 = .ok (.iload 4, 2) := by decide +kernel
theorem d_H_addByShare_45 : decode b_H_addByShare 45 = .ok (.iconst 1, 1) := by decide +kernel
theorem d_H_addByShare_46 : decode b_H_addByShare 46 = .ok (.isub, 1) := by decide +kernel
theorem d_H_addByShare_47 : decode b_H_addByShare 47 = .ok (.iaload, 1) := by decide +kernel
theorem d_H_addByShare_48 : decode b_H_addByShare 48 = .ok (.imul, 1) := by decide +kernel
theorem d_H_addByShare_49 : decode b_H_addByShare 49 = .ok (.if_icmp .ge 53, 3) := by decide +kernel
theorem d_H_addByShare_52 : decode b_H_addByShare 52 = .ok (.aload_n 0, 1) := by decide +kernel
theorem d_H_addByShare_53 : decode b_H_addByShare 53 = .ok (.iload 4, 2) := by decide +kernel
theorem d_H_addByShare_55 : decode b_H_addByShare 55 = .ok (.aload_n 0, 1) := by decide +kernel
theorem d_H_addByShare_56 : decode b_H_addByShare 56 = .ok (.getfield 9, 3) := by decide +kernel
theorem d_H_addByShare_59 : decode b_H_addByShare 59 = .ok (.iload 4, 2) := by decide +kernel
theorem d_H_addByShare_61 : decode b_H_addByShare 61 = .ok (.iconst 1, 1) := by decide +kernel
theorem d_H_addByShare_62 : decode b_H_addByShare 62 = .ok (.isub, 1) := by decide +kernel
theorem d_H_addByShare_63 : decode b_H_addByShare 63 = .ok (.iaload, 1) := by decide +kernel
theorem d_H_addByShare_64 : decode b_H_addByShare 64 = .ok (.aload_n 0, 1) := by decide +kernel
theorem d_H_addByShare_65 : decode b_H_addByShare 65 = .ok (.getfield 15, 3) := by decide +kernel
theorem d_H_addByShare_68 : decode b_H_addByShare 68 = .ok (.iload 4, 2) := by decide +kernel
theorem d_H_addByShare_70 : decode b_H_addByShare 70 = .ok (.iconst 1, 1) := by decide +kernel
theorem d_H_addByShare_71 : decode b_H_addByShare 71 = .ok (.isub, 1) := by decide +kernel
theorem d_H_addByShare_72 : decode b_H_addByShare 72 = .ok (.iaload, 1) := by decide +kernel
theorem d_H_addByShare_73 : decode b_H_addByShare 73 = .ok (.aload_n 0, 1) := by decide +kernel
theorem d_H_addByShare_74 : decode b_H_addByShare 74 = .ok (.getfield 18, 3) := by decide +kernel
theorem d_H_addByShare_77 : decode b_H_addByShare 77 = .ok (.iload 4, 2) := by decide +kernel
theorem d_H_addByShare_79 : decode b_H_addByShare 79 = .ok (.iconst 1, 1) := by decide +kernel
theorem d_H_addByShare_80 : decode b_H_addByShare 80 = .ok (.isub, 1) := by decide +kernel
theorem d_H_addByShare_81 : decode b_H_addByShare 81 = .ok (.iaload, 1) := by decide +kernel
theorem d_H_addByShare_82 : decode b_H_addByShare 82 = .ok (.invokevirtual 35, 3) := by decide +kernel
theorem d_H_addByShare_85 : decode b_H_addByShare 85 = .ok (.aload_n 0, 1) := by decide +kernel
theorem d_H_addByShare_86 : decode b_H_addByShare 86 = .ok (.iload 4, 2) := by decide +kernel
theorem d_H_addByShare_88 : decode b_H_addByShare 88 = .ok (.iconst 1, 1) := by decide +kernel
theorem d_H_addByShare_89 : decode b_H_addByShare 89 = .ok (.isub, 1) := by decide +kernel
theorem d_H_addByShare_90 : decode b_H_addByShare 90 = .ok (.iload_n 1, 1) := by decide +kernel
theorem d_H_addByShare_91 : decode b_H_addByShare 91 = .ok (.iload_n 2, 1) := by decide +kernel
theorem d_H_addByShare_92 : decode b_H_addByShare 92 = .ok (.iload_n 3, 1) := by decide +kernel
theorem d_H_addByShare_93 : decode b_H_addByShare 93 = .ok (.invokevirtual 35, 3) := by decide +kernel
theorem d_H_addByShare_96 : decode b_H_addByShare 96 = .ok (.iinc 4 (-1), 3) := by decide +kernel
theorem d_H_addByShare_99 : decode b_H_addByShare 99 = .ok (.goto (-86), 3) := by decide +kernel
theorem d_H_addByShare_102 : decode b_H_addByShare 102 = .ok (.return_, 1) := by decide +kernel
abbrev b_H_kind : ByteArray := prog_3_method_7_code
abbrev y_H_kind : MethodName := ⟨"ShapeSearch$Hits", "kind", "()I"⟩
abbrev ws_H_kind : List Cond := .code y_H_kind b_H_kind 1 (some .int) :: BG
theorem hd_H_kind : y_H_kind.cls ≠ "java/lang/invoke/MethodHandle" ∧ y_H_kind.cls ≠ "java/lang/invoke/VarHandle" ∧ (parseMethodDescriptor y_H_kind.desc).map (fun d => d.parameters.length) = some 0 := by decide +kernel
theorem d_H_kind_0 : decode b_H_kind 0 = .ok (.aload_n 0, 1) := by decide +kernel
theorem d_H_kind_1 : decode b_H_kind 1 = .ok (.getfield 21, 3) := by decide +kernel
theorem d_H_kind_4 : decode b_H_kind 4 = .ok (.ireturn, 1) := by decide +kernel
abbrev b_H_subject : ByteArray := prog_3_method_8_code
abbrev y_H_subject : MethodName := ⟨"ShapeSearch$Hits", "subject", "()I"⟩
abbrev ws_H_subject : List Cond := .code y_H_subject b_H_subject 1 (some .int) :: BG
theorem hd_H_subject : y_H_subject.cls ≠ "java/lang/invoke/MethodHandle" ∧ y_H_subject.cls ≠ "java/lang/invoke/VarHandle" ∧ (parseMethodDescriptor y_H_subject.desc).map (fun d => d.parameters.length) = some 0 := by decide +kernel
theorem d_H_subject_0 : decode b_H_subject 0 = .ok (.aload_n 0, 1) := by decide +kernel
theorem d_H_subject_1 : decode b_H_subject 1 = .ok (.getfield 25, 3) := by decide +kernel
theorem d_H_subject_4 : decode b_H_subject 4 = .ok (.ireturn, 1) := by decide +kernel
abbrev b_H_count : ByteArray := prog_3_method_9_code
abbrev y_H_count : MethodName := ⟨"ShapeSearch$Hits", "count", "()I"⟩
abbrev ws_H_count : List Cond := .code y_H_count b_H_count 1 (some .int) :: BG
theorem hd_H_count : y_H_count.cls ≠ "java/lang/invoke/MethodHandle" ∧ y_H_count.cls ≠ "java/lang/invoke/VarHandle" ∧ (parseMethodDescriptor y_H_count.desc).map (fun d => d.parameters.length) = some 0 := by decide +kernel
theorem d_H_count_0 : decode b_H_count 0 = .ok (.aload_n 0, 1) := by decide +kernel
theorem d_H_count_1 : decode b_H_count 1 = .ok (.getfield 28, 3) := by decide +kernel
theorem d_H_count_4 : decode b_H_count 4 = .ok (.ireturn, 1) := by decide +kernel
abbrev b_H_has : ByteArray := prog_3_method_10_code
abbrev y_H_has : MethodName := ⟨"ShapeSearch$Hits", "has", "(I)Z"⟩
abbrev ws_H_has : List Cond := .code y_H_has b_H_has 2 (some .boolean) :: BG
theorem hd_H_has : y_H_has.cls ≠ "java/lang/invoke/MethodHandle" ∧ y_H_has.cls ≠ "java/lang/invoke/VarHandle" ∧ (parseMethodDescriptor y_H_has.desc).map (fun d => d.parameters.length) = some 1 := by decide +kernel
theorem d_H_has_0 : decode b_H_has 0 = .ok (.iload_n 1, 1) := by decide +kernel
theorem d_H_has_1 : decode b_H_has 1 = .ok (.ifCond .lt 15, 3) := by decide +kernel
theorem d_H_has_4 : decode b_H_has 4 = .ok (.iload_n 1, 1) := by decide +kernel
theorem d_H_has_5 : decode b_H_has 5 = .ok (.aload_n 0, 1) := by decide +kernel
theorem d_H_has_6 : decode b_H_has 6 = .ok (.getfield 28, 3) := by decide +kernel
theorem d_H_has_9 : decode b_H_has 9 = .ok (.if_icmp .ge 7, 3) := by decide +kernel
theorem d_H_has_12 : decode b_H_has 12 = .ok (.iconst 1, 1) := by decide +kernel
theorem d_H_has_13 : decode b_H_has 13 = .ok (.goto 4, 3) := by decide +kernel
theorem d_H_has_16 : decode b_H_has 16 = .ok (.iconst 0, 1) := by decide +kernel
theorem d_H_has_17 : decode b_H_has 17 = .ok (.ireturn, 1) := by decide +kernel
abbrev b_H_statement : ByteArray := prog_3_method_11_code
abbrev y_H_statement : MethodName := ⟨"ShapeSearch$Hits", "statement", "(I)I"⟩
abbrev ws_H_statement : List Cond := .code y_H_statement b_H_statement 2 (some .int) :: BG
theorem hd_H_statement : y_H_statement.cls ≠ "java/lang/invoke/MethodHandle" ∧ y_H_statement.cls ≠ "java/lang/invoke/VarHandle" ∧ (parseMethodDescriptor y_H_statement.desc).map (fun d => d.parameters.length) = some 1 := by decide +kernel
theorem d_H_statement_0 : decode b_H_statement 0 = .ok (.aload_n 0, 1) := by decide +kernel
theorem d_H_statement_1 : decode b_H_statement 1 = .ok (.iload_n 1, 1) := by decide +kernel
theorem d_H_statement_2 : decode b_H_statement 2 = .ok (.invokevirtual 43, 3) := by decide +kernel
theorem d_H_statement_5 : decode b_H_statement 5 = .ok (.ifCond .eq 12, 3) := by decide +kernel
theorem d_H_statement_8 : decode b_H_statement 8 = .ok (.aload_n 0, 1) := by decide +kernel
theorem d_H_statement_9 : decode b_H_statement 9 = .ok (.getfield 9, 3) := by decide +kernel
theorem d_H_statement_12 : decode b_H_statement 12 = .ok (.iload_n 1, 1) := by decide +kernel
theorem d_H_statement_13 : decode b_H_statement 13 = .ok (.iaload, 1) := by decide +kernel
theorem d_H_statement_14 : decode b_H_statement 14 = .ok (.goto 4, 3) := by decide +kernel
theorem d_H_statement_17 : decode b_H_statement 17 = .ok (.iconst (-1), 1) := by decide +kernel
theorem d_H_statement_18 : decode b_H_statement 18 = .ok (.ireturn, 1) := by decide +kernel
abbrev b_H_first : ByteArray := prog_3_method_12_code
abbrev y_H_first : MethodName := ⟨"ShapeSearch$Hits", "first", "(I)I"⟩
abbrev ws_H_first : List Cond := .code y_H_first b_H_first 2 (some .int) :: BG
theorem hd_H_first : y_H_first.cls ≠ "java/lang/invoke/MethodHandle" ∧ y_H_first.cls ≠ "java/lang/invoke/VarHandle" ∧ (parseMethodDescriptor y_H_first.desc).map (fun d => d.parameters.length) = some 1 := by decide +kernel
theorem d_H_first_0 : decode b_H_first 0 = .ok (.aload_n 0, 1) := by decide +kernel
theorem d_H_first_1 : decode b_H_first 1 = .ok (.iload_n 1, 1) := by decide +kernel
theorem d_H_first_2 : decode b_H_first 2 = .ok (.invokevirtual 43, 3) := by decide +kernel
theorem d_H_first_5 : decode b_H_first 5 = .ok (.ifCond .eq 12, 3) := by decide +kernel
theorem d_H_first_8 : decode b_H_first 8 = .ok (.aload_n 0, 1) := by decide +kernel
theorem d_H_first_9 : decode b_H_first 9 = .ok (.getfield 15, 3) := by decide +kernel
theorem d_H_first_12 : decode b_H_first 12 = .ok (.iload_n 1, 1) := by decide +kernel
theorem d_H_first_13 : decode b_H_first 13 = .ok (.iaload, 1) := by decide +kernel
theorem d_H_first_14 : decode b_H_first 14 = .ok (.goto 4, 3) := by decide +kernel
theorem d_H_first_17 : decode b_H_first 17 = .ok (.iconst (-1), 1) := by decide +kernel
theorem d_H_first_18 : decode b_H_first 18 = .ok (.ireturn, 1) := by decide +kernel
abbrev b_H_second : ByteArray := prog_3_method_13_code
abbrev y_H_second : MethodName := ⟨"ShapeSearch$Hits", "second", "(I)I"⟩
abbrev ws_H_second : List Cond := .code y_H_second b_H_second 2 (some .int) :: BG
theorem hd_H_second : y_H_second.cls ≠ "java/lang/invoke/MethodHandle" ∧ y_H_second.cls ≠ "java/lang/invoke/VarHandle" ∧ (parseMethodDescriptor y_H_second.desc).map (fun d => d.parameters.length) = some 1 := by decide +kernel
theorem d_H_second_0 : decode b_H_second 0 = .ok (.aload_n 0, 1) := by decide +kernel
theorem d_H_second_1 : decode b_H_second 1 = .ok (.iload_n 1, 1) := by decide +kernel
theorem d_H_second_2 : decode b_H_second 2 = .ok (.invokevirtual 43, 3) := by decide +kernel
theorem d_H_second_5 : decode b_H_second 5 = .ok (.ifCond .eq 12, 3) := by decide +kernel
theorem d_H_second_8 : decode b_H_second 8 = .ok (.aload_n 0, 1) := by decide +kernel
theorem d_H_second_9 : decode b_H_second 9 = .ok (.getfield 18, 3) := by decide +kernel
theorem d_H_second_12 : decode b_H_second 12 = .ok (.iload_n 1, 1) := by decide +kernel
theorem d_H_second_13 : decode b_H_second 13 = .ok (.iaload, 1) := by decide +kernel
theorem d_H_second_14 : decode b_H_second 14 = .ok (.goto 4, 3) := by decide +kernel
theorem d_H_second_17 : decode b_H_second 17 = .ok (.iconst (-1), 1) := by decide +kernel
theorem d_H_second_18 : decode b_H_second 18 = .ok (.ireturn, 1) := by decide +kernel
theorem k1_184 : Cond.fieldLink "ShapeSearch$Hits" 9 "ShapeSearch$Hits" "statementRow" "[I" ∈ BG := List.mem_filter.mpr ⟨in_1 (List.mem_of_getElem? (i := 184) rfl), rfl⟩
theorem k1_185 : Cond.fieldLink "ShapeSearch$Hits" 15 "ShapeSearch$Hits" "firstRow" "[I" ∈ BG := List.mem_filter.mpr ⟨in_1 (List.mem_of_getElem? (i := 185) rfl), rfl⟩
theorem k1_186 : Cond.fieldLink "ShapeSearch$Hits" 18 "ShapeSearch$Hits" "secondRow" "[I" ∈ BG := List.mem_filter.mpr ⟨in_1 (List.mem_of_getElem? (i := 186) rfl), rfl⟩
theorem k1_187 : Cond.fieldLink "ShapeSearch$Hits" 21 "ShapeSearch$Hits" "kind" "I" ∈ BG := List.mem_filter.mpr ⟨in_1 (List.mem_of_getElem? (i := 187) rfl), rfl⟩
theorem k1_188 : Cond.fieldLink "ShapeSearch$Hits" 25 "ShapeSearch$Hits" "subject" "I" ∈ BG := List.mem_filter.mpr ⟨in_1 (List.mem_of_getElem? (i := 188) rfl), rfl⟩
theorem k1_189 : Cond.fieldLink "ShapeSearch$Hits" 28 "ShapeSearch$Hits" "count" "I" ∈ BG := List.mem_filter.mpr ⟨in_1 (List.mem_of_getElem? (i := 189) rfl), rfl⟩
theorem k2_16 : Cond.methodLink "ShapeSearch$Hits" 31 ⟨"ShapeSearch$Hits", "begin", "(II)V"⟩ ∈ BG := List.mem_filter.mpr ⟨in_2 (List.mem_of_getElem? (i := 16) rfl), rfl⟩
theorem k2_19 : Cond.code ⟨"ShapeSearch$Hits", "begin", "(II)V"⟩ prog_3_method_3_code 3 (none : Option Jvm.ClassFile.FieldType) ∈ BG := List.mem_filter.mpr ⟨in_2 (List.mem_of_getElem? (i := 19) rfl), rfl⟩
theorem k1_8 : Cond.initialized "ShapeSearch$Hits" ∈ BG := List.mem_filter.mpr ⟨in_1 (List.mem_of_getElem? (i := 8) rfl), rfl⟩
theorem k2_17 : Cond.instanceMethod ⟨"ShapeSearch$Hits", "begin", "(II)V"⟩ ∈ BG := List.mem_filter.mpr ⟨in_2 (List.mem_of_getElem? (i := 17) rfl), rfl⟩
theorem k2_18 : Cond.selects "ShapeSearch$Hits" ⟨"ShapeSearch$Hits", "begin", "(II)V"⟩ ⟨"ShapeSearch$Hits", "begin", "(II)V"⟩ ∈ BG := List.mem_filter.mpr ⟨in_2 (List.mem_of_getElem? (i := 18) rfl), rfl⟩
theorem k3_104 : Cond.methodLink "ShapeSearch$Hits" 35 ⟨"ShapeSearch$Hits", "put", "(IIII)V"⟩ ∈ BG := List.mem_filter.mpr ⟨in_3 (List.mem_of_getElem? (i := 104) rfl), rfl⟩
theorem k3_107 : Cond.code ⟨"ShapeSearch$Hits", "put", "(IIII)V"⟩ prog_3_method_6_code 5 (none : Option Jvm.ClassFile.FieldType) ∈ BG := List.mem_filter.mpr ⟨in_3 (List.mem_of_getElem? (i := 107) rfl), rfl⟩
theorem k3_106 : Cond.instanceMethod ⟨"ShapeSearch$Hits", "put", "(IIII)V"⟩ ∈ BG := List.mem_filter.mpr ⟨in_3 (List.mem_of_getElem? (i := 106) rfl), rfl⟩
theorem k3_166 : Cond.methodLink "ShapeSearch$Hits" 39 ⟨"ShapeSearch$Hits", "add", "(III)V"⟩ ∈ BG := List.mem_filter.mpr ⟨in_3 (List.mem_of_getElem? (i := 166) rfl), rfl⟩
theorem k3_103 : Cond.code ⟨"ShapeSearch$Hits", "add", "(III)V"⟩ prog_3_method_4_code 4 (none : Option Jvm.ClassFile.FieldType) ∈ BG := List.mem_filter.mpr ⟨in_3 (List.mem_of_getElem? (i := 103) rfl), rfl⟩
theorem k3_101 : Cond.instanceMethod ⟨"ShapeSearch$Hits", "add", "(III)V"⟩ ∈ BG := List.mem_filter.mpr ⟨in_3 (List.mem_of_getElem? (i := 101) rfl), rfl⟩
theorem k3_102 : Cond.selects "ShapeSearch$Hits" ⟨"ShapeSearch$Hits", "add", "(III)V"⟩ ⟨"ShapeSearch$Hits", "add", "(III)V"⟩ ∈ BG := List.mem_filter.mpr ⟨in_3 (List.mem_of_getElem? (i := 102) rfl), rfl⟩
theorem k2_36 : Cond.methodLink "ShapeSearch$Hits" 43 ⟨"ShapeSearch$Hits", "has", "(I)Z"⟩ ∈ BG := List.mem_filter.mpr ⟨in_2 (List.mem_of_getElem? (i := 36) rfl), rfl⟩
theorem k2_31 : Cond.code ⟨"ShapeSearch$Hits", "has", "(I)Z"⟩ prog_3_method_10_code 2 (some .boolean) ∈ BG := List.mem_filter.mpr ⟨in_2 (List.mem_of_getElem? (i := 31) rfl), rfl⟩
theorem k2_29 : Cond.instanceMethod ⟨"ShapeSearch$Hits", "has", "(I)Z"⟩ ∈ BG := List.mem_filter.mpr ⟨in_2 (List.mem_of_getElem? (i := 29) rfl), rfl⟩
theorem k2_30 : Cond.selects "ShapeSearch$Hits" ⟨"ShapeSearch$Hits", "has", "(I)Z"⟩ ⟨"ShapeSearch$Hits", "has", "(I)Z"⟩ ∈ BG := List.mem_filter.mpr ⟨in_2 (List.mem_of_getElem? (i := 30) rfl), rfl⟩
abbrev wv_29 (cI cJ cZ : ClassId) (aH aH_statementRow aH_firstRow aH_secondRow : Nat) (H_kind : Int32) (H_subject : Int32) (H_count : Int32) (H_statementRow : (Nat → Int32)) (H_firstRow : (Nat → Int32)) (H_secondRow : (Nat → Int32)) : va_W := [(aH, .inr (6, [.ref aH_statementRow, .ref aH_firstRow, .ref aH_secondRow, .int H_kind, .int H_subject, .int H_count])), (aH_statementRow, .inl (cI, 30, .inl H_statementRow)), (aH_firstRow, .inl (cI, 30, .inl H_firstRow)), (aH_secondRow, .inl (cI, 30, .inl H_secondRow))]
abbrev wv_30 (cI cJ cZ : ClassId) (aH aH_statementRow aH_firstRow aH_secondRow : Nat) (H_kind : Int32) (H_subject : Int32) (H_count : Int32) : va_W := [(aH, .inr (6, [.ref aH_statementRow, .ref aH_firstRow, .ref aH_secondRow, .int H_kind, .int H_subject, .int H_count]))]
abbrev wv_31 (cI cJ cZ : ClassId) (aH aH_statementRow aH_firstRow aH_secondRow : Nat) (H_kind : Int32) (H_subject : Int32) (H_count : Int32) (H_statementRow : (Nat → Int32)) : va_W := [(aH, .inr (6, [.ref aH_statementRow, .ref aH_firstRow, .ref aH_secondRow, .int H_kind, .int H_subject, .int H_count])), (aH_statementRow, .inl (cI, 30, .inl H_statementRow))]
abbrev wv_32 (cI cJ cZ : ClassId) (aH aH_statementRow aH_firstRow aH_secondRow : Nat) (H_kind : Int32) (H_subject : Int32) (H_count : Int32) (H_firstRow : (Nat → Int32)) : va_W := [(aH, .inr (6, [.ref aH_statementRow, .ref aH_firstRow, .ref aH_secondRow, .int H_kind, .int H_subject, .int H_count])), (aH_firstRow, .inl (cI, 30, .inl H_firstRow))]
abbrev wv_33 (cI cJ cZ : ClassId) (aH aH_statementRow aH_firstRow aH_secondRow : Nat) (H_kind : Int32) (H_subject : Int32) (H_count : Int32) (H_secondRow : (Nat → Int32)) : va_W := [(aH, .inr (6, [.ref aH_statementRow, .ref aH_firstRow, .ref aH_secondRow, .int H_kind, .int H_subject, .int H_count])), (aH_secondRow, .inl (cI, 30, .inl H_secondRow))]
def f_H_put (H_statementRow : (Nat → Int32)) (H_firstRow : (Nat → Int32)) (H_secondRow : (Nat → Int32)) (p0 : Int32) (p1 : Int32) (p2 : Int32) (p3 : Int32) : Option ((Nat → Int32) × (Nat → Int32) × (Nat → Int32)) :=
  gd (ixb p0 30) <| nm (upd H_statementRow p0.toNatClampNeg p1) fun g2 =>
  gd (ixb p0 30) <| nm (upd H_firstRow p0.toNatClampNeg p2) fun g4 =>
  gd (ixb p0 30) <| nm (upd H_secondRow p0.toNatClampNeg p3) fun g6 =>
  some (g2, g4, g6)
abbrev rm_H_put : Room := { frames := 0, cells := 0, slots := 0, locals := 0 }
set_option maxHeartbeats 4000000 in
set_option maxRecDepth 100000 in
theorem c_H_put (l : Launch) (D : va_G) (cI cJ cZ : ClassId) (aH aH_statementRow aH_firstRow aH_secondRow : Nat) (sz : Nat) (H_kind : Int32) (H_subject : Int32) (H_count : Int32) (H_statementRow : (Nat → Int32)) (H_firstRow : (Nat → Int32)) (H_secondRow : (Nat → Int32)) (p0 : Int32) (p1 : Int32) (p2 : Int32) (p3 : Int32) (o : (Nat → Int32) × (Nat → Int32) × (Nat → Int32)) (hf : f_H_put H_statementRow H_firstRow H_secondRow p0 p1 p2 p3 = some o) : Met l y_H_put (ws_H_put) rm_H_put (WPc D vwCl cI cJ cZ [.ref aH, .int p0, .int p1, .int p2, .int p3] (wv_29 cI cJ cZ aH aH_statementRow aH_firstRow aH_secondRow H_kind H_subject H_count H_statementRow H_firstRow H_secondRow) sz) (WQ D vwCl none (wv_29 cI cJ cZ aH aH_statementRow aH_firstRow aH_secondRow H_kind H_subject H_count o.1 o.2.1 o.2.2) (va_A (wv_29 cI cJ cZ aH aH_statementRow aH_firstRow aH_secondRow H_kind H_subject H_count H_statementRow H_firstRow H_secondRow) sz)) 0 0 (va_A (wv_29 cI cJ cZ aH aH_statementRow aH_firstRow aH_secondRow H_kind H_subject H_count H_statementRow H_firstRow H_secondRow) sz) := by
  refine Met.ofW (cc := b_H_put) (maxL := 5) (ret := none) (by decide) rfl ?_
  intro p e s m args below meth c s₁ B hml hv
  obtain ⟨rfl, rfl, hP, hK, hD0⟩ := hv
  have hx := B.exec
  have hb := B.bytes
  have hr := B.returns
  have hts : ∀ w ∈ BG, w.before _ s = true := fun w h => atoms_spec (ws := (ws_H_put)) B.pre w (List.mem_cons_of_mem _ h)
  have hown : s.vm.findClass RR_H = some m.cls := findClass_of_methodNamed B.named
  have hlocks := B.notSynchronized
  have hD := hD0.self (sz := s.heap.size)
  have hA : ∀ q : Nat, s.heap.size ≤ q → va_A (wv_29 cI cJ cZ aH aH_statementRow aH_firstRow aH_secondRow H_kind H_subject H_count H_statementRow H_firstRow H_secondRow) s.heap.size q := fun q h => Or.inr h
  have hS : va_S (va_A (wv_29 cI cJ cZ aH aH_statementRow aH_firstRow aH_secondRow H_kind H_subject H_count H_statementRow H_firstRow H_secondRow) s.heap.size) s.heap s.heap [] := va_S.rf
  generalize va_A (wv_29 cI cJ cZ aH aH_statementRow aH_firstRow aH_secondRow H_kind H_subject H_count H_statementRow H_firstRow H_secondRow) s.heap.size = A at hD hA hS ⊢
  have hl := lv_entry ([.ref aH, .int p0, .int p1, .int p2, .int p3]) (n := 5) (Nat.le_of_ble_eq_true rfl)
  rw [lg_entry_eq]
  generalize (lg_sl ([.ref aH, .int p0, .int p1, .int p2, .int p3]) ++ List.replicate (5 - (lg_sl ([.ref aH, .int p0, .int p1, .int p2, .int p3])).length) Slot.unset).toArray = ls at hl ⊢
  have hl : lv_has ls 5 [(0, .ref aH), (1, .int p0), (2, .int p1), (3, .int p2), (4, .int p3)] := hl
  rw [f_H_put] at hf
  refine lv_aload_n hx hb d_H_put_0 rfl (lv_at hl 0 rfl) ?_
  refine va_get (D := D) (ci := 6) (v := .ref aH_statementRow) (C := RR_H) (T := FF_H) (N := 6) hx hb hts kin_H hown hK.1 hP 0 rfl rfl 0 (by decide) (hts _ k1_184) (fun _ h9 => h9) rfl d_H_put_1 ?_
  refine lv_iload_n hx hb d_H_put_4 rfl (lv_at hl 1 rfl) ?_
  refine lv_iload_n hx hb d_H_put_5 rfl (lv_at hl 2 rfl) ?_
  obtain ⟨h1, hf⟩ := of_gd hf
  obtain ⟨g2, eg2⟩ : ∃ y : Nat → Int32, y = upd H_statementRow p0.toNatClampNeg p1 := ⟨_, rfl⟩
  have hf := of_nm eg2 hf
  refine va_iast hx hb hK.1 hP hD hS 1 0 rfl rfl (ixb_in h1) d_H_put_6 (fun H locs hP hD hS => ?_)
  rw [← eg2] at hP hD
  have hP : va_P D vwCl (wv_29 cI cJ cZ aH aH_statementRow aH_firstRow aH_secondRow H_kind H_subject H_count g2 H_firstRow H_secondRow) H := hP
  have hD : va_D A (wv_29 cI cJ cZ aH aH_statementRow aH_firstRow aH_secondRow H_kind H_subject H_count g2 H_firstRow H_secondRow) := hD
  refine lv_aload_n hx hb d_H_put_7 rfl (lv_at hl 0 rfl) ?_
  refine va_get (D := D) (ci := 6) (v := .ref aH_firstRow) (C := RR_H) (T := FF_H) (N := 6) hx hb hts kin_H hown hK.1 hP 0 rfl rfl 1 (by decide) (hts _ k1_185) (fun _ h9 => h9) rfl d_H_put_8 ?_
  refine lv_iload_n hx hb d_H_put_11 rfl (lv_at hl 1 rfl) ?_
  refine lv_iload_n hx hb d_H_put_12 rfl (lv_at hl 3 rfl) ?_
  obtain ⟨h3, hf⟩ := of_gd hf
  obtain ⟨g4, eg4⟩ : ∃ y : Nat → Int32, y = upd H_firstRow p0.toNatClampNeg p2 := ⟨_, rfl⟩
  have hf := of_nm eg4 hf
  refine va_iast hx hb hK.1 hP hD hS 2 0 rfl rfl (ixb_in h3) d_H_put_13 (fun H locs hP hD hS => ?_)
  rw [← eg4] at hP hD
  have hP : va_P D vwCl (wv_29 cI cJ cZ aH aH_statementRow aH_firstRow aH_secondRow H_kind H_subject H_count g2 g4 H_secondRow) H := hP
  have hD : va_D A (wv_29 cI cJ cZ aH aH_statementRow aH_firstRow aH_secondRow H_kind H_subject H_count g2 g4 H_secondRow) := hD
  refine lv_aload_n hx hb d_H_put_14 rfl (lv_at hl 0 rfl) ?_
  refine va_get (D := D) (ci := 6) (v := .ref aH_secondRow) (C := RR_H) (T := FF_H) (N := 6) hx hb hts kin_H hown hK.1 hP 0 rfl rfl 2 (by decide) (hts _ k1_186) (fun _ h9 => h9) rfl d_H_put_15 ?_
  refine lv_iload_n hx hb d_H_put_18 rfl (lv_at hl 1 rfl) ?_
  refine lv_iload hx hb d_H_put_19 (lv_at hl 4 rfl) ?_
  obtain ⟨h5, hf⟩ := of_gd hf
  obtain ⟨g6, eg6⟩ : ∃ y : Nat → Int32, y = upd H_secondRow p0.toNatClampNeg p3 := ⟨_, rfl⟩
  have hf := of_nm eg6 hf
  refine va_iast hx hb hK.1 hP hD hS 3 0 rfl rfl (ixb_in h5) d_H_put_21 (fun H locs hP hD hS => ?_)
  rw [← eg6] at hP hD
  have hP : va_P D vwCl (wv_29 cI cJ cZ aH aH_statementRow aH_firstRow aH_secondRow H_kind H_subject H_count g2 g4 g6) H := hP
  have hD : va_D A (wv_29 cI cJ cZ aH aH_statementRow aH_firstRow aH_secondRow H_kind H_subject H_count g2 g4 g6) := hD
  obtain rfl := Option.some.inj hf
  exact W.vret hx hb hr (fun t ht hW => ⟨rfl, by rw [ht]; exact hP, hD, hS.F ht⟩) hS.2.2 d_H_put_22
def f_H_begin (H_kind : Int32) (H_subject : Int32) (H_count : Int32) (p0 : Int32) (p1 : Int32) : Option (Int32 × Int32 × Int32) :=
  some (p0, p1, (0 : Int32))
abbrev rm_H_begin : Room := { frames := 0, cells := 0, slots := 0, locals := 0 }
set_option maxHeartbeats 4000000 in
set_option maxRecDepth 100000 in
theorem c_H_begin (l : Launch) (D : va_G) (cI cJ cZ : ClassId) (aH aH_statementRow aH_firstRow aH_secondRow : Nat) (sz : Nat) (H_kind : Int32) (H_subject : Int32) (H_count : Int32) (p0 : Int32) (p1 : Int32) (o : Int32 × Int32 × Int32) (hf : f_H_begin H_kind H_subject H_count p0 p1 = some o) : Met l y_H_begin (ws_H_begin) rm_H_begin (WPc D vwCl cI cJ cZ [.ref aH, .int p0, .int p1] (wv_30 cI cJ cZ aH aH_statementRow aH_firstRow aH_secondRow H_kind H_subject H_count) sz) (WQ D vwCl none (wv_30 cI cJ cZ aH aH_statementRow aH_firstRow aH_secondRow o.1 o.2.1 o.2.2) (va_A (wv_30 cI cJ cZ aH aH_statementRow aH_firstRow aH_secondRow H_kind H_subject H_count) sz)) 0 0 (va_A (wv_30 cI cJ cZ aH aH_statementRow aH_firstRow aH_secondRow H_kind H_subject H_count) sz) := by
  refine Met.ofW (cc := b_H_begin) (maxL := 3) (ret := none) (by decide) rfl ?_
  intro p e s m args below meth c s₁ B hml hv
  obtain ⟨rfl, rfl, hP, hK, hD0⟩ := hv
  have hx := B.exec
  have hb := B.bytes
  have hr := B.returns
  have hts : ∀ w ∈ BG, w.before _ s = true := fun w h => atoms_spec (ws := (ws_H_begin)) B.pre w (List.mem_cons_of_mem _ h)
  have hown : s.vm.findClass RR_H = some m.cls := findClass_of_methodNamed B.named
  have hlocks := B.notSynchronized
  have hD := hD0.self (sz := s.heap.size)
  have hA : ∀ q : Nat, s.heap.size ≤ q → va_A (wv_30 cI cJ cZ aH aH_statementRow aH_firstRow aH_secondRow H_kind H_subject H_count) s.heap.size q := fun q h => Or.inr h
  have hS : va_S (va_A (wv_30 cI cJ cZ aH aH_statementRow aH_firstRow aH_secondRow H_kind H_subject H_count) s.heap.size) s.heap s.heap [] := va_S.rf
  generalize va_A (wv_30 cI cJ cZ aH aH_statementRow aH_firstRow aH_secondRow H_kind H_subject H_count) s.heap.size = A at hD hA hS ⊢
  have hl := lv_entry ([.ref aH, .int p0, .int p1]) (n := 3) (Nat.le_of_ble_eq_true rfl)
  rw [lg_entry_eq]
  generalize (lg_sl ([.ref aH, .int p0, .int p1]) ++ List.replicate (3 - (lg_sl ([.ref aH, .int p0, .int p1])).length) Slot.unset).toArray = ls at hl ⊢
  have hl : lv_has ls 3 [(0, .ref aH), (1, .int p0), (2, .int p1)] := hl
  rw [f_H_begin] at hf
  refine lv_aload_n hx hb d_H_begin_0 rfl (lv_at hl 0 rfl) ?_
  refine lv_iload_n hx hb d_H_begin_1 rfl (lv_at hl 1 rfl) ?_
  refine va_put (D := D) (ci := 6) (v := .int p0) (ty := .int) (C := RR_H) (T := FF_H) (N := 6) hx hb hts kin_H TT_H tok_H nok_H hown hK.1 hP hD hS 0 rfl rfl 3 (by decide) (hts _ k1_187) (fun _ h9 => h9) rfl (by decide +kernel) rfl rfl (Nat.le_of_ble_eq_true rfl) d_H_begin_2 (fun H locs hP hD hS => ?_)
  have hP : va_P D vwCl (wv_30 cI cJ cZ aH aH_statementRow aH_firstRow aH_secondRow p0 H_subject H_count) H := hP
  have hD : va_D A (wv_30 cI cJ cZ aH aH_statementRow aH_firstRow aH_secondRow p0 H_subject H_count) := hD
  refine lv_aload_n hx hb d_H_begin_5 rfl (lv_at hl 0 rfl) ?_
  refine lv_iload_n hx hb d_H_begin_6 rfl (lv_at hl 2 rfl) ?_
  refine va_put (D := D) (ci := 6) (v := .int p1) (ty := .int) (C := RR_H) (T := FF_H) (N := 6) hx hb hts kin_H TT_H tok_H nok_H hown hK.1 hP hD hS 0 rfl rfl 4 (by decide) (hts _ k1_188) (fun _ h9 => h9) rfl (by decide +kernel) rfl rfl (Nat.le_of_ble_eq_true rfl) d_H_begin_7 (fun H locs hP hD hS => ?_)
  have hP : va_P D vwCl (wv_30 cI cJ cZ aH aH_statementRow aH_firstRow aH_secondRow p0 p1 H_count) H := hP
  have hD : va_D A (wv_30 cI cJ cZ aH aH_statementRow aH_firstRow aH_secondRow p0 p1 H_count) := hD
  refine lv_aload_n hx hb d_H_begin_10 rfl (lv_at hl 0 rfl) ?_
  refine lv_iconst (v := 0) hx hb d_H_begin_11 (by decide) ?_
  refine va_put (D := D) (ci := 6) (v := .int (0 : Int32)) (ty := .int) (C := RR_H) (T := FF_H) (N := 6) hx hb hts kin_H TT_H tok_H nok_H hown hK.1 hP hD hS 0 rfl rfl 5 (by decide) (hts _ k1_189) (fun _ h9 => h9) rfl (by decide +kernel) rfl rfl (Nat.le_of_ble_eq_true rfl) d_H_begin_12 (fun H locs hP hD hS => ?_)
  have hP : va_P D vwCl (wv_30 cI cJ cZ aH aH_statementRow aH_firstRow aH_secondRow p0 p1 (0 : Int32)) H := hP
  have hD : va_D A (wv_30 cI cJ cZ aH aH_statementRow aH_firstRow aH_secondRow p0 p1 (0 : Int32)) := hD
  obtain rfl := Option.some.inj hf
  exact W.vret hx hb hr (fun t ht hW => ⟨rfl, by rw [ht]; exact hP, hD, hS.F ht⟩) hS.2.2 d_H_begin_15
def f_H_clear (H_kind : Int32) (H_subject : Int32) (H_count : Int32) : Option (Int32 × Int32 × Int32) :=
  (f_H_begin H_kind H_subject H_count (-1 : Int32) (-1 : Int32)).bind fun r1 =>
  some (r1.1, r1.2.1, r1.2.2)
abbrev rm_H_clear : Room := { frames := 1, cells := 0, slots := 0, locals := 22 }
set_option maxHeartbeats 4000000 in
set_option maxRecDepth 100000 in
theorem c_H_clear (l : Launch) (D : va_G) (cI cJ cZ : ClassId) (aH aH_statementRow aH_firstRow aH_secondRow : Nat) (sz : Nat) (H_kind : Int32) (H_subject : Int32) (H_count : Int32) (o : Int32 × Int32 × Int32) (hf : f_H_clear H_kind H_subject H_count = some o) : Met l y_H_clear (ws_H_clear) rm_H_clear (WPc D vwCl cI cJ cZ [.ref aH] (wv_30 cI cJ cZ aH aH_statementRow aH_firstRow aH_secondRow H_kind H_subject H_count) sz) (WQ D vwCl none (wv_30 cI cJ cZ aH aH_statementRow aH_firstRow aH_secondRow o.1 o.2.1 o.2.2) (va_A (wv_30 cI cJ cZ aH aH_statementRow aH_firstRow aH_secondRow H_kind H_subject H_count) sz)) 0 0 (va_A (wv_30 cI cJ cZ aH aH_statementRow aH_firstRow aH_secondRow H_kind H_subject H_count) sz) := by
  refine Met.ofW (cc := b_H_clear) (maxL := 1) (ret := none) (by decide) rfl ?_
  intro p e s m args below meth c s₁ B hml hv
  obtain ⟨rfl, rfl, hP, hK, hD0⟩ := hv
  have hx := B.exec
  have hb := B.bytes
  have hr := B.returns
  have hts : ∀ w ∈ BG, w.before _ s = true := fun w h => atoms_spec (ws := (ws_H_clear)) B.pre w (List.mem_cons_of_mem _ h)
  have hown : s.vm.findClass RR_H = some m.cls := findClass_of_methodNamed B.named
  have hlocks := B.notSynchronized
  have hD := hD0.self (sz := s.heap.size)
  have hA : ∀ q : Nat, s.heap.size ≤ q → va_A (wv_30 cI cJ cZ aH aH_statementRow aH_firstRow aH_secondRow H_kind H_subject H_count) s.heap.size q := fun q h => Or.inr h
  have hS : va_S (va_A (wv_30 cI cJ cZ aH aH_statementRow aH_firstRow aH_secondRow H_kind H_subject H_count) s.heap.size) s.heap s.heap [] := va_S.rf
  generalize va_A (wv_30 cI cJ cZ aH aH_statementRow aH_firstRow aH_secondRow H_kind H_subject H_count) s.heap.size = A at hD hA hS ⊢
  have hl := lv_entry ([.ref aH]) (n := 1) (Nat.le_of_ble_eq_true rfl)
  rw [lg_entry_eq]
  generalize (lg_sl ([.ref aH]) ++ List.replicate (1 - (lg_sl ([.ref aH])).length) Slot.unset).toArray = ls at hl ⊢
  have hl : lv_has ls 1 [(0, .ref aH)] := hl
  rw [f_H_clear] at hf
  refine lv_aload_n hx hb d_H_clear_0 rfl (lv_at hl 0 rfl) ?_
  refine lv_iconst (v := -1) hx hb d_H_clear_1 (by decide) ?_
  refine lv_iconst (v := -1) hx hb d_H_clear_2 (by decide) ?_
  obtain ⟨r1, hr1, hf⟩ := of_bd hf
  refine wr_call (ws' := (wv_30 cI cJ cZ aH aH_statementRow aH_firstRow aH_secondRow r1.1 r1.2.1 r1.2.2)) (va_runV (As := [.int (-1 : Int32), .int (-1 : Int32)]) (rest := []) ⟨hx, hb, hml, hown, hts⟩ (c_H_begin l D cI cJ cZ aH aH_statementRow aH_firstRow aH_secondRow _ H_kind H_subject H_count (-1 : Int32) (-1 : Int32) r1 hr1) (bigV 2 hts k2_16 k2_17 k2_18 k1_8 k2_19 rfl rfl hd_H_begin ⟨Nat.le_of_ble_eq_true rfl, Nat.le_of_ble_eq_true rfl⟩) (wr_preV hK hP hD [0] rfl (by decide) rfl 0 rfl rfl rfl) rfl rfl hl.1 rfl (lv_room (Nat.le_of_ble_eq_true rfl)) d_H_clear_3 ⟨Nat.le_of_ble_eq_true rfl, Nat.le_of_ble_eq_true rfl⟩) hP hD hS hA [0] [] rfl rfl (by decide) (by decide) [0] (by decide) rfl (fun H locs hP hD hS => ?_)
  obtain rfl := Option.some.inj hf
  exact W.vret hx hb hr (fun t ht hW => ⟨rfl, by rw [ht]; exact hP, hD, hS.F ht⟩) hS.2.2 d_H_clear_6
def f_H_add (H_count : Int32) (H_statementRow : (Nat → Int32)) (H_firstRow : (Nat → Int32)) (H_secondRow : (Nat → Int32)) (p0 : Int32) (p1 : Int32) (p2 : Int32) : Option (Int32 × (Nat → Int32) × (Nat → Int32) × (Nat → Int32)) :=
  if (30 : Int32) ≤ H_count then
    some (H_count, H_statementRow, H_firstRow, H_secondRow)
  else
    (f_H_put H_statementRow H_firstRow H_secondRow H_count p0 p1 p2).bind fun r2 =>
    nm (H_count + (1 : Int32)) fun x3 =>
    some (x3, r2.1, r2.2.1, r2.2.2)
abbrev rm_H_add : Room := { frames := 1, cells := 0, slots := 0, locals := 24 }
set_option maxHeartbeats 4000000 in
set_option maxRecDepth 100000 in
theorem c_H_add (l : Launch) (D : va_G) (cI cJ cZ : ClassId) (aH aH_statementRow aH_firstRow aH_secondRow : Nat) (sz : Nat) (H_kind : Int32) (H_subject : Int32) (H_count : Int32) (H_statementRow : (Nat → Int32)) (H_firstRow : (Nat → Int32)) (H_secondRow : (Nat → Int32)) (p0 : Int32) (p1 : Int32) (p2 : Int32) (o : Int32 × (Nat → Int32) × (Nat → Int32) × (Nat → Int32)) (hf : f_H_add H_count H_statementRow H_firstRow H_secondRow p0 p1 p2 = some o) : Met l y_H_add (ws_H_add) rm_H_add (WPc D vwCl cI cJ cZ [.ref aH, .int p0, .int p1, .int p2] (wv_29 cI cJ cZ aH aH_statementRow aH_firstRow aH_secondRow H_kind H_subject H_count H_statementRow H_firstRow H_secondRow) sz) (WQ D vwCl none (wv_29 cI cJ cZ aH aH_statementRow aH_firstRow aH_secondRow H_kind H_subject o.1 o.2.1 o.2.2.1 o.2.2.2) (va_A (wv_29 cI cJ cZ aH aH_statementRow aH_firstRow aH_secondRow H_kind H_subject H_count H_statementRow H_firstRow H_secondRow) sz)) 0 0 (va_A (wv_29 cI cJ cZ aH aH_statementRow aH_firstRow aH_secondRow H_kind H_subject H_count H_statementRow H_firstRow H_secondRow) sz) := by
  refine Met.ofW (cc := b_H_add) (maxL := 4) (ret := none) (by decide) rfl ?_
  intro p e s m args below meth c s₁ B hml hv
  obtain ⟨rfl, rfl, hP, hK, hD0⟩ := hv
  have hx := B.exec
  have hb := B.bytes
  have hr := B.returns
  have hts : ∀ w ∈ BG, w.before _ s = true := fun w h => atoms_spec (ws := (ws_H_add)) B.pre w (List.mem_cons_of_mem _ h)
  have hown : s.vm.findClass RR_H = some m.cls := findClass_of_methodNamed B.named
  have hlocks := B.notSynchronized
  have hD := hD0.self (sz := s.heap.size)
  have hA : ∀ q : Nat, s.heap.size ≤ q → va_A (wv_29 cI cJ cZ aH aH_statementRow aH_firstRow aH_secondRow H_kind H_subject H_count H_statementRow H_firstRow H_secondRow) s.heap.size q := fun q h => Or.inr h
  have hS : va_S (va_A (wv_29 cI cJ cZ aH aH_statementRow aH_firstRow aH_secondRow H_kind H_subject H_count H_statementRow H_firstRow H_secondRow) s.heap.size) s.heap s.heap [] := va_S.rf
  generalize va_A (wv_29 cI cJ cZ aH aH_statementRow aH_firstRow aH_secondRow H_kind H_subject H_count H_statementRow H_firstRow H_secondRow) s.heap.size = A at hD hA hS ⊢
  have hl := lv_entry ([.ref aH, .int p0, .int p1, .int p2]) (n := 4) (Nat.le_of_ble_eq_true rfl)
  rw [lg_entry_eq]
  generalize (lg_sl ([.ref aH, .int p0, .int p1, .int p2]) ++ List.replicate (4 - (lg_sl ([.ref aH, .int p0, .int p1, .int p2])).length) Slot.unset).toArray = ls at hl ⊢
  have hl : lv_has ls 4 [(0, .ref aH), (1, .int p0), (2, .int p1), (3, .int p2)] := hl
  rw [f_H_add] at hf
  refine lv_aload_n hx hb d_H_add_0 rfl (lv_at hl 0 rfl) ?_
  refine va_get (D := D) (ci := 6) (v := .int H_count) (C := RR_H) (T := FF_H) (N := 6) hx hb hts kin_H hown hK.1 hP 0 rfl rfl 5 (by decide) (hts _ k1_189) (fun _ h9 => h9) rfl d_H_add_1 ?_
  refine lv_bipush (v := 30) hx hb d_H_add_4 (by decide) ?_
  refine lv_icmp_ge (tgt := 30) hx hb d_H_add_6 (by decide) (fun c1 => ?_) (fun c1 => ?_)
  · have hf := ite_t c1 hf
    obtain rfl := Option.some.inj hf
    exact W.vret hx hb hr (fun t ht hW => ⟨rfl, by rw [ht]; exact hP, hD, hS.F ht⟩) hS.2.2 d_H_add_30
  · have hf := ite_f c1 hf
    refine lv_aload_n hx hb d_H_add_9 rfl (lv_at hl 0 rfl) ?_
    refine lv_aload_n hx hb d_H_add_10 rfl (lv_at hl 0 rfl) ?_
    refine va_get (D := D) (ci := 6) (v := .int H_count) (C := RR_H) (T := FF_H) (N := 6) hx hb hts kin_H hown hK.1 hP 0 rfl rfl 5 (by decide) (hts _ k1_189) (fun _ h9 => h9) rfl d_H_add_11 ?_
    refine lv_iload_n hx hb d_H_add_14 rfl (lv_at hl 1 rfl) ?_
    refine lv_iload_n hx hb d_H_add_15 rfl (lv_at hl 2 rfl) ?_
    refine lv_iload_n hx hb d_H_add_16 rfl (lv_at hl 3 rfl) ?_
    obtain ⟨r2, hr2, hf⟩ := of_bd hf
    refine wr_call (ws' := (wv_29 cI cJ cZ aH aH_statementRow aH_firstRow aH_secondRow H_kind H_subject H_count r2.1 r2.2.1 r2.2.2)) (va_runV (As := [.int H_count, .int p0, .int p1, .int p2]) (rest := []) ⟨hx, hb, hml, hown, hts⟩ (c_H_put l D cI cJ cZ aH aH_statementRow aH_firstRow aH_secondRow _ H_kind H_subject H_count H_statementRow H_firstRow H_secondRow H_count p0 p1 p2 r2 hr2) (bigV 4 hts k3_104 k3_106 ks_H_put k1_8 k3_107 rfl rfl hd_H_put ⟨Nat.le_of_ble_eq_true rfl, Nat.le_of_ble_eq_true rfl⟩) (wr_preV hK hP hD [0, 1, 2, 3] rfl (by decide) rfl 0 rfl rfl rfl) rfl rfl hl.1 rfl (lv_room (Nat.le_of_ble_eq_true rfl)) d_H_add_17 ⟨Nat.le_of_ble_eq_true rfl, Nat.le_of_ble_eq_true rfl⟩) hP hD hS hA [0, 1, 2, 3] [] rfl rfl (by decide) (by decide) [0, 1, 2, 3] (by decide) rfl (fun H locs hP hD hS => ?_)
    refine lv_aload_n hx hb d_H_add_20 rfl (lv_at hl 0 rfl) ?_
    refine lv_dup hx hb d_H_add_21 rfl ?_
    refine va_get (D := D) (ci := 6) (v := .int H_count) (C := RR_H) (T := FF_H) (N := 6) hx hb hts kin_H hown hK.1 hP 0 rfl rfl 5 (by decide) (hts _ k1_189) (fun _ h9 => h9) rfl d_H_add_22 ?_
    refine lv_iconst (v := 1) hx hb d_H_add_25 (by decide) ?_
    refine lv_iadd hx hb d_H_add_26 ?_
    refine lv_topi (fun x3 ex3 => ?_)
    have hf := of_nm ex3 hf
    refine va_put (D := D) (ci := 6) (v := .int x3) (ty := .int) (C := RR_H) (T := FF_H) (N := 6) hx hb hts kin_H TT_H tok_H nok_H hown hK.1 hP hD hS 0 rfl rfl 5 (by decide) (hts _ k1_189) (fun _ h9 => h9) rfl (by decide +kernel) rfl rfl (Nat.le_of_ble_eq_true rfl) d_H_add_27 (fun H locs hP hD hS => ?_)
    have hP : va_P D vwCl (wv_29 cI cJ cZ aH aH_statementRow aH_firstRow aH_secondRow H_kind H_subject x3 r2.1 r2.2.1 r2.2.2) H := hP
    have hD : va_D A (wv_29 cI cJ cZ aH aH_statementRow aH_firstRow aH_secondRow H_kind H_subject x3 r2.1 r2.2.1 r2.2.2) := hD
    obtain rfl := Option.some.inj hf
    exact W.vret hx hb hr (fun t ht hW => ⟨rfl, by rw [ht]; exact hP, hD, hS.F ht⟩) hS.2.2 d_H_add_30
def f_H_addByShare_L13 : Nat → Int32 → (Nat → Int32) → (Nat → Int32) → (Nat → Int32) → Int32 → Int32 → Int32 → Int32 → Option (Int32 × (Nat → Int32) × (Nat → Int32) × (Nat → Int32))
  | 0, _, _, _, _, _, _, _, _ => none
  | n + 1, H_count_13, H_statementRow_13, H_firstRow_13, H_secondRow_13, x1_13, x2_13, x3_13, x4_13 =>
    if x4_13 ≤ 0 then
      some (H_count_13, H_statementRow_13, H_firstRow_13, H_secondRow_13)
    else
      if H_count_13 ≤ x4_13 then
        some (H_count_13, H_statementRow_13, H_firstRow_13, H_secondRow_13)
      else
        gd (ixb (x4_13 - (1 : Int32)) 30) <|
        gd (ixb (x4_13 - (1 : Int32)) 30) <|
        if (x2_13 * (H_secondRow_13 (x4_13 - (1 : Int32)).toNatClampNeg)) ≤ ((H_firstRow_13 (x4_13 - (1 : Int32)).toNatClampNeg) * x3_13) then
          some (H_count_13, H_statementRow_13, H_firstRow_13, H_secondRow_13)
        else
          gd (ixb (x4_13 - (1 : Int32)) 30) <|
          gd (ixb (x4_13 - (1 : Int32)) 30) <|
          gd (ixb (x4_13 - (1 : Int32)) 30) <|
          (f_H_put H_statementRow_13 H_firstRow_13 H_secondRow_13 x4_13 (H_statementRow_13 (x4_13 - (1 : Int32)).toNatClampNeg) (H_firstRow_13 (x4_13 - (1 : Int32)).toNatClampNeg) (H_secondRow_13 (x4_13 - (1 : Int32)).toNatClampNeg)).bind fun r10 =>
          (f_H_put r10.1 r10.2.1 r10.2.2 (x4_13 - (1 : Int32)) x1_13 x2_13 x3_13).bind fun r11 =>
          nm (x4_13 + (-1 : Int32)) fun x12 =>
          (f_H_addByShare_L13 n) H_count_13 r11.1 r11.2.1 r11.2.2 x1_13 x2_13 x3_13 x12
def f_H_addByShare (H_count : Int32) (H_statementRow : (Nat → Int32)) (H_firstRow : (Nat → Int32)) (H_secondRow : (Nat → Int32)) (p0 : Int32) (p1 : Int32) (p2 : Int32) : Option (Int32 × (Nat → Int32) × (Nat → Int32) × (Nat → Int32)) :=
  (f_H_add H_count H_statementRow H_firstRow H_secondRow p0 p1 p2).bind fun r1 =>
  f_H_addByShare_L13 FU r1.1 r1.2.1 r1.2.2.1 r1.2.2.2 p0 p1 p2 H_count
abbrev rm_H_addByShare : Room := { frames := 2, cells := 0, slots := 0, locals := 47 }
set_option maxHeartbeats 4000000 in
set_option maxRecDepth 100000 in
theorem c_H_addByShare (l : Launch) (D : va_G) (cI cJ cZ : ClassId) (aH aH_statementRow aH_firstRow aH_secondRow : Nat) (sz : Nat) (H_kind : Int32) (H_subject : Int32) (H_count : Int32) (H_statementRow : (Nat → Int32)) (H_firstRow : (Nat → Int32)) (H_secondRow : (Nat → Int32)) (p0 : Int32) (p1 : Int32) (p2 : Int32) (o : Int32 × (Nat → Int32) × (Nat → Int32) × (Nat → Int32)) (hf : f_H_addByShare H_count H_statementRow H_firstRow H_secondRow p0 p1 p2 = some o) : Met l y_H_addByShare (ws_H_addByShare) rm_H_addByShare (WPc D vwCl cI cJ cZ [.ref aH, .int p0, .int p1, .int p2] (wv_29 cI cJ cZ aH aH_statementRow aH_firstRow aH_secondRow H_kind H_subject H_count H_statementRow H_firstRow H_secondRow) sz) (WQ D vwCl none (wv_29 cI cJ cZ aH aH_statementRow aH_firstRow aH_secondRow H_kind H_subject o.1 o.2.1 o.2.2.1 o.2.2.2) (va_A (wv_29 cI cJ cZ aH aH_statementRow aH_firstRow aH_secondRow H_kind H_subject H_count H_statementRow H_firstRow H_secondRow) sz)) 0 0 (va_A (wv_29 cI cJ cZ aH aH_statementRow aH_firstRow aH_secondRow H_kind H_subject H_count H_statementRow H_firstRow H_secondRow) sz) := by
  refine Met.ofW (cc := b_H_addByShare) (maxL := 5) (ret := none) (by decide) rfl ?_
  intro p e s m args below meth c s₁ B hml hv
  obtain ⟨rfl, rfl, hP, hK, hD0⟩ := hv
  have hx := B.exec
  have hb := B.bytes
  have hr := B.returns
  have hts : ∀ w ∈ BG, w.before _ s = true := fun w h => atoms_spec (ws := (ws_H_addByShare)) B.pre w (List.mem_cons_of_mem _ h)
  have hown : s.vm.findClass RR_H = some m.cls := findClass_of_methodNamed B.named
  have hlocks := B.notSynchronized
  have hD := hD0.self (sz := s.heap.size)
  have hA : ∀ q : Nat, s.heap.size ≤ q → va_A (wv_29 cI cJ cZ aH aH_statementRow aH_firstRow aH_secondRow H_kind H_subject H_count H_statementRow H_firstRow H_secondRow) s.heap.size q := fun q h => Or.inr h
  have hS : va_S (va_A (wv_29 cI cJ cZ aH aH_statementRow aH_firstRow aH_secondRow H_kind H_subject H_count H_statementRow H_firstRow H_secondRow) s.heap.size) s.heap s.heap [] := va_S.rf
  generalize va_A (wv_29 cI cJ cZ aH aH_statementRow aH_firstRow aH_secondRow H_kind H_subject H_count H_statementRow H_firstRow H_secondRow) s.heap.size = A at hD hA hS ⊢
  have hl := lv_entry ([.ref aH, .int p0, .int p1, .int p2]) (n := 5) (Nat.le_of_ble_eq_true rfl)
  rw [lg_entry_eq]
  generalize (lg_sl ([.ref aH, .int p0, .int p1, .int p2]) ++ List.replicate (5 - (lg_sl ([.ref aH, .int p0, .int p1, .int p2])).length) Slot.unset).toArray = ls at hl ⊢
  have hl : lv_has ls 5 [(0, .ref aH), (1, .int p0), (2, .int p1), (3, .int p2)] := hl
  have hL13 : ∀ (n13 : Nat), ∀ (H_count_13 : Int32) (H_statementRow_13 : (Nat → Int32)) (H_firstRow_13 : (Nat → Int32)) (H_secondRow_13 : (Nat → Int32)) (x1_13 : Int32) (x2_13 : Int32) (x3_13 : Int32) (x4_13 : Int32), ∀ (H : Heap) (locs : List Loc), va_P D vwCl (wv_29 cI cJ cZ aH aH_statementRow aH_firstRow aH_secondRow H_kind H_subject H_count_13 H_statementRow_13 H_firstRow_13 H_secondRow_13) H → va_D A (wv_29 cI cJ cZ aH aH_statementRow aH_firstRow aH_secondRow H_kind H_subject H_count_13 H_statementRow_13 H_firstRow_13 H_secondRow_13) → va_S A s.heap H locs → ∀ (ls : Array Slot), lv_has ls 5 [(0, .ref aH), (1, .int x1_13), (2, .int x2_13), (3, .int x3_13), (4, .int x4_13)] → f_H_addByShare_L13 n13 H_count_13 H_statementRow_13 H_firstRow_13 H_secondRow_13 x1_13 x2_13 x3_13 x4_13 = some o → W p l e (headSpec (ws_H_addByShare) rm_H_addByShare).room s m ([.ref aH, .int p0, .int p1, .int p2] : List Value).toArray below meth c H locs 0 0 (MQ below (WQ D vwCl none (wv_29 cI cJ cZ aH aH_statementRow aH_firstRow aH_secondRow H_kind H_subject o.1 o.2.1 o.2.2.1 o.2.2.2) A) ([.ref aH, .int p0, .int p1, .int p2] : List Value).toArray s 0 0 A) (F0 m 13 ls []) := by
    intro n13
    induction n13 with
    | zero =>
      intro H_count_13 H_statementRow_13 H_firstRow_13 H_secondRow_13 x1_13 x2_13 x3_13 x4_13 H locs hP hD hS ls hl hf
      rw [f_H_addByShare_L13] at hf
      cases hf
    | succ n13 ih13 =>
      intro H_count_13 H_statementRow_13 H_firstRow_13 H_secondRow_13 x1_13 x2_13 x3_13 x4_13 H locs hP hD hS ls hl hf
      rw [f_H_addByShare_L13] at hf
      refine lv_iload hx hb d_H_addByShare_13 (lv_at hl 4 rfl) ?_
      refine lv_if_le (tgt := 102) hx hb d_H_addByShare_15 (by decide) (fun c2 => ?_) (fun c2 => ?_)
      · have hf := ite_t c2 hf
        obtain rfl := Option.some.inj hf
        exact W.vret hx hb hr (fun t ht hW => ⟨rfl, by rw [ht]; exact hP, hD, hS.F ht⟩) hS.2.2 d_H_addByShare_102
      · have hf := ite_f c2 hf
        refine lv_iload hx hb d_H_addByShare_18 (lv_at hl 4 rfl) ?_
        refine lv_aload_n hx hb d_H_addByShare_20 rfl (lv_at hl 0 rfl) ?_
        refine va_get (D := D) (ci := 6) (v := .int H_count_13) (C := RR_H) (T := FF_H) (N := 6) hx hb hts kin_H hown hK.1 hP 0 rfl rfl 5 (by decide) (hts _ k1_189) (fun _ h9 => h9) rfl d_H_addByShare_21 ?_
        refine lv_icmp_ge (tgt := 102) hx hb d_H_addByShare_24 (by decide) (fun c3 => ?_) (fun c3 => ?_)
        · have hf := ite_t c3 hf
          obtain rfl := Option.some.inj hf
          exact W.vret hx hb hr (fun t ht hW => ⟨rfl, by rw [ht]; exact hP, hD, hS.F ht⟩) hS.2.2 d_H_addByShare_102
        · have hf := ite_f c3 hf
          refine lv_aload_n hx hb d_H_addByShare_27 rfl (lv_at hl 0 rfl) ?_
          refine va_get (D := D) (ci := 6) (v := .ref aH_firstRow) (C := RR_H) (T := FF_H) (N := 6) hx hb hts kin_H hown hK.1 hP 0 rfl rfl 1 (by decide) (hts _ k1_185) (fun _ h9 => h9) rfl d_H_addByShare_28 ?_
          refine lv_iload hx hb d_H_addByShare_31 (lv_at hl 4 rfl) ?_
          refine lv_iconst (v := 1) hx hb d_H_addByShare_33 (by decide) ?_
          refine lv_isub hx hb d_H_addByShare_34 ?_
          obtain ⟨h4, hf⟩ := of_gd hf
          refine va_iald hx hb hK.1 hP 2 0 rfl rfl (ixb_in h4) d_H_addByShare_35 ?_
          refine lv_iload_n hx hb d_H_addByShare_36 rfl (lv_at hl 3 rfl) ?_
          refine lv_imul hx hb d_H_addByShare_37 ?_
          refine lv_iload_n hx hb d_H_addByShare_38 rfl (lv_at hl 2 rfl) ?_
          refine lv_aload_n hx hb d_H_addByShare_39 rfl (lv_at hl 0 rfl) ?_
          refine va_get (D := D) (ci := 6) (v := .ref aH_secondRow) (C := RR_H) (T := FF_H) (N := 6) hx hb hts kin_H hown hK.1 hP 0 rfl rfl 2 (by decide) (hts _ k1_186) (fun _ h9 => h9) rfl d_H_addByShare_40 ?_
          refine lv_iload hx hb d_H_addByShare_43 (lv_at hl 4 rfl) ?_
          refine lv_iconst (v := 1) hx hb d_H_addByShare_45 (by decide) ?_
          refine lv_isub hx hb d_H_addByShare_46 ?_
          obtain ⟨h5, hf⟩ := of_gd hf
          refine va_iald hx hb hK.1 hP 3 0 rfl rfl (ixb_in h5) d_H_addByShare_47 ?_
          refine lv_imul hx hb d_H_addByShare_48 ?_
          refine lv_icmp_ge (tgt := 102) hx hb d_H_addByShare_49 (by decide) (fun c6 => ?_) (fun c6 => ?_)
          · have hf := ite_t c6 hf
            obtain rfl := Option.some.inj hf
            exact W.vret hx hb hr (fun t ht hW => ⟨rfl, by rw [ht]; exact hP, hD, hS.F ht⟩) hS.2.2 d_H_addByShare_102
          · have hf := ite_f c6 hf
            refine lv_aload_n hx hb d_H_addByShare_52 rfl (lv_at hl 0 rfl) ?_
            refine lv_iload hx hb d_H_addByShare_53 (lv_at hl 4 rfl) ?_
            refine lv_aload_n hx hb d_H_addByShare_55 rfl (lv_at hl 0 rfl) ?_
            refine va_get (D := D) (ci := 6) (v := .ref aH_statementRow) (C := RR_H) (T := FF_H) (N := 6) hx hb hts kin_H hown hK.1 hP 0 rfl rfl 0 (by decide) (hts _ k1_184) (fun _ h9 => h9) rfl d_H_addByShare_56 ?_
            refine lv_iload hx hb d_H_addByShare_59 (lv_at hl 4 rfl) ?_
            refine lv_iconst (v := 1) hx hb d_H_addByShare_61 (by decide) ?_
            refine lv_isub hx hb d_H_addByShare_62 ?_
            obtain ⟨h7, hf⟩ := of_gd hf
            refine va_iald hx hb hK.1 hP 1 0 rfl rfl (ixb_in h7) d_H_addByShare_63 ?_
            refine lv_aload_n hx hb d_H_addByShare_64 rfl (lv_at hl 0 rfl) ?_
            refine va_get (D := D) (ci := 6) (v := .ref aH_firstRow) (C := RR_H) (T := FF_H) (N := 6) hx hb hts kin_H hown hK.1 hP 0 rfl rfl 1 (by decide) (hts _ k1_185) (fun _ h9 => h9) rfl d_H_addByShare_65 ?_
            refine lv_iload hx hb d_H_addByShare_68 (lv_at hl 4 rfl) ?_
            refine lv_iconst (v := 1) hx hb d_H_addByShare_70 (by decide) ?_
            refine lv_isub hx hb d_H_addByShare_71 ?_
            obtain ⟨h8, hf⟩ := of_gd hf
            refine va_iald hx hb hK.1 hP 2 0 rfl rfl (ixb_in h8) d_H_addByShare_72 ?_
            refine lv_aload_n hx hb d_H_addByShare_73 rfl (lv_at hl 0 rfl) ?_
            refine va_get (D := D) (ci := 6) (v := .ref aH_secondRow) (C := RR_H) (T := FF_H) (N := 6) hx hb hts kin_H hown hK.1 hP 0 rfl rfl 2 (by decide) (hts _ k1_186) (fun _ h9 => h9) rfl d_H_addByShare_74 ?_
            refine lv_iload hx hb d_H_addByShare_77 (lv_at hl 4 rfl) ?_
            refine lv_iconst (v := 1) hx hb d_H_addByShare_79 (by decide) ?_
            refine lv_isub hx hb d_H_addByShare_80 ?_
            obtain ⟨h9, hf⟩ := of_gd hf
            refine va_iald hx hb hK.1 hP 3 0 rfl rfl (ixb_in h9) d_H_addByShare_81 ?_
            obtain ⟨r10, hr10, hf⟩ := of_bd hf
            refine wr_call (ws' := (wv_29 cI cJ cZ aH aH_statementRow aH_firstRow aH_secondRow H_kind H_subject H_count_13 r10.1 r10.2.1 r10.2.2)) (va_runV (As := [.int x4_13, .int (H_statementRow_13 (x4_13 - (1 : Int32)).toNatClampNeg), .int (H_firstRow_13 (x4_13 - (1 : Int32)).toNatClampNeg), .int (H_secondRow_13 (x4_13 - (1 : Int32)).toNatClampNeg)]) (rest := []) ⟨hx, hb, hml, hown, hts⟩ (c_H_put l D cI cJ cZ aH aH_statementRow aH_firstRow aH_secondRow _ H_kind H_subject H_count_13 H_statementRow_13 H_firstRow_13 H_secondRow_13 x4_13 (H_statementRow_13 (x4_13 - (1 : Int32)).toNatClampNeg) (H_firstRow_13 (x4_13 - (1 : Int32)).toNatClampNeg) (H_secondRow_13 (x4_13 - (1 : Int32)).toNatClampNeg) r10 hr10) (bigV 4 hts k3_104 k3_106 ks_H_put k1_8 k3_107 rfl rfl hd_H_put ⟨Nat.le_of_ble_eq_true rfl, Nat.le_of_ble_eq_true rfl⟩) (wr_preV hK hP hD [0, 1, 2, 3] rfl (by decide) rfl 0 rfl rfl rfl) rfl rfl hl.1 rfl (lv_room (Nat.le_of_ble_eq_true rfl)) d_H_addByShare_82 ⟨Nat.le_of_ble_eq_true rfl, Nat.le_of_ble_eq_true rfl⟩) hP hD hS hA [0, 1, 2, 3] [] rfl rfl (by decide) (by decide) [0, 1, 2, 3] (by decide) rfl (fun H locs hP hD hS => ?_)
            refine lv_aload_n hx hb d_H_addByShare_85 rfl (lv_at hl 0 rfl) ?_
            refine lv_iload hx hb d_H_addByShare_86 (lv_at hl 4 rfl) ?_
            refine lv_iconst (v := 1) hx hb d_H_addByShare_88 (by decide) ?_
            refine lv_isub hx hb d_H_addByShare_89 ?_
            refine lv_iload_n hx hb d_H_addByShare_90 rfl (lv_at hl 1 rfl) ?_
            refine lv_iload_n hx hb d_H_addByShare_91 rfl (lv_at hl 2 rfl) ?_
            refine lv_iload_n hx hb d_H_addByShare_92 rfl (lv_at hl 3 rfl) ?_
            obtain ⟨r11, hr11, hf⟩ := of_bd hf
            refine wr_call (ws' := (wv_29 cI cJ cZ aH aH_statementRow aH_firstRow aH_secondRow H_kind H_subject H_count_13 r11.1 r11.2.1 r11.2.2)) (va_runV (As := [.int (x4_13 - (1 : Int32)), .int x1_13, .int x2_13, .int x3_13]) (rest := []) ⟨hx, hb, hml, hown, hts⟩ (c_H_put l D cI cJ cZ aH aH_statementRow aH_firstRow aH_secondRow _ H_kind H_subject H_count_13 r10.1 r10.2.1 r10.2.2 (x4_13 - (1 : Int32)) x1_13 x2_13 x3_13 r11 hr11) (bigV 4 hts k3_104 k3_106 ks_H_put k1_8 k3_107 rfl rfl hd_H_put ⟨Nat.le_of_ble_eq_true rfl, Nat.le_of_ble_eq_true rfl⟩) (wr_preV hK hP hD [0, 1, 2, 3] rfl (by decide) rfl 0 rfl rfl rfl) rfl rfl hl.1 rfl (lv_room (Nat.le_of_ble_eq_true rfl)) d_H_addByShare_93 ⟨Nat.le_of_ble_eq_true rfl, Nat.le_of_ble_eq_true rfl⟩) hP hD hS hA [0, 1, 2, 3] [] rfl rfl (by decide) (by decide) [0, 1, 2, 3] (by decide) rfl (fun H locs hP hD hS => ?_)
            obtain ⟨x12, ex12⟩ : ∃ y : Int32, y = x4_13 + (-1 : Int32) := ⟨_, rfl⟩
            refine lv_iinc (v := x12) (lv' := [(4, .int x12), (0, .ref aH), (1, .int x1_13), (2, .int x2_13), (3, .int x3_13)]) hx hb d_H_addByShare_96 hl (k := 4) rfl (by rw [ex12]; rfl) (by decide) rfl (fun ls hl => ?_)
            have hf := of_nm ex12 hf
            refine lv_goto (tgt := 13) hx hb d_H_addByShare_99 (by decide) ?_
            exact ih13 _ _ _ _ _ _ _ _ _ _ hP hD hS _ (lv_sub hl [1, 2, 3, 4, 0] rfl) hf
  rw [f_H_addByShare] at hf
  refine lv_aload_n hx hb d_H_addByShare_0 rfl (lv_at hl 0 rfl) ?_
  refine va_get (D := D) (ci := 6) (v := .int H_count) (C := RR_H) (T := FF_H) (N := 6) hx hb hts kin_H hown hK.1 hP 0 rfl rfl 5 (by decide) (hts _ k1_189) (fun _ h9 => h9) rfl d_H_addByShare_1 ?_
  refine lv_istore (lv' := [(4, .int H_count), (0, .ref aH), (1, .int p0), (2, .int p1), (3, .int p2)]) hx hb d_H_addByShare_4 hl (by decide) rfl (fun ls hl => ?_)
  refine lv_aload_n hx hb d_H_addByShare_6 rfl (lv_at hl 1 rfl) ?_
  refine lv_iload_n hx hb d_H_addByShare_7 rfl (lv_at hl 2 rfl) ?_
  refine lv_iload_n hx hb d_H_addByShare_8 rfl (lv_at hl 3 rfl) ?_
  refine lv_iload_n hx hb d_H_addByShare_9 rfl (lv_at hl 4 rfl) ?_
  obtain ⟨r1, hr1, hf⟩ := of_bd hf
  refine wr_call (ws' := (wv_29 cI cJ cZ aH aH_statementRow aH_firstRow aH_secondRow H_kind H_subject r1.1 r1.2.1 r1.2.2.1 r1.2.2.2)) (va_runV (As := [.int p0, .int p1, .int p2]) (rest := []) ⟨hx, hb, hml, hown, hts⟩ (c_H_add l D cI cJ cZ aH aH_statementRow aH_firstRow aH_secondRow _ H_kind H_subject H_count H_statementRow H_firstRow H_secondRow p0 p1 p2 r1 hr1) (bigV 3 hts k3_166 k3_101 k3_102 k1_8 k3_103 rfl rfl hd_H_add ⟨Nat.le_of_ble_eq_true rfl, Nat.le_of_ble_eq_true rfl⟩) (wr_preV hK hP hD [0, 1, 2, 3] rfl (by decide) rfl 0 rfl rfl rfl) rfl rfl hl.1 rfl (lv_room (Nat.le_of_ble_eq_true rfl)) d_H_addByShare_10 ⟨Nat.le_of_ble_eq_true rfl, Nat.le_of_ble_eq_true rfl⟩) hP hD hS hA [0, 1, 2, 3] [] rfl rfl (by decide) (by decide) [0, 1, 2, 3] (by decide) rfl (fun H locs hP hD hS => ?_)
  exact hL13 FU _ _ _ _ _ _ _ _ _ _ hP hD hS _ (lv_sub hl [1, 2, 3, 4, 0] rfl) hf
def f_H_kind (H_kind : Int32) : Option (Int32) :=
  some H_kind
abbrev rm_H_kind : Room := { frames := 0, cells := 0, slots := 0, locals := 0 }
set_option maxHeartbeats 4000000 in
set_option maxRecDepth 100000 in
theorem c_H_kind (l : Launch) (D : va_G) (cI cJ cZ : ClassId) (aH aH_statementRow aH_firstRow aH_secondRow : Nat) (H_kind : Int32) (H_subject : Int32) (H_count : Int32) (o : Int32) (hf : f_H_kind H_kind = some o) : Met l y_H_kind (ws_H_kind) rm_H_kind (RPc D vwCl cI cJ cZ [.ref aH] (wv_30 cI cJ cZ aH aH_statementRow aH_firstRow aH_secondRow H_kind H_subject H_count)) (RQ (some (.int o))) 0 0 (fun _ => False) := by
  refine Met.ofW (cc := b_H_kind) (maxL := 1) (ret := (some .int)) (by decide) rfl ?_
  intro p e s m args below meth c s₁ B hml hv
  obtain ⟨rfl, hP, hK⟩ := hv
  have hx := B.exec
  have hb := B.bytes
  have hr := B.returns
  have hts : ∀ w ∈ BG, w.before _ s = true := fun w h => atoms_spec (ws := (ws_H_kind)) B.pre w (List.mem_cons_of_mem _ h)
  have hown : s.vm.findClass RR_H = some m.cls := findClass_of_methodNamed B.named
  have hlocks := B.notSynchronized
  have hl := lv_entry ([.ref aH]) (n := 1) (Nat.le_of_ble_eq_true rfl)
  rw [lg_entry_eq]
  generalize (lg_sl ([.ref aH]) ++ List.replicate (1 - (lg_sl ([.ref aH])).length) Slot.unset).toArray = ls at hl ⊢
  have hl : lv_has ls 1 [(0, .ref aH)] := hl
  rw [f_H_kind] at hf
  refine lv_aload_n hx hb d_H_kind_0 rfl (lv_at hl 0 rfl) ?_
  refine va_get (D := D) (ci := 6) (v := .int H_kind) (C := RR_H) (T := FF_H) (N := 6) hx hb hts kin_H hown hK.1 hP 0 rfl rfl 3 (by decide) (hts _ k1_187) (fun _ h9 => h9) rfl d_H_kind_1 ?_
  obtain rfl := Option.some.inj hf
  exact W.iret (v := H_kind) hx hb hr (fun t ht hW => ⟨rfl, ht⟩) (fun q h => by cases h) d_H_kind_4
def f_H_subject (H_subject : Int32) : Option (Int32) :=
  some H_subject
abbrev rm_H_subject : Room := { frames := 0, cells := 0, slots := 0, locals := 0 }
set_option maxHeartbeats 4000000 in
set_option maxRecDepth 100000 in
theorem c_H_subject (l : Launch) (D : va_G) (cI cJ cZ : ClassId) (aH aH_statementRow aH_firstRow aH_secondRow : Nat) (H_kind : Int32) (H_subject : Int32) (H_count : Int32) (o : Int32) (hf : f_H_subject H_subject = some o) : Met l y_H_subject (ws_H_subject) rm_H_subject (RPc D vwCl cI cJ cZ [.ref aH] (wv_30 cI cJ cZ aH aH_statementRow aH_firstRow aH_secondRow H_kind H_subject H_count)) (RQ (some (.int o))) 0 0 (fun _ => False) := by
  refine Met.ofW (cc := b_H_subject) (maxL := 1) (ret := (some .int)) (by decide) rfl ?_
  intro p e s m args below meth c s₁ B hml hv
  obtain ⟨rfl, hP, hK⟩ := hv
  have hx := B.exec
  have hb := B.bytes
  have hr := B.returns
  have hts : ∀ w ∈ BG, w.before _ s = true := fun w h => atoms_spec (ws := (ws_H_subject)) B.pre w (List.mem_cons_of_mem _ h)
  have hown : s.vm.findClass RR_H = some m.cls := findClass_of_methodNamed B.named
  have hlocks := B.notSynchronized
  have hl := lv_entry ([.ref aH]) (n := 1) (Nat.le_of_ble_eq_true rfl)
  rw [lg_entry_eq]
  generalize (lg_sl ([.ref aH]) ++ List.replicate (1 - (lg_sl ([.ref aH])).length) Slot.unset).toArray = ls at hl ⊢
  have hl : lv_has ls 1 [(0, .ref aH)] := hl
  rw [f_H_subject] at hf
  refine lv_aload_n hx hb d_H_subject_0 rfl (lv_at hl 0 rfl) ?_
  refine va_get (D := D) (ci := 6) (v := .int H_subject) (C := RR_H) (T := FF_H) (N := 6) hx hb hts kin_H hown hK.1 hP 0 rfl rfl 4 (by decide) (hts _ k1_188) (fun _ h9 => h9) rfl d_H_subject_1 ?_
  obtain rfl := Option.some.inj hf
  exact W.iret (v := H_subject) hx hb hr (fun t ht hW => ⟨rfl, ht⟩) (fun q h => by cases h) d_H_subject_4
def f_H_count (H_count : Int32) : Option (Int32) :=
  some H_count
abbrev rm_H_count : Room := { frames := 0, cells := 0, slots := 0, locals := 0 }
set_option maxHeartbeats 4000000 in
set_option maxRecDepth 100000 in
theorem c_H_count (l : Launch) (D : va_G) (cI cJ cZ : ClassId) (aH aH_statementRow aH_firstRow aH_secondRow : Nat) (H_kind : Int32) (H_subject : Int32) (H_count : Int32) (o : Int32) (hf : f_H_count H_count = some o) : Met l y_H_count (ws_H_count) rm_H_count (RPc D vwCl cI cJ cZ [.ref aH] (wv_30 cI cJ cZ aH aH_statementRow aH_firstRow aH_secondRow H_kind H_subject H_count)) (RQ (some (.int o))) 0 0 (fun _ => False) := by
  refine Met.ofW (cc := b_H_count) (maxL := 1) (ret := (some .int)) (by decide) rfl ?_
  intro p e s m args below meth c s₁ B hml hv
  obtain ⟨rfl, hP, hK⟩ := hv
  have hx := B.exec
  have hb := B.bytes
  have hr := B.returns
  have hts : ∀ w ∈ BG, w.before _ s = true := fun w h => atoms_spec (ws := (ws_H_count)) B.pre w (List.mem_cons_of_mem _ h)
  have hown : s.vm.findClass RR_H = some m.cls := findClass_of_methodNamed B.named
  have hlocks := B.notSynchronized
  have hl := lv_entry ([.ref aH]) (n := 1) (Nat.le_of_ble_eq_true rfl)
  rw [lg_entry_eq]
  generalize (lg_sl ([.ref aH]) ++ List.replicate (1 - (lg_sl ([.ref aH])).length) Slot.unset).toArray = ls at hl ⊢
  have hl : lv_has ls 1 [(0, .ref aH)] := hl
  rw [f_H_count] at hf
  refine lv_aload_n hx hb d_H_count_0 rfl (lv_at hl 0 rfl) ?_
  refine va_get (D := D) (ci := 6) (v := .int H_count) (C := RR_H) (T := FF_H) (N := 6) hx hb hts kin_H hown hK.1 hP 0 rfl rfl 5 (by decide) (hts _ k1_189) (fun _ h9 => h9) rfl d_H_count_1 ?_
  obtain rfl := Option.some.inj hf
  exact W.iret (v := H_count) hx hb hr (fun t ht hW => ⟨rfl, ht⟩) (fun q h => by cases h) d_H_count_4
def f_H_has (H_count : Int32) (p0 : Int32) : Option (Int32) :=
  if p0 < 0 then
    some (0 : Int32)
  else
    if H_count ≤ p0 then
      some (0 : Int32)
    else
      some (1 : Int32)
abbrev rm_H_has : Room := { frames := 0, cells := 0, slots := 0, locals := 0 }
set_option maxHeartbeats 4000000 in
set_option maxRecDepth 100000 in
theorem c_H_has (l : Launch) (D : va_G) (cI cJ cZ : ClassId) (aH aH_statementRow aH_firstRow aH_secondRow : Nat) (H_kind : Int32) (H_subject : Int32) (H_count : Int32) (p0 : Int32) (o : Int32) (hf : f_H_has H_count p0 = some o) : Met l y_H_has (ws_H_has) rm_H_has (RPc D vwCl cI cJ cZ [.ref aH, .int p0] (wv_30 cI cJ cZ aH aH_statementRow aH_firstRow aH_secondRow H_kind H_subject H_count)) (RQ (some (.int o))) 0 0 (fun _ => False) := by
  refine Met.ofW (cc := b_H_has) (maxL := 2) (ret := (some .boolean)) (by decide) rfl ?_
  intro p e s m args below meth c s₁ B hml hv
  obtain ⟨rfl, hP, hK⟩ := hv
  have hx := B.exec
  have hb := B.bytes
  have hr := B.returns
  have hts : ∀ w ∈ BG, w.before _ s = true := fun w h => atoms_spec (ws := (ws_H_has)) B.pre w (List.mem_cons_of_mem _ h)
  have hown : s.vm.findClass RR_H = some m.cls := findClass_of_methodNamed B.named
  have hlocks := B.notSynchronized
  have hl := lv_entry ([.ref aH, .int p0]) (n := 2) (Nat.le_of_ble_eq_true rfl)
  rw [lg_entry_eq]
  generalize (lg_sl ([.ref aH, .int p0]) ++ List.replicate (2 - (lg_sl ([.ref aH, .int p0])).length) Slot.unset).toArray = ls at hl ⊢
  have hl : lv_has ls 2 [(0, .ref aH), (1, .int p0)] := hl
  rw [f_H_has] at hf
  refine lv_iload_n hx hb d_H_has_0 rfl (lv_at hl 1 rfl) ?_
  refine lv_if_lt (tgt := 16) hx hb d_H_has_1 (by decide) (fun c1 => ?_) (fun c1 => ?_)
  · have hf := ite_t c1 hf
    refine lv_iconst (v := 0) hx hb d_H_has_16 (by decide) ?_
    obtain rfl := Option.some.inj hf
    exact W.zret (v := (0 : Int32)) hx hb hr rfl (fun t ht hW => ⟨rfl, ht⟩) (fun q h => by cases h) d_H_has_17
  · have hf := ite_f c1 hf
    refine lv_iload_n hx hb d_H_has_4 rfl (lv_at hl 1 rfl) ?_
    refine lv_aload_n hx hb d_H_has_5 rfl (lv_at hl 0 rfl) ?_
    refine va_get (D := D) (ci := 6) (v := .int H_count) (C := RR_H) (T := FF_H) (N := 6) hx hb hts kin_H hown hK.1 hP 0 rfl rfl 5 (by decide) (hts _ k1_189) (fun _ h9 => h9) rfl d_H_has_6 ?_
    refine lv_icmp_ge (tgt := 16) hx hb d_H_has_9 (by decide) (fun c2 => ?_) (fun c2 => ?_)
    · have hf := ite_t c2 hf
      refine lv_iconst (v := 0) hx hb d_H_has_16 (by decide) ?_
      obtain rfl := Option.some.inj hf
      exact W.zret (v := (0 : Int32)) hx hb hr rfl (fun t ht hW => ⟨rfl, ht⟩) (fun q h => by cases h) d_H_has_17
    · have hf := ite_f c2 hf
      refine lv_iconst (v := 1) hx hb d_H_has_12 (by decide) ?_
      refine lv_goto (tgt := 17) hx hb d_H_has_13 (by decide) ?_
      obtain rfl := Option.some.inj hf
      exact W.zret (v := (1 : Int32)) hx hb hr rfl (fun t ht hW => ⟨rfl, ht⟩) (fun q h => by cases h) d_H_has_17
def f_H_statement (H_count : Int32) (H_statementRow : (Nat → Int32)) (p0 : Int32) : Option (Int32) :=
  (f_H_has H_count p0).bind fun r1 =>
  if r1 = 0 then
    some (-1 : Int32)
  else
    gd (ixb p0 30) <|
    some (H_statementRow p0.toNatClampNeg)
abbrev rm_H_statement : Room := { frames := 1, cells := 0, slots := 0, locals := 21 }
set_option maxHeartbeats 4000000 in
set_option maxRecDepth 100000 in
theorem c_H_statement (l : Launch) (D : va_G) (cI cJ cZ : ClassId) (aH aH_statementRow aH_firstRow aH_secondRow : Nat) (H_kind : Int32) (H_subject : Int32) (H_count : Int32) (H_statementRow : (Nat → Int32)) (p0 : Int32) (o : Int32) (hf : f_H_statement H_count H_statementRow p0 = some o) : Met l y_H_statement (ws_H_statement) rm_H_statement (RPc D vwCl cI cJ cZ [.ref aH, .int p0] (wv_31 cI cJ cZ aH aH_statementRow aH_firstRow aH_secondRow H_kind H_subject H_count H_statementRow)) (RQ (some (.int o))) 0 0 (fun _ => False) := by
  refine Met.ofW (cc := b_H_statement) (maxL := 2) (ret := (some .int)) (by decide) rfl ?_
  intro p e s m args below meth c s₁ B hml hv
  obtain ⟨rfl, hP, hK⟩ := hv
  have hx := B.exec
  have hb := B.bytes
  have hr := B.returns
  have hts : ∀ w ∈ BG, w.before _ s = true := fun w h => atoms_spec (ws := (ws_H_statement)) B.pre w (List.mem_cons_of_mem _ h)
  have hown : s.vm.findClass RR_H = some m.cls := findClass_of_methodNamed B.named
  have hlocks := B.notSynchronized
  have hl := lv_entry ([.ref aH, .int p0]) (n := 2) (Nat.le_of_ble_eq_true rfl)
  rw [lg_entry_eq]
  generalize (lg_sl ([.ref aH, .int p0]) ++ List.replicate (2 - (lg_sl ([.ref aH, .int p0])).length) Slot.unset).toArray = ls at hl ⊢
  have hl : lv_has ls 2 [(0, .ref aH), (1, .int p0)] := hl
  rw [f_H_statement] at hf
  refine lv_aload_n hx hb d_H_statement_0 rfl (lv_at hl 0 rfl) ?_
  refine lv_iload_n hx hb d_H_statement_1 rfl (lv_at hl 1 rfl) ?_
  obtain ⟨r1, hr1, hf⟩ := of_bd hf
  refine rd_call (va_runV (As := [.int p0]) (rest := []) ⟨hx, hb, hml, hown, hts⟩ (c_H_has l D cI cJ cZ aH aH_statementRow aH_firstRow aH_secondRow H_kind H_subject H_count p0 r1 hr1) (bigV 1 hts k2_36 k2_29 k2_30 k1_8 k2_31 rfl rfl hd_H_has ⟨Nat.le_of_ble_eq_true rfl, Nat.le_of_ble_eq_true rfl⟩) (rd_preV hK hP [0] rfl 0 rfl rfl rfl) rfl rfl hl.1 rfl (lv_room (Nat.le_of_ble_eq_true rfl)) d_H_statement_2 ⟨Nat.le_of_ble_eq_true rfl, Nat.le_of_ble_eq_true rfl⟩) ?_
  refine lv_if_eq (tgt := 17) hx hb d_H_statement_5 (by decide) (fun c2 => ?_) (fun c2 => ?_)
  · have hf := ite_t c2 hf
    refine lv_iconst (v := -1) hx hb d_H_statement_17 (by decide) ?_
    obtain rfl := Option.some.inj hf
    exact W.iret (v := (-1 : Int32)) hx hb hr (fun t ht hW => ⟨rfl, ht⟩) (fun q h => by cases h) d_H_statement_18
  · have hf := ite_f c2 hf
    refine lv_aload_n hx hb d_H_statement_8 rfl (lv_at hl 0 rfl) ?_
    refine va_get (D := D) (ci := 6) (v := .ref aH_statementRow) (C := RR_H) (T := FF_H) (N := 6) hx hb hts kin_H hown hK.1 hP 0 rfl rfl 0 (by decide) (hts _ k1_184) (fun _ h9 => h9) rfl d_H_statement_9 ?_
    refine lv_iload_n hx hb d_H_statement_12 rfl (lv_at hl 1 rfl) ?_
    obtain ⟨h3, hf⟩ := of_gd hf
    refine va_iald hx hb hK.1 hP 1 0 rfl rfl (ixb_in h3) d_H_statement_13 ?_
    refine lv_goto (tgt := 18) hx hb d_H_statement_14 (by decide) ?_
    obtain rfl := Option.some.inj hf
    exact W.iret (v := H_statementRow p0.toNatClampNeg) hx hb hr (fun t ht hW => ⟨rfl, ht⟩) (fun q h => by cases h) d_H_statement_18
def f_H_first (H_count : Int32) (H_firstRow : (Nat → Int32)) (p0 : Int32) : Option (Int32) :=
  (f_H_has H_count p0).bind fun r1 =>
  if r1 = 0 then
    some (-1 : Int32)
  else
    gd (ixb p0 30) <|
    some (H_firstRow p0.toNatClampNeg)
abbrev rm_H_first : Room := { frames := 1, cells := 0, slots := 0, locals := 21 }
set_option maxHeartbeats 4000000 in
set_option maxRecDepth 100000 in
theorem c_H_first (l : Launch) (D : va_G) (cI cJ cZ : ClassId) (aH aH_statementRow aH_firstRow aH_secondRow : Nat) (H_kind : Int32) (H_subject : Int32) (H_count : Int32) (H_firstRow : (Nat → Int32)) (p0 : Int32) (o : Int32) (hf : f_H_first H_count H_firstRow p0 = some o) : Met l y_H_first (ws_H_first) rm_H_first (RPc D vwCl cI cJ cZ [.ref aH, .int p0] (wv_32 cI cJ cZ aH aH_statementRow aH_firstRow aH_secondRow H_kind H_subject H_count H_firstRow)) (RQ (some (.int o))) 0 0 (fun _ => False) := by
  refine Met.ofW (cc := b_H_first) (maxL := 2) (ret := (some .int)) (by decide) rfl ?_
  intro p e s m args below meth c s₁ B hml hv
  obtain ⟨rfl, hP, hK⟩ := hv
  have hx := B.exec
  have hb := B.bytes
  have hr := B.returns
  have hts : ∀ w ∈ BG, w.before _ s = true := fun w h => atoms_spec (ws := (ws_H_first)) B.pre w (List.mem_cons_of_mem _ h)
  have hown : s.vm.findClass RR_H = some m.cls := findClass_of_methodNamed B.named
  have hlocks := B.notSynchronized
  have hl := lv_entry ([.ref aH, .int p0]) (n := 2) (Nat.le_of_ble_eq_true rfl)
  rw [lg_entry_eq]
  generalize (lg_sl ([.ref aH, .int p0]) ++ List.replicate (2 - (lg_sl ([.ref aH, .int p0])).length) Slot.unset).toArray = ls at hl ⊢
  have hl : lv_has ls 2 [(0, .ref aH), (1, .int p0)] := hl
  rw [f_H_first] at hf
  refine lv_aload_n hx hb d_H_first_0 rfl (lv_at hl 0 rfl) ?_
  refine lv_iload_n hx hb d_H_first_1 rfl (lv_at hl 1 rfl) ?_
  obtain ⟨r1, hr1, hf⟩ := of_bd hf
  refine rd_call (va_runV (As := [.int p0]) (rest := []) ⟨hx, hb, hml, hown, hts⟩ (c_H_has l D cI cJ cZ aH aH_statementRow aH_firstRow aH_secondRow H_kind H_subject H_count p0 r1 hr1) (bigV 1 hts k2_36 k2_29 k2_30 k1_8 k2_31 rfl rfl hd_H_has ⟨Nat.le_of_ble_eq_true rfl, Nat.le_of_ble_eq_true rfl⟩) (rd_preV hK hP [0] rfl 0 rfl rfl rfl) rfl rfl hl.1 rfl (lv_room (Nat.le_of_ble_eq_true rfl)) d_H_first_2 ⟨Nat.le_of_ble_eq_true rfl, Nat.le_of_ble_eq_true rfl⟩) ?_
  refine lv_if_eq (tgt := 17) hx hb d_H_first_5 (by decide) (fun c2 => ?_) (fun c2 => ?_)
  · have hf := ite_t c2 hf
    refine lv_iconst (v := -1) hx hb d_H_first_17 (by decide) ?_
    obtain rfl := Option.some.inj hf
    exact W.iret (v := (-1 : Int32)) hx hb hr (fun t ht hW => ⟨rfl, ht⟩) (fun q h => by cases h) d_H_first_18
  · have hf := ite_f c2 hf
    refine lv_aload_n hx hb d_H_first_8 rfl (lv_at hl 0 rfl) ?_
    refine va_get (D := D) (ci := 6) (v := .ref aH_firstRow) (C := RR_H) (T := FF_H) (N := 6) hx hb hts kin_H hown hK.1 hP 0 rfl rfl 1 (by decide) (hts _ k1_185) (fun _ h9 => h9) rfl d_H_first_9 ?_
    refine lv_iload_n hx hb d_H_first_12 rfl (lv_at hl 1 rfl) ?_
    obtain ⟨h3, hf⟩ := of_gd hf
    refine va_iald hx hb hK.1 hP 1 0 rfl rfl (ixb_in h3) d_H_first_13 ?_
    refine lv_goto (tgt := 18) hx hb d_H_first_14 (by decide) ?_
    obtain rfl := Option.some.inj hf
    exact W.iret (v := H_firstRow p0.toNatClampNeg) hx hb hr (fun t ht hW => ⟨rfl, ht⟩) (fun q h => by cases h) d_H_first_18
def f_H_second (H_count : Int32) (H_secondRow : (Nat → Int32)) (p0 : Int32) : Option (Int32) :=
  (f_H_has H_count p0).bind fun r1 =>
  if r1 = 0 then
    some (-1 : Int32)
  else
    gd (ixb p0 30) <|
    some (H_secondRow p0.toNatClampNeg)
abbrev rm_H_second : Room := { frames := 1, cells := 0, slots := 0, locals := 21 }
set_option maxHeartbeats 4000000 in
set_option maxRecDepth 100000 in
theorem c_H_second (l : Launch) (D : va_G) (cI cJ cZ : ClassId) (aH aH_statementRow aH_firstRow aH_secondRow : Nat) (H_kind : Int32) (H_subject : Int32) (H_count : Int32) (H_secondRow : (Nat → Int32)) (p0 : Int32) (o : Int32) (hf : f_H_second H_count H_secondRow p0 = some o) : Met l y_H_second (ws_H_second) rm_H_second (RPc D vwCl cI cJ cZ [.ref aH, .int p0] (wv_33 cI cJ cZ aH aH_statementRow aH_firstRow aH_secondRow H_kind H_subject H_count H_secondRow)) (RQ (some (.int o))) 0 0 (fun _ => False) := by
  refine Met.ofW (cc := b_H_second) (maxL := 2) (ret := (some .int)) (by decide) rfl ?_
  intro p e s m args below meth c s₁ B hml hv
  obtain ⟨rfl, hP, hK⟩ := hv
  have hx := B.exec
  have hb := B.bytes
  have hr := B.returns
  have hts : ∀ w ∈ BG, w.before _ s = true := fun w h => atoms_spec (ws := (ws_H_second)) B.pre w (List.mem_cons_of_mem _ h)
  have hown : s.vm.findClass RR_H = some m.cls := findClass_of_methodNamed B.named
  have hlocks := B.notSynchronized
  have hl := lv_entry ([.ref aH, .int p0]) (n := 2) (Nat.le_of_ble_eq_true rfl)
  rw [lg_entry_eq]
  generalize (lg_sl ([.ref aH, .int p0]) ++ List.replicate (2 - (lg_sl ([.ref aH, .int p0])).length) Slot.unset).toArray = ls at hl ⊢
  have hl : lv_has ls 2 [(0, .ref aH), (1, .int p0)] := hl
  rw [f_H_second] at hf
  refine lv_aload_n hx hb d_H_second_0 rfl (lv_at hl 0 rfl) ?_
  refine lv_iload_n hx hb d_H_second_1 rfl (lv_at hl 1 rfl) ?_
  obtain ⟨r1, hr1, hf⟩ := of_bd hf
  refine rd_call (va_runV (As := [.int p0]) (rest := []) ⟨hx, hb, hml, hown, hts⟩ (c_H_has l D cI cJ cZ aH aH_statementRow aH_firstRow aH_secondRow H_kind H_subject H_count p0 r1 hr1) (bigV 1 hts k2_36 k2_29 k2_30 k1_8 k2_31 rfl rfl hd_H_has ⟨Nat.le_of_ble_eq_true rfl, Nat.le_of_ble_eq_true rfl⟩) (rd_preV hK hP [0] rfl 0 rfl rfl rfl) rfl rfl hl.1 rfl (lv_room (Nat.le_of_ble_eq_true rfl)) d_H_second_2 ⟨Nat.le_of_ble_eq_true rfl, Nat.le_of_ble_eq_true rfl⟩) ?_
  refine lv_if_eq (tgt := 17) hx hb d_H_second_5 (by decide) (fun c2 => ?_) (fun c2 => ?_)
  · have hf := ite_t c2 hf
    refine lv_iconst (v := -1) hx hb d_H_second_17 (by decide) ?_
    obtain rfl := Option.some.inj hf
    exact W.iret (v := (-1 : Int32)) hx hb hr (fun t ht hW => ⟨rfl, ht⟩) (fun q h => by cases h) d_H_second_18
  · have hf := ite_f c2 hf
    refine lv_aload_n hx hb d_H_second_8 rfl (lv_at hl 0 rfl) ?_
    refine va_get (D := D) (ci := 6) (v := .ref aH_secondRow) (C := RR_H) (T := FF_H) (N := 6) hx hb hts kin_H hown hK.1 hP 0 rfl rfl 2 (by decide) (hts _ k1_186) (fun _ h9 => h9) rfl d_H_second_9 ?_
    refine lv_iload_n hx hb d_H_second_12 rfl (lv_at hl 1 rfl) ?_
    obtain ⟨h3, hf⟩ := of_gd hf
    refine va_iald hx hb hK.1 hP 1 0 rfl rfl (ixb_in h3) d_H_second_13 ?_
    refine lv_goto (tgt := 18) hx hb d_H_second_14 (by decide) ?_
    obtain rfl := Option.some.inj hf
    exact W.iret (v := H_secondRow p0.toNatClampNeg) hx hb hr (fun t ht hW => ⟨rfl, ht⟩) (fun q h => by cases h) d_H_second_18
