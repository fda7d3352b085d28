abbrev b_F_begin : ByteArray := prog_2_method_2_code
abbrev y_F_begin : MethodName := ⟨"ShapeSearch$Finder", "begin", "(I)V"⟩
abbrev ws_F_begin : List Cond := .code y_F_begin b_F_begin 2 (none : Option Jvm.ClassFile.FieldType) :: BG
theorem hd_F_begin : y_F_begin.cls ≠ "java/lang/invoke/MethodHandle" ∧ y_F_begin.cls ≠ "java/lang/invoke/VarHandle" ∧ (parseMethodDescriptor y_F_begin.desc).map (fun d => d.parameters.length) = some 1 := by decide +kernel
theorem d_F_begin_0 : decode b_F_begin 0 = .ok (.aload_n 0, 1) := by decide +kernel
theorem d_F_begin_1 : decode b_F_begin 1 = .ok (.iload_n 1, 1) := by decide +kernel
theorem d_F_begin_2 : decode b_F_begin 2 = .ok (.putfield 27, 3) := by decide +kernel
theorem d_F_begin_5 : decode b_F_begin 5 = .ok (.return_, 1) := by decide +kernel
abbrev b_F_match : ByteArray := prog_2_method_3_code
abbrev y_F_match : MethodName := ⟨"ShapeSearch$Finder", "match", "()I"⟩
abbrev ws_F_match : List Cond := .code y_F_match b_F_match 1 (some .int) :: BG
theorem hd_F_match : y_F_match.cls ≠ "java/lang/invoke/MethodHandle" ∧ y_F_match.cls ≠ "java/lang/invoke/VarHandle" ∧ (parseMethodDescriptor y_F_match.desc).map (fun d => d.parameters.length) = some 0 := by decide +kernel
theorem d_F_match_0 : decode b_F_match 0 = .ok (.aload_n 0, 1) := by decide +kernel
theorem d_F_match_1 : decode b_F_match 1 = .ok (.getfield 31, 3) := by decide +kernel
theorem d_F_match_4 : decode b_F_match 4 = .ok (.ireturn, 1) := by decide +kernel
abbrev b_F_premise : ByteArray := prog_2_method_4_code
abbrev y_F_premise : MethodName := ⟨"ShapeSearch$Finder", "premise", "()I"⟩
abbrev ws_F_premise : List Cond := .code y_F_premise b_F_premise 1 (some .int) :: BG
theorem hd_F_premise : y_F_premise.cls ≠ "java/lang/invoke/MethodHandle" ∧ y_F_premise.cls ≠ "java/lang/invoke/VarHandle" ∧ (parseMethodDescriptor y_F_premise.desc).map (fun d => d.parameters.length) = some 0 := by decide +kernel
theorem d_F_premise_0 : decode b_F_premise 0 = .ok (.aload_n 0, 1) := by decide +kernel
theorem d_F_premise_1 : decode b_F_premise 1 = .ok (.getfield 34, 3) := by decide +kernel
theorem d_F_premise_4 : decode b_F_premise 4 = .ok (.ireturn, 1) := by decide +kernel
abbrev b_F_forgetSeen : ByteArray := prog_2_method_6_code
abbrev y_F_forgetSeen : MethodName := ⟨"ShapeSearch$Finder", "forgetSeen", "()V"⟩
abbrev ws_F_forgetSeen : List Cond := .code y_F_forgetSeen b_F_forgetSeen 2 (none : Option Jvm.ClassFile.FieldType) :: BG
theorem hd_F_forgetSeen : y_F_forgetSeen.cls ≠ "java/lang/invoke/MethodHandle" ∧ y_F_forgetSeen.cls ≠ "java/lang/invoke/VarHandle" ∧ (parseMethodDescriptor y_F_forgetSeen.desc).map (fun d => d.parameters.length) = some 0 := by decide +kernel
theorem d_F_forgetSeen_0 : decode b_F_forgetSeen 0 = .ok (.iconst 0, 1) := by decide +kernel
theorem d_F_forgetSeen_1 : decode b_F_forgetSeen 1 = .ok (.istore_n 1, 1) := by decide +kernel
theorem d_F_forgetSeen_2 : decode b_F_forgetSeen 2 = .ok (.iload_n 1, 1) := by decide +kernel
theorem d_F_forgetSeen_3 : decode b_F_forgetSeen 3 = .ok (.bipush 100, 2) := by decide +kernel
theorem d_F_forgetSeen_5 : decode b_F_forgetSeen 5 = .ok (.if_icmp .ge 16, 3) := by decide +kernel
theorem d_F_forgetSeen_8 : decode b_F_forgetSeen 8 = .ok (.aload_n 0, 1) := by decide +kernel
theorem d_F_forgetSeen_9 : decode b_F_forgetSeen 9 = .ok (.getfield 19, 3) := by decide +kernel
theorem d_F_forgetSeen_12 : decode b_F_forgetSeen 12 = .ok (.iload_n 1, 1) := by decide +kernel
theorem d_F_forgetSeen_13 : decode b_F_forgetSeen 13 = .ok (.iconst 0, 1) := by decide +kernel
theorem d_F_forgetSeen_14 : decode b_F_forgetSeen 14 = .ok (.bastore, 1) := by decide +kernel
theorem d_F_forgetSeen_15 : decode b_F_forgetSeen 15 = .ok (.iinc 1 1, 3) := by decide +kernel
theorem d_F_forgetSeen_18 : decode b_F_forgetSeen 18 = .ok (.goto (-16), 3) := by decide +kernel
theorem d_F_forgetSeen_21 : decode b_F_forgetSeen 21 = .ok (.return_, 1) := by decide +kernel
abbrev b_F_firstIn : ByteArray := prog_2_method_7_code
abbrev y_F_firstIn : MethodName := ⟨"ShapeSearch$Finder", "firstIn", "(I)I"⟩
abbrev ws_F_firstIn : List Cond := .code y_F_firstIn b_F_firstIn 7 (some .int) :: BG
theorem hd_F_firstIn : y_F_firstIn.cls ≠ "java/lang/invoke/MethodHandle" ∧ y_F_firstIn.cls ≠ "java/lang/invoke/VarHandle" ∧ (parseMethodDescriptor y_F_firstIn.desc).map (fun d => d.parameters.length) = some 1 := by decide +kernel
theorem d_F_firstIn_0 : decode b_F_firstIn 0 = .ok (.iconst 1, 1) := by decide +kernel
theorem d_F_firstIn_1 : decode b_F_firstIn 1 = .ok (.istore_n 2, 1) := by decide +kernel
theorem d_F_firstIn_2 : decode b_F_firstIn 2 = .ok (.aload_n 0, 1) := by decide +kernel
theorem d_F_firstIn_3 : decode b_F_firstIn 3 = .ok (.getfield 23, 3) := by decide +kernel
theorem d_F_firstIn_6 : decode b_F_firstIn 6 = .ok (.iconst 0, 1) := by decide +kernel
theorem d_F_firstIn_7 : decode b_F_firstIn 7 = .ok (.iload_n 1, 1) := by decide +kernel
theorem d_F_firstIn_8 : decode b_F_firstIn 8 = .ok (.iastore, 1) := by decide +kernel
theorem d_F_firstIn_9 : decode b_F_firstIn 9 = .ok (.iconst 0, 1) := by decide +kernel
theorem d_F_firstIn_10 : decode b_F_firstIn 10 = .ok (.istore_n 3, 1) := by decide +kernel
theorem d_F_firstIn_11 : decode b_F_firstIn 11 = .ok (.iload_n 3, 1) := by decide +kernel
theorem d_F_firstIn_12 : decode b_F_firstIn 12 = .ok (.sipush 301, 3) := by decide +kernel
theorem d_F_firstIn_15 : decode b_F_firstIn 15 = .ok (.if_icmp .ge 130, 3) := by decide +kernel
theorem d_F_firstIn_18 : decode b_F_firstIn 18 = .ok (.iload_n 2, 1) := by decide +kernel
theorem d_F_firstIn_19 : decode b_F_firstIn 19 = .ok (.ifCond .le 126, 3) := by decide +kernel
theorem d_F_firstIn_22 : decode b_F_firstIn 22 = .ok (.iinc 2 (-1), 3) := by decide +kernel
theorem d_F_firstIn_25 : decode b_F_firstIn 25 = .ok (.aload_n 0, 1) := by decide +kernel
theorem d_F_firstIn_26 : decode b_F_firstIn 26 = .ok (.getfield 23, 3) := by decide +kernel
theorem d_F_firstIn_29 : decode b_F_firstIn 29 = .ok (.iload_n 2, 1) := by decide +kernel
theorem d_F_firstIn_30 : decode b_F_firstIn 30 = .ok (.iaload, 1) := by decide +kernel
theorem d_F_firstIn_31 : decode b_F_firstIn 31 = .ok (.istore 4, 2) := by decide +kernel
theorem d_F_firstIn_33 : decode b_F_firstIn 33 = .ok (.iload 4, 2) := by decide +kernel
theorem d_F_firstIn_35 : decode b_F_firstIn 35 = .ok (.ifCond .lt 104, 3) := by decide +kernel
theorem d_F_firstIn_38 : decode b_F_firstIn 38 = .ok (.iload 4, 2) := by decide +kernel
theorem d_F_firstIn_40 : decode b_F_firstIn 40 = .ok (.bipush 100, 2) := by decide +kernel
theorem d_F_firstIn_42 : decode b_F_firstIn 42 = .ok (.if_icmp .ge 97, 3) := by decide +kernel
theorem d_F_firstIn_45 : decode b_F_firstIn 45 = .ok (.aload_n 0, 1) := by decide +kernel
theorem d_F_firstIn_46 : decode b_F_firstIn 46 = .ok (.getfield 19, 3) := by decide +kernel
theorem d_F_firstIn_49 : decode b_F_firstIn 49 = .ok (.iload 4, 2) := by decide +kernel
theorem d_F_firstIn_51 : decode b_F_firstIn 51 = .ok (.baload, 1) := by decide +kernel
theorem d_F_firstIn_52 : decode b_F_firstIn 52 = .ok (.ifCond .eq 6, 3) := by decide +kernel
theorem d_F_firstIn_55 : decode b_F_firstIn 55 = .ok (.goto 84, 3) := by decide +kernel
theorem d_F_firstIn_58 : decode b_F_firstIn 58 = .ok (.aload_n 0, 1) := by decide +kernel
theorem d_F_firstIn_59 : decode b_F_firstIn 59 = .ok (.getfield 19, 3) := by decide +kernel
theorem d_F_firstIn_62 : decode b_F_firstIn 62 = .ok (.iload 4, 2) := by decide +kernel
theorem d_F_firstIn_64 : decode b_F_firstIn 64 = .ok (.iconst 1, 1) := by decide +kernel
theorem d_F_firstIn_65 : decode b_F_firstIn 65 = .ok (.bastore, 1) := by decide +kernel
theorem d_F_firstIn_66 : decode b_F_firstIn 66 = .ok (.aload_n 0, 1) := by decide +kernel
theorem d_F_firstIn_67 : decode b_F_firstIn 67 = .ok (.getfield 15, 3) := by decide +kernel
theorem d_F_firstIn_70 : decode b_F_firstIn 70 = .ok (.aload_n 0, 1) := by decide +kernel
theorem d_F_firstIn_71 : decode b_F_firstIn 71 = .ok (.getfield 27, 3) := by decide +kernel
theorem d_F_firstIn_74 : decode b_F_firstIn 74 = .ok (.iload 4, 2) := by decide +kernel
theorem d_F_firstIn_76 : decode b_F_firstIn 76 = .ok (.ldc2_w 55, 3) := by decide +kernel
theorem d_F_firstIn_79 : decode b_F_firstIn 79 = .ok (.invokevirtual 57, 3) := by decide +kernel
theorem d_F_firstIn_82 : decode b_F_firstIn 82 = .ok (.ifCond .eq 6, 3) := by decide +kernel
theorem d_F_firstIn_85 : decode b_F_firstIn 85 = .ok (.iload 4, 2) := by decide +kernel
theorem d_F_firstIn_87 : decode b_F_firstIn 87 = .ok (.ireturn, 1) := by decide +kernel
theorem d_F_firstIn_88 : decode b_F_firstIn 88 = .ok (.iconst 2, 1) := by decide +kernel
theorem d_F_firstIn_89 : decode b_F_firstIn 89 = .ok (.istore 5, 2) := by decide +kernel
theorem d_F_firstIn_91 : decode b_F_firstIn 91 = .ok (.iload 5, 2) := by decide +kernel
theorem d_F_firstIn_93 : decode b_F_firstIn 93 = .ok (.ifCond .lt 46, 3) := by decide +kernel
theorem d_F_firstIn_96 : decode b_F_firstIn 96 = .ok (.aload_n 0, 1) := by decide +kernel
theorem d_F_firstIn_97 : decode b_F_firstIn 97 = .ok (.getfield 9, 3) := by decide +kernel
theorem d_F_firstIn_100 : decode b_F_firstIn 100 = .ok (.iload 4, 2) := by decide +kernel
theorem d_F_firstIn_102 : decode b_F_firstIn 102 = .ok (.iload 5, 2) := by decide +kernel
theorem d_F_firstIn_104 : decode b_F_firstIn 104 = .ok (.invokevirtual 63, 3) := by decide +kernel
theorem d_F_firstIn_107 : decode b_F_firstIn 107 = .ok (.istore 6, 2) := by decide +kernel
theorem d_F_firstIn_109 : decode b_F_firstIn 109 = .ok (.iload 6, 2) := by decide +kernel
theorem d_F_firstIn_111 : decode b_F_firstIn 111 = .ok (.iconst (-1), 1) := by decide +kernel
theorem d_F_firstIn_112 : decode b_F_firstIn 112 = .ok (.if_icmp .eq 21, 3) := by decide +kernel
theorem d_F_firstIn_115 : decode b_F_firstIn 115 = .ok (.iload_n 2, 1) := by decide +kernel
theorem d_F_firstIn_116 : decode b_F_firstIn 116 = .ok (.sipush 301, 3) := by decide +kernel
theorem d_F_firstIn_119 : decode b_F_firstIn 119 = .ok (.if_icmp .ge 14, 3) := by decide +kernel
theorem d_F_firstIn_122 : decode b_F_firstIn 122 = .ok (.aload_n 0, 1) := by decide +kernel
theorem d_F_firstIn_123 : decode b_F_firstIn 123 = .ok (.getfield 23, 3) := by decide +kernel
theorem d_F_firstIn_126 : decode b_F_firstIn 126 = .ok (.iload_n 2, 1) := by decide +kernel
theorem d_F_firstIn_127 : decode b_F_firstIn 127 = .ok (.iload 6, 2) := by decide +kernel
theorem d_F_firstIn_129 : decode b_F_firstIn 129 = .ok (.iastore, 1) := by decide +kernel
theorem d_F_firstIn_130 : decode b_F_firstIn 130 = .ok (.iinc 2 1, 3) := by decide +kernel
theorem d_F_firstIn_133 : decode b_F_firstIn 133 = .ok (.iinc 5 (-1), 3) := by decide +kernel
theorem d_F_firstIn_136 : decode b_F_firstIn 136 = .ok (.goto (-45), 3) := by decide +kernel
theorem d_F_firstIn_139 : decode b_F_firstIn 139 = .ok (.iinc 3 1, 3) := by decide +kernel
theorem d_F_firstIn_142 : decode b_F_firstIn 142 = .ok (.goto (-131), 3) := by decide +kernel
theorem d_F_firstIn_145 : decode b_F_firstIn 145 = .ok (.iconst (-1), 1) := by decide +kernel
theorem d_F_firstIn_146 : decode b_F_firstIn 146 = .ok (.ireturn, 1) := by decide +kernel
abbrev b_F_finds : ByteArray := prog_2_method_5_code
abbrev y_F_finds : MethodName := ⟨"ShapeSearch$Finder", "finds", "(LShapeSearch$Statements;I)Z"⟩
abbrev ws_F_finds : List Cond := .code y_F_finds b_F_finds 4 (some .boolean) :: BG
theorem hd_F_finds : y_F_finds.cls ≠ "java/lang/invoke/MethodHandle" ∧ y_F_finds.cls ≠ "java/lang/invoke/VarHandle" ∧ (parseMethodDescriptor y_F_finds.desc).map (fun d => d.parameters.length) = some 2 := by decide +kernel
theorem d_F_finds_0 : decode b_F_finds 0 = .ok (.aload_n 0, 1) := by decide +kernel
theorem d_F_finds_1 : decode b_F_finds 1 = .ok (.invokevirtual 37, 3) := by decide +kernel
theorem d_F_finds_4 : decode b_F_finds 4 = .ok (.aload_n 0, 1) := by decide +kernel
theorem d_F_finds_5 : decode b_F_finds 5 = .ok (.iconst (-1), 1) := by decide +kernel
theorem d_F_finds_6 : decode b_F_finds 6 = .ok (.putfield 34, 3) := by decide +kernel
theorem d_F_finds_9 : decode b_F_finds 9 = .ok (.aload_n 0, 1) := by decide +kernel
theorem d_F_finds_10 : decode b_F_finds 10 = .ok (.aload_n 0, 1) := by decide +kernel
theorem d_F_finds_11 : decode b_F_finds 11 = .ok (.aload_n 1, 1) := by decide +kernel
theorem d_F_finds_12 : decode b_F_finds 12 = .ok (.iload_n 2, 1) := by decide +kernel
theorem d_F_finds_13 : decode b_F_finds 13 = .ok (.invokevirtual 40, 3) := by decide +kernel
theorem d_F_finds_16 : decode b_F_finds 16 = .ok (.invokevirtual 46, 3) := by decide +kernel
theorem d_F_finds_19 : decode b_F_finds 19 = .ok (.putfield 31, 3) := by decide +kernel
theorem d_F_finds_22 : decode b_F_finds 22 = .ok (.iconst 0, 1) := by decide +kernel
theorem d_F_finds_23 : decode b_F_finds 23 = .ok (.istore_n 3, 1) := by decide +kernel
theorem d_F_finds_24 : decode b_F_finds 24 = .ok (.iload_n 3, 1) := by decide +kernel
theorem d_F_finds_25 : decode b_F_finds 25 = .ok (.aload_n 1, 1) := by decide +kernel
theorem d_F_finds_26 : decode b_F_finds 26 = .ok (.iload_n 2, 1) := by decide +kernel
theorem d_F_finds_27 : decode b_F_finds 27 = .ok (.invokevirtual 49, 3) := by decide +kernel
theorem d_F_finds_30 : decode b_F_finds 30 = .ok (.if_icmp .ge 36, 3) := by decide +kernel
theorem d_F_finds_33 : decode b_F_finds 33 = .ok (.aload_n 0, 1) := by decide +kernel
theorem d_F_finds_34 : decode b_F_finds 34 = .ok (.getfield 31, 3) := by decide +kernel
theorem d_F_finds_37 : decode b_F_finds 37 = .ok (.iconst (-1), 1) := by decide +kernel
theorem d_F_finds_38 : decode b_F_finds 38 = .ok (.if_icmp .ne 28, 3) := by decide +kernel
theorem d_F_finds_41 : decode b_F_finds 41 = .ok (.aload_n 0, 1) := by decide +kernel
theorem d_F_finds_42 : decode b_F_finds 42 = .ok (.iload_n 3, 1) := by decide +kernel
theorem d_F_finds_43 : decode b_F_finds 43 = .ok (.putfield 34, 3) := by decide +kernel
theorem d_F_finds_46 : decode b_F_finds 46 = .ok (.aload_n 0, 1) := by decide +kernel
theorem d_F_finds_47 : decode b_F_finds 47 = .ok (.aload_n 0, 1) := by decide +kernel
theorem d_F_finds_48 : decode b_F_finds 48 = .ok (.aload_n 1, 1) := by decide +kernel
theorem d_F_finds_49 : decode b_F_finds 49 = .ok (.iload_n 2, 1) := by decide +kernel
theorem d_F_finds_50 : decode b_F_finds 50 = .ok (.iload_n 3, 1) := by decide +kernel
theorem d_F_finds_51 : decode b_F_finds 51 = .ok (.invokevirtual 52, 3) := by decide +kernel
theorem d_F_finds_54 : decode b_F_finds 54 = .ok (.invokevirtual 46, 3) := by decide +kernel
theorem d_F_finds_57 : decode b_F_finds 57 = .ok (.putfield 31, 3) := by decide +kernel
theorem d_F_finds_60 : decode b_F_finds 60 = .ok (.iinc 3 1, 3) := by decide +kernel
theorem d_F_finds_63 : decode b_F_finds 63 = .ok (.goto (-39), 3) := by decide +kernel
theorem d_F_finds_66 : decode b_F_finds 66 = .ok (.aload_n 0, 1) := by decide +kernel
theorem d_F_finds_67 : decode b_F_finds 67 = .ok (.getfield 31, 3) := by decide +kernel
theorem d_F_finds_70 : decode b_F_finds 70 = .ok (.iconst (-1), 1) := by decide +kernel
theorem d_F_finds_71 : decode b_F_finds 71 = .ok (.if_icmp .eq 7, 3) := by decide +kernel
theorem d_F_finds_74 : decode b_F_finds 74 = .ok (.iconst 1, 1) := by decide +kernel
theorem d_F_finds_75 : decode b_F_finds 75 = .ok (.goto 4, 3) := by decide +kernel
theorem d_F_finds_78 : decode b_F_finds 78 = .ok (.iconst 0, 1) := by decide +kernel
theorem d_F_finds_79 : decode b_F_finds 79 = .ok (.ireturn, 1) := by decide +kernel
theorem k1_110 : Cond.fieldLink "ShapeSearch$Finder" 27 "ShapeSearch$Finder" "shape" "I" ∈ BG := List.mem_filter.mpr ⟨in_1 (List.mem_of_getElem? (i := 110) rfl), rfl⟩
theorem k1_111 : Cond.fieldLink "ShapeSearch$Finder" 31 "ShapeSearch$Finder" "match" "I" ∈ BG := List.mem_filter.mpr ⟨in_1 (List.mem_of_getElem? (i := 111) rfl), rfl⟩
theorem k1_112 : Cond.fieldLink "ShapeSearch$Finder" 34 "ShapeSearch$Finder" "premise" "I" ∈ BG := List.mem_filter.mpr ⟨in_1 (List.mem_of_getElem? (i := 112) rfl), rfl⟩
theorem k1_108 : Cond.fieldLink "ShapeSearch$Finder" 19 "ShapeSearch$Finder" "seen" "[Z" ∈ BG := List.mem_filter.mpr ⟨in_1 (List.mem_of_getElem? (i := 108) rfl), rfl⟩
theorem k1_109 : Cond.fieldLink "ShapeSearch$Finder" 23 "ShapeSearch$Finder" "waiting" "[I" ∈ BG := List.mem_filter.mpr ⟨in_1 (List.mem_of_getElem? (i := 109) rfl), rfl⟩
theorem k1_107 : Cond.fieldLink "ShapeSearch$Finder" 15 "ShapeSearch$Finder" "matcher" "LShapeSearch$Matcher;" ∈ BG := List.mem_filter.mpr ⟨in_1 (List.mem_of_getElem? (i := 107) rfl), rfl⟩
theorem k3_80 : Cond.constantLong "ShapeSearch$Finder" 55 4123168604160 ∈ BG := List.mem_filter.mpr ⟨in_3 (List.mem_of_getElem? (i := 80) rfl), rfl⟩
theorem k3_81 : Cond.methodLink "ShapeSearch$Finder" 57 ⟨"ShapeSearch$Matcher", "matches", "(IIJ)Z"⟩ ∈ BG := List.mem_filter.mpr ⟨in_3 (List.mem_of_getElem? (i := 81) rfl), rfl⟩
theorem k2_61 : Cond.code ⟨"ShapeSearch$Matcher", "matches", "(IIJ)Z"⟩ prog_4_method_2_code 6 (some .boolean) ∈ BG := List.mem_filter.mpr ⟨in_2 (List.mem_of_getElem? (i := 61) rfl), rfl⟩
theorem k2_59 : Cond.instanceMethod ⟨"ShapeSearch$Matcher", "matches", "(IIJ)Z"⟩ ∈ BG := List.mem_filter.mpr ⟨in_2 (List.mem_of_getElem? (i := 59) rfl), rfl⟩
theorem k2_60 : Cond.selects "ShapeSearch$Matcher" ⟨"ShapeSearch$Matcher", "matches", "(IIJ)Z"⟩ ⟨"ShapeSearch$Matcher", "matches", "(IIJ)Z"⟩ ∈ BG := List.mem_filter.mpr ⟨in_2 (List.mem_of_getElem? (i := 60) rfl), rfl⟩
theorem k1_106 : Cond.fieldLink "ShapeSearch$Finder" 9 "ShapeSearch$Finder" "terms" "LShapeSearch$Terms;" ∈ BG := List.mem_filter.mpr ⟨in_1 (List.mem_of_getElem? (i := 106) rfl), rfl⟩
theorem k3_82 : Cond.methodLink "ShapeSearch$Finder" 63 ⟨"ShapeSearch$Terms", "place", "(II)I"⟩ ∈ BG := List.mem_filter.mpr ⟨in_3 (List.mem_of_getElem? (i := 82) rfl), rfl⟩
theorem k3_71 : Cond.methodLink "ShapeSearch$Finder" 37 ⟨"ShapeSearch$Finder", "forgetSeen", "()V"⟩ ∈ BG := List.mem_filter.mpr ⟨in_3 (List.mem_of_getElem? (i := 71) rfl), rfl⟩
theorem k3_74 : Cond.code ⟨"ShapeSearch$Finder", "forgetSeen", "()V"⟩ prog_2_method_6_code 2 (none : Option Jvm.ClassFile.FieldType) ∈ BG := List.mem_filter.mpr ⟨in_3 (List.mem_of_getElem? (i := 74) rfl), rfl⟩
theorem k1_6 : Cond.initialized "ShapeSearch$Finder" ∈ BG := List.mem_filter.mpr ⟨in_1 (List.mem_of_getElem? (i := 6) rfl), rfl⟩
theorem k3_73 : Cond.instanceMethod ⟨"ShapeSearch$Finder", "forgetSeen", "()V"⟩ ∈ BG := List.mem_filter.mpr ⟨in_3 (List.mem_of_getElem? (i := 73) rfl), rfl⟩
theorem k3_75 : Cond.methodLink "ShapeSearch$Finder" 40 ⟨"ShapeSearch$Statements", "conclusion", "(I)I"⟩ ∈ BG := List.mem_filter.mpr ⟨in_3 (List.mem_of_getElem? (i := 75) rfl), rfl⟩
theorem k3_76 : Cond.methodLink "ShapeSearch$Finder" 46 ⟨"ShapeSearch$Finder", "firstIn", "(I)I"⟩ ∈ BG := List.mem_filter.mpr ⟨in_3 (List.mem_of_getElem? (i := 76) rfl), rfl⟩
theorem k3_79 : Cond.code ⟨"ShapeSearch$Finder", "firstIn", "(I)I"⟩ prog_2_method_7_code 7 (some .int) ∈ BG := List.mem_filter.mpr ⟨in_3 (List.mem_of_getElem? (i := 79) rfl), rfl⟩
theorem k3_78 : Cond.instanceMethod ⟨"ShapeSearch$Finder", "firstIn", "(I)I"⟩ ∈ BG := List.mem_filter.mpr ⟨in_3 (List.mem_of_getElem? (i := 78) rfl), rfl⟩
theorem k3_83 : Cond.methodLink "ShapeSearch$Finder" 49 ⟨"ShapeSearch$Statements", "premises", "(I)I"⟩ ∈ BG := List.mem_filter.mpr ⟨in_3 (List.mem_of_getElem? (i := 83) rfl), rfl⟩
theorem k3_87 : Cond.methodLink "ShapeSearch$Finder" 52 ⟨"ShapeSearch$Statements", "premise", "(II)I"⟩ ∈ BG := List.mem_filter.mpr ⟨in_3 (List.mem_of_getElem? (i := 87) rfl), rfl⟩
abbrev wv_25 (cI cJ cZ : ClassId) (aT aM aF aF_seen aF_waiting : Nat) (F_shape : Int32) (F_match : Int32) (F_premise : Int32) : va_W := [(aF, .inr (4, [.ref aT, .ref aM, .ref aF_seen, .ref aF_waiting, .int F_shape, .int F_match, .int F_premise]))]
abbrev wv_26 (cI cJ cZ : ClassId) (aT aM aF aF_seen aF_waiting : Nat) (F_shape : Int32) (F_match : Int32) (F_premise : Int32) (F_seen : (Nat → Int32)) : va_W := [(aF, .inr (4, [.ref aT, .ref aM, .ref aF_seen, .ref aF_waiting, .int F_shape, .int F_match, .int F_premise])), (aF_seen, .inl (cZ, 100, .inl F_seen))]
abbrev wv_27 (cI cJ cZ : ClassId) (aT aT_heads aT_places aT_olders aT_sizes aT_withins aT_newest aM aM_images aM_path aF aF_seen aF_waiting : Nat) (T_count : Int32) (nT_heads : Nat) (T_heads : (Nat → Int32)) (nT_places : Nat) (T_places : (Nat → Int32)) (nT_withins : Nat) (T_withins : (Nat → Int64)) (M_images : (Nat → Int32)) (F_shape : Int32) (F_match : Int32) (F_premise : Int32) (F_seen : (Nat → Int32)) (F_waiting : (Nat → Int32)) : va_W := [(aT, .inr (1, [.ref aT_heads, .ref aT_places, .ref aT_olders, .ref aT_sizes, .ref aT_withins, .ref aT_newest, .int T_count])), (aT_heads, .inl (cI, nT_heads, .inl T_heads)), (aT_places, .inl (cI, nT_places, .inl T_places)), (aT_withins, .inl (cJ, nT_withins, .inr (.inl T_withins))), (aM, .inr (3, [.ref aT, .ref aM_images, .ref aM_path])), (aM_images, .inl (cI, 100, .inl M_images)), (aF, .inr (4, [.ref aT, .ref aM, .ref aF_seen, .ref aF_waiting, .int F_shape, .int F_match, .int F_premise])), (aF_seen, .inl (cZ, 100, .inl F_seen)), (aF_waiting, .inl (cI, 301, .inl F_waiting))]
abbrev wv_28 (cI cJ cZ : ClassId) (aT aT_heads aT_places aT_olders aT_sizes aT_withins aT_newest aS aS_premises aS_premiseCounts aS_conclusions aS_order aM aM_images aM_path aF aF_seen aF_waiting : Nat) (T_count : Int32) (nT_heads : Nat) (T_heads : (Nat → Int32)) (nT_places : Nat) (T_places : (Nat → Int32)) (nT_withins : Nat) (T_withins : (Nat → Int64)) (S_count : Int32) (S_premises : (Nat → Int32)) (S_premiseCounts : (Nat → Int32)) (S_conclusions : (Nat → Int32)) (M_images : (Nat → Int32)) (F_shape : Int32) (F_match : Int32) (F_premise : Int32) (F_seen : (Nat → Int32)) (F_waiting : (Nat → Int32)) : va_W := [(aT, .inr (1, [.ref aT_heads, .ref aT_places, .ref aT_olders, .ref aT_sizes, .ref aT_withins, .ref aT_newest, .int T_count])), (aT_heads, .inl (cI, nT_heads, .inl T_heads)), (aT_places, .inl (cI, nT_places, .inl T_places)), (aT_withins, .inl (cJ, nT_withins, .inr (.inl T_withins))), (aS, .inr (2, [.ref aS_premises, .ref aS_premiseCounts, .ref aS_conclusions, .ref aS_order, .int S_count])), (aS_premises, .inl (cI, 120, .inl S_premises)), (aS_premiseCounts, .inl (cI, 30, .inl S_premiseCounts)), (aS_conclusions, .inl (cI, 30, .inl S_conclusions)), (aM, .inr (3, [.ref aT, .ref aM_images, .ref aM_path])), (aM_images, .inl (cI, 100, .inl M_images)), (aF, .inr (4, [.ref aT, .ref aM, .ref aF_seen, .ref aF_waiting, .int F_shape, .int F_match, .int F_premise])), (aF_seen, .inl (cZ, 100, .inl F_seen)), (aF_waiting, .inl (cI, 301, .inl F_waiting))]
def f_F_begin (F_shape : Int32) (p0 : Int32) : Option (Int32) :=
  some p0
abbrev rm_F_begin : Room := { frames := 0, cells := 0, slots := 0, locals := 0 }
set_option maxHeartbeats 4000000 in
set_option maxRecDepth 100000 in
theorem c_F_begin (l : Launch) (D : va_G) (cI cJ cZ : ClassId) (aT aM aF aF_seen aF_waiting : Nat) (sz : Nat) (F_shape : Int32) (F_match : Int32) (F_premise : Int32) (p0 : Int32) (o : Int32) (hf : f_F_begin F_shape p0 = some o) : Met l y_F_begin (ws_F_begin) rm_F_begin (WPc D vwCl cI cJ cZ [.ref aF, .int p0] (wv_25 cI cJ cZ aT aM aF aF_seen aF_waiting F_shape F_match F_premise) sz) (WQ D vwCl none (wv_25 cI cJ cZ aT aM aF aF_seen aF_waiting o F_match F_premise) (va_A (wv_25 cI cJ cZ aT aM aF aF_seen aF_waiting F_shape F_match F_premise) sz)) 0 0 (va_A (wv_25 cI cJ cZ aT aM aF aF_seen aF_waiting F_shape F_match F_premise) sz) := by
  refine Met.ofW (cc := b_F_begin) (maxL := 2) (ret := none) (by decide) rfl ?_
  intro p e s m args below meth c s₁ B hml hv
  obtain ⟨rfl, rfl, hP, hK, hD0⟩ := hv
  have hx := B.exec
  have hb := B.bytes
  have hr := B.returns
  have hts : ∀ w ∈ BG, w.before _ s = true := fun w h => atoms_spec (ws := (ws_F_begin)) B.pre w (List.mem_cons_of_mem _ h)
  have hown : s.vm.findClass RR_F = some m.cls := findClass_of_methodNamed B.named
  have hlocks := B.notSynchronized
  have hD := hD0.self (sz := s.heap.size)
  have hA : ∀ q : Nat, s.heap.size ≤ q → va_A (wv_25 cI cJ cZ aT aM aF aF_seen aF_waiting F_shape F_match F_premise) s.heap.size q := fun q h => Or.inr h
  have hS : va_S (va_A (wv_25 cI cJ cZ aT aM aF aF_seen aF_waiting F_shape F_match F_premise) s.heap.size) s.heap s.heap [] := va_S.rf
  generalize va_A (wv_25 cI cJ cZ aT aM aF aF_seen aF_waiting F_shape F_match F_premise) s.heap.size = A at hD hA hS ⊢
  have hl := lv_entry ([.ref aF, .int p0]) (n := 2) (Nat.le_of_ble_eq_true rfl)
  rw [lg_entry_eq]
  generalize (lg_sl ([.ref aF, .int p0]) ++ List.replicate (2 - (lg_sl ([.ref aF, .int p0])).length) Slot.unset).toArray = ls at hl ⊢
  have hl : lv_has ls 2 [(0, .ref aF), (1, .int p0)] := hl
  rw [f_F_begin] at hf
  refine lv_aload_n hx hb d_F_begin_0 rfl (lv_at hl 0 rfl) ?_
  refine lv_iload_n hx hb d_F_begin_1 rfl (lv_at hl 1 rfl) ?_
  refine va_put (D := D) (ci := 4) (v := .int p0) (ty := .int) (C := RR_F) (T := FF_F) (N := 7) hx hb hts kin_F TT_F tok_F nok_F hown hK.1 hP hD hS 0 rfl rfl 4 (by decide) (hts _ k1_110) (fun _ h9 => h9) rfl (by decide +kernel) rfl rfl (Nat.le_of_ble_eq_true rfl) d_F_begin_2 (fun H locs hP hD hS => ?_)
  have hP : va_P D vwCl (wv_25 cI cJ cZ aT aM aF aF_seen aF_waiting p0 F_match F_premise) H := hP
  have hD : va_D A (wv_25 cI cJ cZ aT aM aF aF_seen aF_waiting p0 F_match F_premise) := hD
  obtain rfl := Option.some.inj hf
  exact W.vret hx hb hr (fun t ht hW => ⟨rfl, by rw [ht]; exact hP, hD, hS.F ht⟩) hS.2.2 d_F_begin_5
def f_F_match (F_match : Int32) : Option (Int32) :=
  some F_match
abbrev rm_F_match : Room := { frames := 0, cells := 0, slots := 0, locals := 0 }
set_option maxHeartbeats 4000000 in
set_option maxRecDepth 100000 in
theorem c_F_match (l : Launch) (D : va_G) (cI cJ cZ : ClassId) (aT aM aF aF_seen aF_waiting : Nat) (F_shape : Int32) (F_match : Int32) (F_premise : Int32) (o : Int32) (hf : f_F_match F_match = some o) : Met l y_F_match (ws_F_match) rm_F_match (RPc D vwCl cI cJ cZ [.ref aF] (wv_25 cI cJ cZ aT aM aF aF_seen aF_waiting F_shape F_match F_premise)) (RQ (some (.int o))) 0 0 (fun _ => False) := by
  refine Met.ofW (cc := b_F_match) (maxL := 1) (ret := (some .int)) (by decide) rfl ?_
  intro p e s m args below meth c s₁ B hml hv
  obtain ⟨rfl, hP, hK⟩ := hv
  have hx := B.exec
  have hb := B.bytes
  have hr := B.returns
  have hts : ∀ w ∈ BG, w.before _ s = true := fun w h => atoms_spec (ws := (ws_F_match)) B.pre w (List.mem_cons_of_mem _ h)
  have hown : s.vm.findClass RR_F = some m.cls := findClass_of_methodNamed B.named
  have hlocks := B.notSynchronized
  have hl := lv_entry ([.ref aF]) (n := 1) (Nat.le_of_ble_eq_true rfl)
  rw [lg_entry_eq]
  generalize (lg_sl ([.ref aF]) ++ List.replicate (1 - (lg_sl ([.ref aF])).length) Slot.unset).toArray = ls at hl ⊢
  have hl : lv_has ls 1 [(0, .ref aF)] := hl
  rw [f_F_match] at hf
  refine lv_aload_n hx hb d_F_match_0 rfl (lv_at hl 0 rfl) ?_
  refine va_get (D := D) (ci := 4) (v := .int F_match) (C := RR_F) (T := FF_F) (N := 7) hx hb hts kin_F hown hK.1 hP 0 rfl rfl 5 (by decide) (hts _ k1_111) (fun _ h9 => h9) rfl d_F_match_1 ?_
  obtain rfl := Option.some.inj hf
  exact W.iret (v := F_match) hx hb hr (fun t ht hW => ⟨rfl, ht⟩) (fun q h => by cases h) d_F_match_4
def f_F_premise (F_premise : Int32) : Option (Int32) :=
  some F_premise
abbrev rm_F_premise : Room := { frames := 0, cells := 0, slots := 0, locals := 0 }
set_option maxHeartbeats 4000000 in
set_option maxRecDepth 100000 in
theorem c_F_premise (l : Launch) (D : va_G) (cI cJ cZ : ClassId) (aT aM aF aF_seen aF_waiting : Nat) (F_shape : Int32) (F_match : Int32) (F_premise : Int32) (o : Int32) (hf : f_F_premise F_premise = some o) : Met l y_F_premise (ws_F_premise) rm_F_premise (RPc D vwCl cI cJ cZ [.ref aF] (wv_25 cI cJ cZ aT aM aF aF_seen aF_waiting F_shape F_match F_premise)) (RQ (some (.int o))) 0 0 (fun _ => False) := by
  refine Met.ofW (cc := b_F_premise) (maxL := 1) (ret := (some .int)) (by decide) rfl ?_
  intro p e s m args below meth c s₁ B hml hv
  obtain ⟨rfl, hP, hK⟩ := hv
  have hx := B.exec
  have hb := B.bytes
  have hr := B.returns
  have hts : ∀ w ∈ BG, w.before _ s = true := fun w h => atoms_spec (ws := (ws_F_premise)) B.pre w (List.mem_cons_of_mem _ h)
  have hown : s.vm.findClass RR_F = some m.cls := findClass_of_methodNamed B.named
  have hlocks := B.notSynchronized
  have hl := lv_entry ([.ref aF]) (n := 1) (Nat.le_of_ble_eq_true rfl)
  rw [lg_entry_eq]
  generalize (lg_sl ([.ref aF]) ++ List.replicate (1 - (lg_sl ([.ref aF])).length) Slot.unset).toArray = ls at hl ⊢
  have hl : lv_has ls 1 [(0, .ref aF)] := hl
  rw [f_F_premise] at hf
  refine lv_aload_n hx hb d_F_premise_0 rfl (lv_at hl 0 rfl) ?_
  refine va_get (D := D) (ci := 4) (v := .int F_premise) (C := RR_F) (T := FF_F) (N := 7) hx hb hts kin_F hown hK.1 hP 0 rfl rfl 6 (by decide) (hts _ k1_112) (fun _ h9 => h9) rfl d_F_premise_1 ?_
  obtain rfl := Option.some.inj hf
  exact W.iret (v := F_premise) hx hb hr (fun t ht hW => ⟨rfl, ht⟩) (fun q h => by cases h) d_F_premise_4
def f_F_forgetSeen_L2 : Nat → (Nat → Int32) → Int32 → Option ((Nat → Int32))
  | 0, _, _ => none
  | n + 1, F_seen_2, x1_2 =>
    if (100 : Int32) ≤ x1_2 then
      some F_seen_2
    else
      gd (ixb x1_2 100) <| nm (upd F_seen_2 x1_2.toNatClampNeg (vp_nar .boolean (0 : Int32))) fun g3 =>
      nm (x1_2 + (1 : Int32)) fun x4 =>
      (f_F_forgetSeen_L2 n) g3 x4
def f_F_forgetSeen (F_seen : (Nat → Int32)) : Option ((Nat → Int32)) :=
  f_F_forgetSeen_L2 FU F_seen (0 : Int32)
abbrev rm_F_forgetSeen : Room := { frames := 0, cells := 0, slots := 0, locals := 0 }
set_option maxHeartbeats 4000000 in
set_option maxRecDepth 100000 in
theorem c_F_forgetSeen (l : Launch) (D : va_G) (cI cJ cZ : ClassId) (aT aM aF aF_seen aF_waiting : Nat) (sz : Nat) (F_shape : Int32) (F_match : Int32) (F_premise : Int32) (F_seen : (Nat → Int32)) (o : (Nat → Int32)) (hf : f_F_forgetSeen F_seen = some o) : Met l y_F_forgetSeen (ws_F_forgetSeen) rm_F_forgetSeen (WPc D vwCl cI cJ cZ [.ref aF] (wv_26 cI cJ cZ aT aM aF aF_seen aF_waiting F_shape F_match F_premise F_seen) sz) (WQ D vwCl none (wv_26 cI cJ cZ aT aM aF aF_seen aF_waiting F_shape F_match F_premise o) (va_A (wv_26 cI cJ cZ aT aM aF aF_seen aF_waiting F_shape F_match F_premise F_seen) sz)) 0 0 (va_A (wv_26 cI cJ cZ aT aM aF aF_seen aF_waiting F_shape F_match F_premise F_seen) sz) := by
  refine Met.ofW (cc := b_F_forgetSeen) (maxL := 2) (ret := none) (by decide) rfl ?_
  intro p e s m args below meth c s₁ B hml hv
  obtain ⟨rfl, rfl, hP, hK, hD0⟩ := hv
  have hx := B.exec
  have hb := B.bytes
  have hr := B.returns
  have hts : ∀ w ∈ BG, w.before _ s = true := fun w h => atoms_spec (ws := (ws_F_forgetSeen)) B.pre w (List.mem_cons_of_mem _ h)
  have hown : s.vm.findClass RR_F = some m.cls := findClass_of_methodNamed B.named
  have hlocks := B.notSynchronized
  have hD := hD0.self (sz := s.heap.size)
  have hA : ∀ q : Nat, s.heap.size ≤ q → va_A (wv_26 cI cJ cZ aT aM aF aF_seen aF_waiting F_shape F_match F_premise F_seen) s.heap.size q := fun q h => Or.inr h
  have hS : va_S (va_A (wv_26 cI cJ cZ aT aM aF aF_seen aF_waiting F_shape F_match F_premise F_seen) s.heap.size) s.heap s.heap [] := va_S.rf
  generalize va_A (wv_26 cI cJ cZ aT aM aF aF_seen aF_waiting F_shape F_match F_premise F_seen) s.heap.size = A at hD hA hS ⊢
  have hl := lv_entry ([.ref aF]) (n := 2) (Nat.le_of_ble_eq_true rfl)
  rw [lg_entry_eq]
  generalize (lg_sl ([.ref aF]) ++ List.replicate (2 - (lg_sl ([.ref aF])).length) Slot.unset).toArray = ls at hl ⊢
  have hl : lv_has ls 2 [(0, .ref aF)] := hl
  have hL2 : ∀ (n2 : Nat), ∀ (F_seen_2 : (Nat → Int32)) (x1_2 : Int32), ∀ (H : Heap) (locs : List Loc), va_P D vwCl (wv_26 cI cJ cZ aT aM aF aF_seen aF_waiting F_shape F_match F_premise F_seen_2) H → va_D A (wv_26 cI cJ cZ aT aM aF aF_seen aF_waiting F_shape F_match F_premise F_seen_2) → va_S A s.heap H locs → ∀ (ls : Array Slot), lv_has ls 2 [(0, .ref aF), (1, .int x1_2)] → f_F_forgetSeen_L2 n2 F_seen_2 x1_2 = some o → W p l e (headSpec (ws_F_forgetSeen) rm_F_forgetSeen).room s m ([.ref aF] : List Value).toArray below meth c H locs 0 0 (MQ below (WQ D vwCl none (wv_26 cI cJ cZ aT aM aF aF_seen aF_waiting F_shape F_match F_premise o) A) ([.ref aF] : List Value).toArray s 0 0 A) (F0 m 2 ls []) := by
    intro n2
    induction n2 with
    | zero =>
      intro F_seen_2 x1_2 H locs hP hD hS ls hl hf
      rw [f_F_forgetSeen_L2] at hf
      cases hf
    | succ n2 ih2 =>
      intro F_seen_2 x1_2 H locs hP hD hS ls hl hf
      rw [f_F_forgetSeen_L2] at hf
      refine lv_iload_n hx hb d_F_forgetSeen_2 rfl (lv_at hl 1 rfl) ?_
      refine lv_bipush (v := 100) hx hb d_F_forgetSeen_3 (by decide) ?_
      refine lv_icmp_ge (tgt := 21) hx hb d_F_forgetSeen_5 (by decide) (fun c1 => ?_) (fun c1 => ?_)
      · have hf := ite_t c1 hf
        obtain rfl := Option.some.inj hf
        exact W.vret hx hb hr (fun t ht hW => ⟨rfl, by rw [ht]; exact hP, hD, hS.F ht⟩) hS.2.2 d_F_forgetSeen_21
      · have hf := ite_f c1 hf
        refine lv_aload_n hx hb d_F_forgetSeen_8 rfl (lv_at hl 0 rfl) ?_
        refine va_get (D := D) (ci := 4) (v := .ref aF_seen) (C := RR_F) (T := FF_F) (N := 7) hx hb hts kin_F hown hK.1 hP 0 rfl rfl 2 (by decide) (hts _ k1_108) (fun _ h9 => h9) rfl d_F_forgetSeen_9 ?_
        refine lv_iload_n hx hb d_F_forgetSeen_12 rfl (lv_at hl 1 rfl) ?_
        refine lv_iconst (v := 0) hx hb d_F_forgetSeen_13 (by decide) ?_
        obtain ⟨h2, hf⟩ := of_gd hf
        obtain ⟨g3, eg3⟩ : ∃ y : Nat → Int32, y = upd F_seen_2 x1_2.toNatClampNeg (vp_nar .boolean (0 : Int32)) := ⟨_, rfl⟩
        have hf := of_nm eg3 hf
        refine va_zast hx hb hK.1 hP hD hS 1 2 rfl rfl (ixb_in h2) d_F_forgetSeen_14 (fun H locs hP hD hS => ?_)
        rw [← eg3] at hP hD
        have hP : va_P D vwCl (wv_26 cI cJ cZ aT aM aF aF_seen aF_waiting F_shape F_match F_premise g3) H := hP
        have hD : va_D A (wv_26 cI cJ cZ aT aM aF aF_seen aF_waiting F_shape F_match F_premise g3) := hD
        obtain ⟨x4, ex4⟩ : ∃ y : Int32, y = x1_2 + (1 : Int32) := ⟨_, rfl⟩
        refine lv_iinc (v := x4) (lv' := [(1, .int x4), (0, .ref aF)]) hx hb d_F_forgetSeen_15 hl (k := 1) rfl (by rw [ex4]; rfl) (by decide) rfl (fun ls hl => ?_)
        have hf := of_nm ex4 hf
        refine lv_goto (tgt := 2) hx hb d_F_forgetSeen_18 (by decide) ?_
        exact ih2 _ _ _ _ hP hD hS _ (lv_sub hl [1, 0] rfl) hf
  rw [f_F_forgetSeen] at hf
  refine lv_iconst (v := 0) hx hb d_F_forgetSeen_0 (by decide) ?_
  refine lv_istore_n (lv' := [(1, .int (0 : Int32)), (0, .ref aF)]) hx hb d_F_forgetSeen_1 rfl hl (by decide) rfl (fun ls hl => ?_)
  exact hL2 FU _ _ _ _ hP hD hS _ (lv_sub hl [1, 0] rfl) hf
def f_F_firstIn_L91 (T_count : Int32) (nT_heads : Nat) (T_heads : (Nat → Int32)) (nT_places : Nat) (T_places : (Nat → Int32)) (nT_withins : Nat) (T_withins : (Nat → Int64)) (F_shape : Int32) (K11 : (Nat → Int32) → (Nat → Int32) → (Nat → Int32) → Int32 → Int32 → Option (Int32 × (Nat → Int32) × (Nat → Int32) × (Nat → Int32))) : Nat → (Nat → Int32) → (Nat → Int32) → (Nat → Int32) → Int32 → Int32 → Int32 → Int32 → Option (Int32 × (Nat → Int32) × (Nat → Int32) × (Nat → Int32))
  | 0, _, _, _, _, _, _, _ => none
  | n + 1, M_images_91, F_seen_91, F_waiting_91, x2_91, x3_91, x4_91, x5_91 =>
    if x5_91 < 0 then
      nm (x3_91 + (1 : Int32)) fun x20 =>
      K11 M_images_91 F_seen_91 F_waiting_91 x2_91 x20
    else
      (f_T_place T_count nT_places T_places x4_91 x5_91).bind fun r21 =>
      if r21 = (-1 : Int32) then
        nm (x5_91 + (-1 : Int32)) fun x23 =>
        (f_F_firstIn_L91 T_count nT_heads T_heads nT_places T_places nT_withins T_withins F_shape K11 n) M_images_91 F_seen_91 F_waiting_91 x2_91 x3_91 x4_91 x23
      else
        if (301 : Int32) ≤ x2_91 then
          nm (x5_91 + (-1 : Int32)) fun x25 =>
          (f_F_firstIn_L91 T_count nT_heads T_heads nT_places T_places nT_withins T_withins F_shape K11 n) M_images_91 F_seen_91 F_waiting_91 x2_91 x3_91 x4_91 x25
        else
          gd (ixb x2_91 301) <| nm (upd F_waiting_91 x2_91.toNatClampNeg r21) fun g27 =>
          nm (x2_91 + (1 : Int32)) fun x28 =>
          nm (x5_91 + (-1 : Int32)) fun x29 =>
          (f_F_firstIn_L91 T_count nT_heads T_heads nT_places T_places nT_withins T_withins F_shape K11 n) M_images_91 F_seen_91 g27 x28 x3_91 x4_91 x29
def f_F_firstIn_L11 (T_count : Int32) (nT_heads : Nat) (T_heads : (Nat → Int32)) (nT_places : Nat) (T_places : (Nat → Int32)) (nT_withins : Nat) (T_withins : (Nat → Int64)) (F_shape : Int32) : Nat → (Nat → Int32) → (Nat → Int32) → (Nat → Int32) → Int32 → Int32 → Option (Int32 × (Nat → Int32) × (Nat → Int32) × (Nat → Int32))
  | 0, _, _, _, _, _ => none
  | n + 1, M_images_11, F_seen_11, F_waiting_11, x2_11, x3_11 =>
    if (301 : Int32) ≤ x3_11 then
      some ((-1 : Int32), M_images_11, F_seen_11, F_waiting_11)
    else
      if x2_11 ≤ 0 then
        some ((-1 : Int32), M_images_11, F_seen_11, F_waiting_11)
      else
        nm (x2_11 + (-1 : Int32)) fun x5 =>
        gd (ixb x5 301) <|
        nm (F_waiting_11 x5.toNatClampNeg) fun x7 =>
        if x7 < 0 then
          nm (x3_11 + (1 : Int32)) fun x9 =>
          (f_F_firstIn_L11 T_count nT_heads T_heads nT_places T_places nT_withins T_withins F_shape n) M_images_11 F_seen_11 F_waiting_11 x5 x9
        else
          if (100 : Int32) ≤ x7 then
            nm (x3_11 + (1 : Int32)) fun x11 =>
            (f_F_firstIn_L11 T_count nT_heads T_heads nT_places T_places nT_withins T_withins F_shape n) M_images_11 F_seen_11 F_waiting_11 x5 x11
          else
            gd (ixb x7 100) <|
            if (F_seen_11 x7.toNatClampNeg) = 0 then
              gd (ixb x7 100) <| nm (upd F_seen_11 x7.toNatClampNeg (vp_nar .boolean (1 : Int32))) fun g15 =>
              (f_M_matches T_count nT_heads T_heads nT_places T_places nT_withins T_withins M_images_11 F_shape x7 (4123168604160 : Int64)).bind fun r16 =>
              if r16.1 = 0 then
                f_F_firstIn_L91 T_count nT_heads T_heads nT_places T_places nT_withins T_withins F_shape (f_F_firstIn_L11 T_count nT_heads T_heads nT_places T_places nT_withins T_withins F_shape n) FU r16.2 g15 F_waiting_11 x5 x3_11 x7 (2 : Int32)
              else
                some (x7, r16.2, g15, F_waiting_11)
            else
              nm (x3_11 + (1 : Int32)) fun x18 =>
              (f_F_firstIn_L11 T_count nT_heads T_heads nT_places T_places nT_withins T_withins F_shape n) M_images_11 F_seen_11 F_waiting_11 x5 x18
def f_F_firstIn (T_count : Int32) (nT_heads : Nat) (T_heads : (Nat → Int32)) (nT_places : Nat) (T_places : (Nat → Int32)) (nT_withins : Nat) (T_withins : (Nat → Int64)) (M_images : (Nat → Int32)) (F_shape : Int32) (F_seen : (Nat → Int32)) (F_waiting : (Nat → Int32)) (p0 : Int32) : Option (Int32 × (Nat → Int32) × (Nat → Int32) × (Nat → Int32)) :=
  gd (ixb (0 : Int32) 301) <| nm (upd F_waiting (0 : Int32).toNatClampNeg p0) fun g2 =>
  f_F_firstIn_L11 T_count nT_heads T_heads nT_places T_places nT_withins T_withins F_shape FU M_images F_seen g2 (1 : Int32) (0 : Int32)
abbrev rm_F_firstIn : Room := { frames := 4, cells := 0, slots := 0, locals := 98 }
set_option maxHeartbeats 4000000 in
set_option maxRecDepth 100000 in
theorem c_F_firstIn (l : Launch) (D : va_G) (cI cJ cZ : ClassId) (aT aT_heads aT_places aT_olders aT_sizes aT_withins aT_newest aM aM_images aM_path aF aF_seen aF_waiting : Nat) (sz : Nat) (T_count : Int32) (nT_heads : Nat) (T_heads : (Nat → Int32)) (nT_places : Nat) (T_places : (Nat → Int32)) (nT_withins : Nat) (T_withins : (Nat → Int64)) (M_images : (Nat → Int32)) (F_shape : Int32) (F_match : Int32) (F_premise : Int32) (F_seen : (Nat → Int32)) (F_waiting : (Nat → Int32)) (p0 : Int32) (o : Int32 × (Nat → Int32) × (Nat → Int32) × (Nat → Int32)) (hf : f_F_firstIn T_count nT_heads T_heads nT_places T_places nT_withins T_withins M_images F_shape F_seen F_waiting p0 = some o) : Met l y_F_firstIn (ws_F_firstIn) rm_F_firstIn (WPc D vwCl cI cJ cZ [.ref aF, .int p0] (wv_27 cI cJ cZ aT aT_heads aT_places aT_olders aT_sizes aT_withins aT_newest aM aM_images aM_path aF aF_seen aF_waiting T_count nT_heads T_heads nT_places T_places nT_withins T_withins M_images F_shape F_match F_premise F_seen F_waiting) sz) (WQ D vwCl (some (.int o.1)) (wv_27 cI cJ cZ aT aT_heads aT_places aT_olders aT_sizes aT_withins aT_newest aM aM_images aM_path aF aF_seen aF_waiting T_count nT_heads T_heads nT_places T_places nT_withins T_withins o.2.1 F_shape F_match F_premise o.2.2.1 o.2.2.2) (va_A (wv_27 cI cJ cZ aT aT_heads aT_places aT_olders aT_sizes aT_withins aT_newest aM aM_images aM_path aF aF_seen aF_waiting T_count nT_heads T_heads nT_places T_places nT_withins T_withins M_images F_shape F_match F_premise F_seen F_waiting) sz)) 0 0 (va_A (wv_27 cI cJ cZ aT aT_heads aT_places aT_olders aT_sizes aT_withins aT_newest aM aM_images aM_path aF aF_seen aF_waiting T_count nT_heads T_heads nT_places T_places nT_withins T_withins M_images F_shape F_match F_premise F_seen F_waiting) sz) := by
  refine Met.ofW (cc := b_F_firstIn) (maxL := 7) (ret := (some .int)) (by decide) rfl ?_
  intro p e s m args below meth c s₁ B hml hv
  obtain ⟨rfl, rfl, hP, hK, hD0⟩ := hv
  have hx := B.exec
  have hb := B.bytes
  have hr := B.returns
  have hts : ∀ w ∈ BG, w.before _ s = true := fun w h => atoms_spec (ws := (ws_F_firstIn)) B.pre w (List.mem_cons_of_mem _ h)
  have hown : s.vm.findClass RR_F = some m.cls := findClass_of_methodNamed B.named
  have hlocks := B.notSynchronized
  have hD := hD0.self (sz := s.heap.size)
  have hA : ∀ q : Nat, s.heap.size ≤ q → va_A (wv_27 cI cJ cZ aT aT_heads aT_places aT_olders aT_sizes aT_withins aT_newest aM aM_images aM_path aF aF_seen aF_waiting T_count nT_heads T_heads nT_places T_places nT_withins T_withins M_images F_shape F_match F_premise F_seen F_waiting) s.heap.size q := fun q h => Or.inr h
  have hS : va_S (va_A (wv_27 cI cJ cZ aT aT_heads aT_places aT_olders aT_sizes aT_withins aT_newest aM aM_images aM_path aF aF_seen aF_waiting T_count nT_heads T_heads nT_places T_places nT_withins T_withins M_images F_shape F_match F_premise F_seen F_waiting) s.heap.size) s.heap s.heap [] := va_S.rf
  generalize va_A (wv_27 cI cJ cZ aT aT_heads aT_places aT_olders aT_sizes aT_withins aT_newest aM aM_images aM_path aF aF_seen aF_waiting T_count nT_heads T_heads nT_places T_places nT_withins T_withins M_images F_shape F_match F_premise F_seen F_waiting) s.heap.size = A at hD hA hS ⊢
  have hl := lv_entry ([.ref aF, .int p0]) (n := 7) (Nat.le_of_ble_eq_true rfl)
  rw [lg_entry_eq]
  generalize (lg_sl ([.ref aF, .int p0]) ++ List.replicate (7 - (lg_sl ([.ref aF, .int p0])).length) Slot.unset).toArray = ls at hl ⊢
  have hl : lv_has ls 7 [(0, .ref aF), (1, .int p0)] := hl
  have hL11 : ∀ (n11 : Nat), ∀ (M_images_11 : (Nat → Int32)) (F_seen_11 : (Nat → Int32)) (F_waiting_11 : (Nat → Int32)) (x2_11 : Int32) (x3_11 : Int32), ∀ (H : Heap) (locs : List Loc), va_P D vwCl (wv_27 cI cJ cZ aT aT_heads aT_places aT_olders aT_sizes aT_withins aT_newest aM aM_images aM_path aF aF_seen aF_waiting T_count nT_heads T_heads nT_places T_places nT_withins T_withins M_images_11 F_shape F_match F_premise F_seen_11 F_waiting_11) H → va_D A (wv_27 cI cJ cZ aT aT_heads aT_places aT_olders aT_sizes aT_withins aT_newest aM aM_images aM_path aF aF_seen aF_waiting T_count nT_heads T_heads nT_places T_places nT_withins T_withins M_images_11 F_shape F_match F_premise F_seen_11 F_waiting_11) → va_S A s.heap H locs → ∀ (ls : Array Slot), lv_has ls 7 [(0, .ref aF), (2, .int x2_11), (3, .int x3_11)] → f_F_firstIn_L11 T_count nT_heads T_heads nT_places T_places nT_withins T_withins F_shape n11 M_images_11 F_seen_11 F_waiting_11 x2_11 x3_11 = some o → W p l e (headSpec (ws_F_firstIn) rm_F_firstIn).room s m ([.ref aF, .int p0] : List Value).toArray below meth c H locs 0 0 (MQ below (WQ D vwCl (some (.int o.1)) (wv_27 cI cJ cZ aT aT_heads aT_places aT_olders aT_sizes aT_withins aT_newest aM aM_images aM_path aF aF_seen aF_waiting T_count nT_heads T_heads nT_places T_places nT_withins T_withins o.2.1 F_shape F_match F_premise o.2.2.1 o.2.2.2) A) ([.ref aF, .int p0] : List Value).toArray s 0 0 A) (F0 m 11 ls []) := by
    intro n11
    induction n11 with
    | zero =>
      intro M_images_11 F_seen_11 F_waiting_11 x2_11 x3_11 H locs hP hD hS ls hl hf
      rw [f_F_firstIn_L11] at hf
      cases hf
    | succ n11 ih11 =>
      have hL91 : ∀ (n91 : Nat), ∀ (M_images_91 : (Nat → Int32)) (F_seen_91 : (Nat → Int32)) (F_waiting_91 : (Nat → Int32)) (x2_91 : Int32) (x3_91 : Int32) (x4_91 : Int32) (x5_91 : Int32), ∀ (H : Heap) (locs : List Loc), va_P D vwCl (wv_27 cI cJ cZ aT aT_heads aT_places aT_olders aT_sizes aT_withins aT_newest aM aM_images aM_path aF aF_seen aF_waiting T_count nT_heads T_heads nT_places T_places nT_withins T_withins M_images_91 F_shape F_match F_premise F_seen_91 F_waiting_91) H → va_D A (wv_27 cI cJ cZ aT aT_heads aT_places aT_olders aT_sizes aT_withins aT_newest aM aM_images aM_path aF aF_seen aF_waiting T_count nT_heads T_heads nT_places T_places nT_withins T_withins M_images_91 F_shape F_match F_premise F_seen_91 F_waiting_91) → va_S A s.heap H locs → ∀ (ls : Array Slot), lv_has ls 7 [(0, .ref aF), (2, .int x2_91), (3, .int x3_91), (4, .int x4_91), (5, .int x5_91)] → f_F_firstIn_L91 T_count nT_heads T_heads nT_places T_places nT_withins T_withins F_shape (f_F_firstIn_L11 T_count nT_heads T_heads nT_places T_places nT_withins T_withins F_shape n11) n91 M_images_91 F_seen_91 F_waiting_91 x2_91 x3_91 x4_91 x5_91 = some o → W p l e (headSpec (ws_F_firstIn) rm_F_firstIn).room s m ([.ref aF, .int p0] : List Value).toArray below meth c H locs 0 0 (MQ below (WQ D vwCl (some (.int o.1)) (wv_27 cI cJ cZ aT aT_heads aT_places aT_olders aT_sizes aT_withins aT_newest aM aM_images aM_path aF aF_seen aF_waiting T_count nT_heads T_heads nT_places T_places nT_withins T_withins o.2.1 F_shape F_match F_premise o.2.2.1 o.2.2.2) A) ([.ref aF, .int p0] : List Value).toArray s 0 0 A) (F0 m 91 ls []) := by
        intro n91
        induction n91 with
        | zero =>
          intro M_images_91 F_seen_91 F_waiting_91 x2_91 x3_91 x4_91 x5_91 H locs hP hD hS ls hl hf
          rw [f_F_firstIn_L91] at hf
          cases hf
        | succ n91 ih91 =>
          intro M_images_91 F_seen_91 F_waiting_91 x2_91 x3_91 x4_91 x5_91 H locs hP hD hS ls hl hf
          rw [f_F_firstIn_L91] at hf
          refine lv_iload hx hb d_F_firstIn_91 (lv_at hl 4 rfl) ?_
          refine lv_if_lt (tgt := 139) hx hb d_F_firstIn_93 (by decide) (fun c19 => ?_) (fun c19 => ?_)
          · have hf := ite_t c19 hf
            obtain ⟨x20, ex20⟩ : ∃ y : Int32, y = x3_91 + (1 : Int32) := ⟨_, rfl⟩
            refine lv_iinc (v := x20) (lv' := [(3, .int x20), (0, .ref aF), (2, .int x2_91), (4, .int x4_91), (5, .int x5_91)]) hx hb d_F_firstIn_139 hl (k := 2) rfl (by rw [ex20]; rfl) (by decide) rfl (fun ls hl => ?_)
            have hf := of_nm ex20 hf
            refine lv_goto (tgt := 11) hx hb d_F_firstIn_142 (by decide) ?_
            exact ih11 _ _ _ _ _ _ _ hP hD hS _ (lv_sub hl [1, 2, 0] rfl) hf
          · have hf := ite_f c19 hf
            refine lv_aload_n hx hb d_F_firstIn_96 rfl (lv_at hl 0 rfl) ?_
            refine va_get (D := D) (ci := 4) (v := .ref aT) (C := RR_F) (T := FF_F) (N := 7) hx hb hts kin_F hown hK.1 hP 6 rfl rfl 0 (by decide) (hts _ k1_106) (fun _ h9 => h9) rfl d_F_firstIn_97 ?_
            refine lv_iload hx hb d_F_firstIn_100 (lv_at hl 3 rfl) ?_
            refine lv_iload hx hb d_F_firstIn_102 (lv_at hl 4 rfl) ?_
            obtain ⟨r21, hr21, hf⟩ := of_bd hf
            refine rd_call (va_runV (As := [.int x4_91, .int x5_91]) (rest := []) ⟨hx, hb, hml, hown, hts⟩ (c_T_place l D cI cJ cZ aT aT_heads aT_places aT_olders aT_sizes aT_withins aT_newest T_count nT_places T_places x4_91 x5_91 r21 hr21) (bigV 2 hts k3_82 k2_1 k2_2 k1_2 k2_3 rfl rfl hd_T_place ⟨Nat.le_of_ble_eq_true rfl, Nat.le_of_ble_eq_true rfl⟩) (rd_preV hK hP [0, 2] rfl 0 rfl rfl rfl) rfl rfl hl.1 rfl (lv_room (Nat.le_of_ble_eq_true rfl)) d_F_firstIn_104 ⟨Nat.le_of_ble_eq_true rfl, Nat.le_of_ble_eq_true rfl⟩) ?_
            refine lv_istore (lv' := [(6, .int r21), (0, .ref aF), (2, .int x2_91), (3, .int x3_91), (4, .int x4_91), (5, .int x5_91)]) hx hb d_F_firstIn_107 hl (by decide) rfl (fun ls hl => ?_)
            refine lv_iload hx hb d_F_firstIn_109 (lv_at hl 0 rfl) ?_
            refine lv_iconst (v := -1) hx hb d_F_firstIn_111 (by decide) ?_
            refine lv_icmp_eq (tgt := 133) hx hb d_F_firstIn_112 (by decide) (fun c22 => ?_) (fun c22 => ?_)
            · have hf := ite_t c22 hf
              obtain ⟨x23, ex23⟩ : ∃ y : Int32, y = x5_91 + (-1 : Int32) := ⟨_, rfl⟩
              refine lv_iinc (v := x23) (lv' := [(5, .int x23), (6, .int r21), (0, .ref aF), (2, .int x2_91), (3, .int x3_91), (4, .int x4_91)]) hx hb d_F_firstIn_133 hl (k := 5) rfl (by rw [ex23]; rfl) (by decide) rfl (fun ls hl => ?_)
              have hf := of_nm ex23 hf
              refine lv_goto (tgt := 91) hx hb d_F_firstIn_136 (by decide) ?_
              exact ih91 _ _ _ _ _ _ _ _ _ hP hD hS _ (lv_sub hl [2, 3, 4, 5, 0] rfl) hf
            · have hf := ite_f c22 hf
              refine lv_iload_n hx hb d_F_firstIn_115 rfl (lv_at hl 2 rfl) ?_
              refine lv_sipush (v := 301) hx hb d_F_firstIn_116 (by decide) ?_
              refine lv_icmp_ge (tgt := 133) hx hb d_F_firstIn_119 (by decide) (fun c24 => ?_) (fun c24 => ?_)
              · have hf := ite_t c24 hf
                obtain ⟨x25, ex25⟩ : ∃ y : Int32, y = x5_91 + (-1 : Int32) := ⟨_, rfl⟩
                refine lv_iinc (v := x25) (lv' := [(5, .int x25), (6, .int r21), (0, .ref aF), (2, .int x2_91), (3, .int x3_91), (4, .int x4_91)]) hx hb d_F_firstIn_133 hl (k := 5) rfl (by rw [ex25]; rfl) (by decide) rfl (fun ls hl => ?_)
                have hf := of_nm ex25 hf
                refine lv_goto (tgt := 91) hx hb d_F_firstIn_136 (by decide) ?_
                exact ih91 _ _ _ _ _ _ _ _ _ hP hD hS _ (lv_sub hl [2, 3, 4, 5, 0] rfl) hf
              · have hf := ite_f c24 hf
                refine lv_aload_n hx hb d_F_firstIn_122 rfl (lv_at hl 1 rfl) ?_
                refine va_get (D := D) (ci := 4) (v := .ref aF_waiting) (C := RR_F) (T := FF_F) (N := 7) hx hb hts kin_F hown hK.1 hP 6 rfl rfl 3 (by decide) (hts _ k1_109) (fun _ h9 => h9) rfl d_F_firstIn_123 ?_
                refine lv_iload_n hx hb d_F_firstIn_126 rfl (lv_at hl 2 rfl) ?_
                refine lv_iload hx hb d_F_firstIn_127 (lv_at hl 0 rfl) ?_
                obtain ⟨h26, hf⟩ := of_gd hf
                obtain ⟨g27, eg27⟩ : ∃ y : Nat → Int32, y = upd F_waiting_91 x2_91.toNatClampNeg r21 := ⟨_, rfl⟩
                have hf := of_nm eg27 hf
                refine va_iast hx hb hK.1 hP hD hS 8 0 rfl rfl (ixb_in h26) d_F_firstIn_129 (fun H locs hP hD hS => ?_)
                rw [← eg27] at hP hD
                have hP : va_P D vwCl (wv_27 cI cJ cZ aT aT_heads aT_places aT_olders aT_sizes aT_withins aT_newest aM aM_images aM_path aF aF_seen aF_waiting T_count nT_heads T_heads nT_places T_places nT_withins T_withins M_images_91 F_shape F_match F_premise F_seen_91 g27) H := hP
                have hD : va_D A (wv_27 cI cJ cZ aT aT_heads aT_places aT_olders aT_sizes aT_withins aT_newest aM aM_images aM_path aF aF_seen aF_waiting T_count nT_heads T_heads nT_places T_places nT_withins T_withins M_images_91 F_shape F_match F_premise F_seen_91 g27) := hD
                obtain ⟨x28, ex28⟩ : ∃ y : Int32, y = x2_91 + (1 : Int32) := ⟨_, rfl⟩
                refine lv_iinc (v := x28) (lv' := [(2, .int x28), (6, .int r21), (0, .ref aF), (3, .int x3_91), (4, .int x4_91), (5, .int x5_91)]) hx hb d_F_firstIn_130 hl (k := 2) rfl (by rw [ex28]; rfl) (by decide) rfl (fun ls hl => ?_)
                have hf := of_nm ex28 hf
                obtain ⟨x29, ex29⟩ : ∃ y : Int32, y = x5_91 + (-1 : Int32) := ⟨_, rfl⟩
                refine lv_iinc (v := x29) (lv' := [(5, .int x29), (2, .int x28), (6, .int r21), (0, .ref aF), (3, .int x3_91), (4, .int x4_91)]) hx hb d_F_firstIn_133 hl (k := 5) rfl (by rw [ex29]; rfl) (by decide) rfl (fun ls hl => ?_)
                have hf := of_nm ex29 hf
                refine lv_goto (tgt := 91) hx hb d_F_firstIn_136 (by decide) ?_
                exact ih91 _ _ _ _ _ _ _ _ _ hP hD hS _ (lv_sub hl [3, 1, 4, 5, 0] rfl) hf
      intro M_images_11 F_seen_11 F_waiting_11 x2_11 x3_11 H locs hP hD hS ls hl hf
      rw [f_F_firstIn_L11] at hf
      refine lv_iload_n hx hb d_F_firstIn_11 rfl (lv_at hl 2 rfl) ?_
      refine lv_sipush (v := 301) hx hb d_F_firstIn_12 (by decide) ?_
      refine lv_icmp_ge (tgt := 145) hx hb d_F_firstIn_15 (by decide) (fun c3 => ?_) (fun c3 => ?_)
      · have hf := ite_t c3 hf
        refine lv_iconst (v := -1) hx hb d_F_firstIn_145 (by decide) ?_
        obtain rfl := Option.some.inj hf
        exact W.iret (v := (-1 : Int32)) hx hb hr (fun t ht hW => ⟨rfl, by rw [ht]; exact hP, hD, hS.F ht⟩) hS.2.2 d_F_firstIn_146
      · have hf := ite_f c3 hf
        refine lv_iload_n hx hb d_F_firstIn_18 rfl (lv_at hl 1 rfl) ?_
        refine lv_if_le (tgt := 145) hx hb d_F_firstIn_19 (by decide) (fun c4 => ?_) (fun c4 => ?_)
        · have hf := ite_t c4 hf
          refine lv_iconst (v := -1) hx hb d_F_firstIn_145 (by decide) ?_
          obtain rfl := Option.some.inj hf
          exact W.iret (v := (-1 : Int32)) hx hb hr (fun t ht hW => ⟨rfl, by rw [ht]; exact hP, hD, hS.F ht⟩) hS.2.2 d_F_firstIn_146
        · have hf := ite_f c4 hf
          obtain ⟨x5, ex5⟩ : ∃ y : Int32, y = x2_11 + (-1 : Int32) := ⟨_, rfl⟩
          refine lv_iinc (v := x5) (lv' := [(2, .int x5), (0, .ref aF), (3, .int x3_11)]) hx hb d_F_firstIn_22 hl (k := 1) rfl (by rw [ex5]; rfl) (by decide) rfl (fun ls hl => ?_)
          have hf := of_nm ex5 hf
          refine lv_aload_n hx hb d_F_firstIn_25 rfl (lv_at hl 1 rfl) ?_
          refine va_get (D := D) (ci := 4) (v := .ref aF_waiting) (C := RR_F) (T := FF_F) (N := 7) hx hb hts kin_F hown hK.1 hP 6 rfl rfl 3 (by decide) (hts _ k1_109) (fun _ h9 => h9) rfl d_F_firstIn_26 ?_
          refine lv_iload_n hx hb d_F_firstIn_29 rfl (lv_at hl 0 rfl) ?_
          obtain ⟨h6, hf⟩ := of_gd hf
          refine va_iald hx hb hK.1 hP 8 0 rfl rfl (ixb_in h6) d_F_firstIn_30 ?_
          refine lv_topi (fun x7 ex7 => ?_)
          have hf := of_nm ex7 hf
          refine lv_istore (lv' := [(4, .int x7), (2, .int x5), (0, .ref aF), (3, .int x3_11)]) hx hb d_F_firstIn_31 hl (by decide) rfl (fun ls hl => ?_)
          refine lv_iload hx hb d_F_firstIn_33 (lv_at hl 0 rfl) ?_
          refine lv_if_lt (tgt := 139) hx hb d_F_firstIn_35 (by decide) (fun c8 => ?_) (fun c8 => ?_)
          · have hf := ite_t c8 hf
            obtain ⟨x9, ex9⟩ : ∃ y : Int32, y = x3_11 + (1 : Int32) := ⟨_, rfl⟩
            refine lv_iinc (v := x9) (lv' := [(3, .int x9), (4, .int x7), (2, .int x5), (0, .ref aF)]) hx hb d_F_firstIn_139 hl (k := 3) rfl (by rw [ex9]; rfl) (by decide) rfl (fun ls hl => ?_)
            have hf := of_nm ex9 hf
            refine lv_goto (tgt := 11) hx hb d_F_firstIn_142 (by decide) ?_
            exact ih11 _ _ _ _ _ _ _ hP hD hS _ (lv_sub hl [3, 2, 0] rfl) hf
          · have hf := ite_f c8 hf
            refine lv_iload hx hb d_F_firstIn_38 (lv_at hl 0 rfl) ?_
            refine lv_bipush (v := 100) hx hb d_F_firstIn_40 (by decide) ?_
            refine lv_icmp_ge (tgt := 139) hx hb d_F_firstIn_42 (by decide) (fun c10 => ?_) (fun c10 => ?_)
            · have hf := ite_t c10 hf
              obtain ⟨x11, ex11⟩ : ∃ y : Int32, y = x3_11 + (1 : Int32) := ⟨_, rfl⟩
              refine lv_iinc (v := x11) (lv' := [(3, .int x11), (4, .int x7), (2, .int x5), (0, .ref aF)]) hx hb d_F_firstIn_139 hl (k := 3) rfl (by rw [ex11]; rfl) (by decide) rfl (fun ls hl => ?_)
              have hf := of_nm ex11 hf
              refine lv_goto (tgt := 11) hx hb d_F_firstIn_142 (by decide) ?_
              exact ih11 _ _ _ _ _ _ _ hP hD hS _ (lv_sub hl [3, 2, 0] rfl) hf
            · have hf := ite_f c10 hf
              refine lv_aload_n hx hb d_F_firstIn_45 rfl (lv_at hl 2 rfl) ?_
              refine va_get (D := D) (ci := 4) (v := .ref aF_seen) (C := RR_F) (T := FF_F) (N := 7) hx hb hts kin_F hown hK.1 hP 6 rfl rfl 2 (by decide) (hts _ k1_108) (fun _ h9 => h9) rfl d_F_firstIn_46 ?_
              refine lv_iload hx hb d_F_firstIn_49 (lv_at hl 0 rfl) ?_
              obtain ⟨h12, hf⟩ := of_gd hf
              refine va_zald hx hb hK.1 hP 7 2 rfl rfl (ixb_in h12) d_F_firstIn_51 ?_
              refine lv_if_eq (tgt := 58) hx hb d_F_firstIn_52 (by decide) (fun c13 => ?_) (fun c13 => ?_)
              · have hf := ite_t c13 hf
                refine lv_aload_n hx hb d_F_firstIn_58 rfl (lv_at hl 2 rfl) ?_
                refine va_get (D := D) (ci := 4) (v := .ref aF_seen) (C := RR_F) (T := FF_F) (N := 7) hx hb hts kin_F hown hK.1 hP 6 rfl rfl 2 (by decide) (hts _ k1_108) (fun _ h9 => h9) rfl d_F_firstIn_59 ?_
                refine lv_iload hx hb d_F_firstIn_62 (lv_at hl 0 rfl) ?_
                refine lv_iconst (v := 1) hx hb d_F_firstIn_64 (by decide) ?_
                obtain ⟨h14, hf⟩ := of_gd hf
                obtain ⟨g15, eg15⟩ : ∃ y : Nat → Int32, y = upd F_seen_11 x7.toNatClampNeg (vp_nar .boolean (1 : Int32)) := ⟨_, rfl⟩
                have hf := of_nm eg15 hf
                refine va_zast hx hb hK.1 hP hD hS 7 2 rfl rfl (ixb_in h14) d_F_firstIn_65 (fun H locs hP hD hS => ?_)
                rw [← eg15] at hP hD
                have hP : va_P D vwCl (wv_27 cI cJ cZ aT aT_heads aT_places aT_olders aT_sizes aT_withins aT_newest aM aM_images aM_path aF aF_seen aF_waiting T_count nT_heads T_heads nT_places T_places nT_withins T_withins M_images_11 F_shape F_match F_premise g15 F_waiting_11) H := hP
                have hD : va_D A (wv_27 cI cJ cZ aT aT_heads aT_places aT_olders aT_sizes aT_withins aT_newest aM aM_images aM_path aF aF_seen aF_waiting T_count nT_heads T_heads nT_places T_places nT_withins T_withins M_images_11 F_shape F_match F_premise g15 F_waiting_11) := hD
                refine lv_aload_n hx hb d_F_firstIn_66 rfl (lv_at hl 2 rfl) ?_
                refine va_get (D := D) (ci := 4) (v := .ref aM) (C := RR_F) (T := FF_F) (N := 7) hx hb hts kin_F hown hK.1 hP 6 rfl rfl 1 (by decide) (hts _ k1_107) (fun _ h9 => h9) rfl d_F_firstIn_67 ?_
                refine lv_aload_n hx hb d_F_firstIn_70 rfl (lv_at hl 2 rfl) ?_
                refine va_get (D := D) (ci := 4) (v := .int F_shape) (C := RR_F) (T := FF_F) (N := 7) hx hb hts kin_F hown hK.1 hP 6 rfl rfl 4 (by decide) (hts _ k1_110) (fun _ h9 => h9) rfl d_F_firstIn_71 ?_
                refine lv_iload hx hb d_F_firstIn_74 (lv_at hl 0 rfl) ?_
                refine lv_ldc2 (v := 4123168604160) hx hb hown (hts _ k3_80) d_F_firstIn_76 ?_
                obtain ⟨r16, hr16, hf⟩ := of_bd hf
                refine wr_call (ws' := (wv_27 cI cJ cZ aT aT_heads aT_places aT_olders aT_sizes aT_withins aT_newest aM aM_images aM_path aF aF_seen aF_waiting T_count nT_heads T_heads nT_places T_places nT_withins T_withins r16.2 F_shape F_match F_premise g15 F_waiting_11)) (va_runV (As := [.int F_shape, .int x7, .long (4123168604160 : Int64)]) (rest := []) ⟨hx, hb, hml, hown, hts⟩ (c_M_matches l D cI cJ cZ aT aT_heads aT_places aT_olders aT_sizes aT_withins aT_newest aM aM_images aM_path _ T_count nT_heads T_heads nT_places T_places nT_withins T_withins M_images_11 F_shape x7 (4123168604160 : Int64) r16 hr16) (bigV 3 hts k3_81 k2_59 k2_60 k1_5 k2_61 rfl rfl hd_M_matches ⟨Nat.le_of_ble_eq_true rfl, Nat.le_of_ble_eq_true rfl⟩) (wr_preV hK hP hD [0, 1, 2, 3, 4, 5] rfl (by decide) rfl 4 rfl rfl rfl) rfl rfl hl.1 rfl (lv_room (Nat.le_of_ble_eq_true rfl)) d_F_firstIn_79 ⟨Nat.le_of_ble_eq_true rfl, Nat.le_of_ble_eq_true rfl⟩) hP hD hS hA [0, 1, 2, 3, 4, 5] [6, 7, 8] rfl rfl (by decide) (by decide) [3, 4, 5, 6, 7, 8, 0, 1, 2] (by decide) rfl (fun H locs hP hD hS => ?_)
                refine lv_if_eq (tgt := 88) hx hb d_F_firstIn_82 (by decide) (fun c17 => ?_) (fun c17 => ?_)
                · have hf := ite_t c17 hf
                  refine lv_iconst (v := 2) hx hb d_F_firstIn_88 (by decide) ?_
                  refine lv_istore (lv' := [(5, .int (2 : Int32)), (4, .int x7), (2, .int x5), (0, .ref aF), (3, .int x3_11)]) hx hb d_F_firstIn_89 hl (by decide) rfl (fun ls hl => ?_)
                  exact hL91 FU _ _ _ _ _ _ _ _ _ hP hD hS _ (lv_sub hl [3, 2, 4, 1, 0] rfl) hf
                · have hf := ite_f c17 hf
                  refine lv_iload hx hb d_F_firstIn_85 (lv_at hl 0 rfl) ?_
                  obtain rfl := Option.some.inj hf
                  exact W.iret (v := x7) hx hb hr (fun t ht hW => ⟨rfl, by rw [ht]; exact hP, hD, hS.F ht⟩) hS.2.2 d_F_firstIn_87
              · have hf := ite_f c13 hf
                refine lv_goto (tgt := 139) hx hb d_F_firstIn_55 (by decide) ?_
                obtain ⟨x18, ex18⟩ : ∃ y : Int32, y = x3_11 + (1 : Int32) := ⟨_, rfl⟩
                refine lv_iinc (v := x18) (lv' := [(3, .int x18), (4, .int x7), (2, .int x5), (0, .ref aF)]) hx hb d_F_firstIn_139 hl (k := 3) rfl (by rw [ex18]; rfl) (by decide) rfl (fun ls hl => ?_)
                have hf := of_nm ex18 hf
                refine lv_goto (tgt := 11) hx hb d_F_firstIn_142 (by decide) ?_
                exact ih11 _ _ _ _ _ _ _ hP hD hS _ (lv_sub hl [3, 2, 0] rfl) hf
  rw [f_F_firstIn] at hf
  refine lv_iconst (v := 1) hx hb d_F_firstIn_0 (by decide) ?_
  refine lv_istore_n (lv' := [(2, .int (1 : Int32)), (0, .ref aF), (1, .int p0)]) hx hb d_F_firstIn_1 rfl hl (by decide) rfl (fun ls hl => ?_)
  refine lv_aload_n hx hb d_F_firstIn_2 rfl (lv_at hl 1 rfl) ?_
  refine va_get (D := D) (ci := 4) (v := .ref aF_waiting) (C := RR_F) (T := FF_F) (N := 7) hx hb hts kin_F hown hK.1 hP 6 rfl rfl 3 (by decide) (hts _ k1_109) (fun _ h9 => h9) rfl d_F_firstIn_3 ?_
  refine lv_iconst (v := 0) hx hb d_F_firstIn_6 (by decide) ?_
  refine lv_iload_n hx hb d_F_firstIn_7 rfl (lv_at hl 2 rfl) ?_
  obtain ⟨h1, hf⟩ := of_gd hf
  obtain ⟨g2, eg2⟩ : ∃ y : Nat → Int32, y = upd F_waiting (0 : Int32).toNatClampNeg p0 := ⟨_, rfl⟩
  have hf := of_nm eg2 hf
  refine va_iast hx hb hK.1 hP hD hS 8 0 rfl rfl (ixb_in h1) d_F_firstIn_8 (fun H locs hP hD hS => ?_)
  rw [← eg2] at hP hD
  have hP : va_P D vwCl (wv_27 cI cJ cZ aT aT_heads aT_places aT_olders aT_sizes aT_withins aT_newest aM aM_images aM_path aF aF_seen aF_waiting T_count nT_heads T_heads nT_places T_places nT_withins T_withins M_images F_shape F_match F_premise F_seen g2) H := hP
  have hD : va_D A (wv_27 cI cJ cZ aT aT_heads aT_places aT_olders aT_sizes aT_withins aT_newest aM aM_images aM_path aF aF_seen aF_waiting T_count nT_heads T_heads nT_places T_places nT_withins T_withins M_images F_shape F_match F_premise F_seen g2) := hD
  refine lv_iconst (v := 0) hx hb d_F_firstIn_9 (by decide) ?_
  refine lv_istore_n (lv' := [(3, .int (0 : Int32)), (2, .int (1 : Int32)), (0, .ref aF), (1, .int p0)]) hx hb d_F_firstIn_10 rfl hl (by decide) rfl (fun ls hl => ?_)
  exact hL11 FU _ _ _ _ _ _ _ hP hD hS _ (lv_sub hl [2, 1, 0] rfl) hf
def f_F_finds_B66 (T_count : Int32) (nT_heads : Nat) (T_heads : (Nat → Int32)) (nT_places : Nat) (T_places : (Nat → Int32)) (nT_withins : Nat) (T_withins : (Nat → Int64)) (S_count : Int32) (S_premises : (Nat → Int32)) (S_premiseCounts : (Nat → Int32)) (S_conclusions : (Nat → Int32)) (F_shape : Int32) (M_images_66 : (Nat → Int32)) (F_match_66 : Int32) (F_premise_66 : Int32) (F_seen_66 : (Nat → Int32)) (F_waiting_66 : (Nat → Int32)) : Option (Int32 × (Nat → Int32) × Int32 × Int32 × (Nat → Int32) × (Nat → Int32)) :=
  if F_match_66 = (-1 : Int32) then
    some ((0 : Int32), M_images_66, F_match_66, F_premise_66, F_seen_66, F_waiting_66)
  else
    some ((1 : Int32), M_images_66, F_match_66, F_premise_66, F_seen_66, F_waiting_66)
def f_F_finds_L24 (T_count : Int32) (nT_heads : Nat) (T_heads : (Nat → Int32)) (nT_places : Nat) (T_places : (Nat → Int32)) (nT_withins : Nat) (T_withins : (Nat → Int64)) (S_count : Int32) (S_premises : (Nat → Int32)) (S_premiseCounts : (Nat → Int32)) (S_conclusions : (Nat → Int32)) (F_shape : Int32) : Nat → (Nat → Int32) → Int32 → Int32 → (Nat → Int32) → (Nat → Int32) → Int32 → Int32 → Option (Int32 × (Nat → Int32) × Int32 × Int32 × (Nat → Int32) × (Nat → Int32))
  | 0, _, _, _, _, _, _, _ => none
  | n + 1, M_images_24, F_match_24, F_premise_24, F_seen_24, F_waiting_24, x2_24, x3_24 =>
    (f_S_premises S_count S_premiseCounts x2_24).bind fun r4 =>
    if r4 ≤ x3_24 then
      f_F_finds_B66 T_count nT_heads T_heads nT_places T_places nT_withins T_withins S_count S_premises S_premiseCounts S_conclusions F_shape M_images_24 F_match_24 F_premise_24 F_seen_24 F_waiting_24
    else
      if F_match_24 = (-1 : Int32) then
        (f_S_premise S_count S_premises S_premiseCounts x2_24 x3_24).bind fun r7 =>
        (f_F_firstIn T_count nT_heads T_heads nT_places T_places nT_withins T_withins M_images_24 F_shape F_seen_24 F_waiting_24 r7).bind fun r8 =>
        nm (x3_24 + (1 : Int32)) fun x9 =>
        (f_F_finds_L24 T_count nT_heads T_heads nT_places T_places nT_withins T_withins S_count S_premises S_premiseCounts S_conclusions F_shape n) r8.2.1 r8.1 x3_24 r8.2.2.1 r8.2.2.2 x2_24 x9
      else
        f_F_finds_B66 T_count nT_heads T_heads nT_places T_places nT_withins T_withins S_count S_premises S_premiseCounts S_conclusions F_shape M_images_24 F_match_24 F_premise_24 F_seen_24 F_waiting_24
def f_F_finds (T_count : Int32) (nT_heads : Nat) (T_heads : (Nat → Int32)) (nT_places : Nat) (T_places : (Nat → Int32)) (nT_withins : Nat) (T_withins : (Nat → Int64)) (S_count : Int32) (S_premises : (Nat → Int32)) (S_premiseCounts : (Nat → Int32)) (S_conclusions : (Nat → Int32)) (M_images : (Nat → Int32)) (F_shape : Int32) (F_match : Int32) (F_premise : Int32) (F_seen : (Nat → Int32)) (F_waiting : (Nat → Int32)) (p0 : Int32) : Option (Int32 × (Nat → Int32) × Int32 × Int32 × (Nat → Int32) × (Nat → Int32)) :=
  (f_F_forgetSeen F_seen).bind fun r1 =>
  (f_S_conclusion S_count S_conclusions p0).bind fun r2 =>
  (f_F_firstIn T_count nT_heads T_heads nT_places T_places nT_withins T_withins M_images F_shape r1 F_waiting r2).bind fun r3 =>
  f_F_finds_L24 T_count nT_heads T_heads nT_places T_places nT_withins T_withins S_count S_premises S_premiseCounts S_conclusions F_shape FU r3.2.1 r3.1 (-1 : Int32) r3.2.2.1 r3.2.2.2 p0 (0 : Int32)
abbrev rm_F_finds : Room := { frames := 5, cells := 0, slots := 0, locals := 124 }
set_option maxHeartbeats 4000000 in
set_option maxRecDepth 100000 in
theorem c_F_finds (l : Launch) (D : va_G) (cI cJ cZ : ClassId) (aT aT_heads aT_places aT_olders aT_sizes aT_withins aT_newest aS aS_premises aS_premiseCounts aS_conclusions aS_order aM aM_images aM_path aF aF_seen aF_waiting : Nat) (sz : Nat) (T_count : Int32) (nT_heads : Nat) (T_heads : (Nat → Int32)) (nT_places : Nat) (T_places : (Nat → Int32)) (nT_withins : Nat) (T_withins : (Nat → Int64)) (S_count : Int32) (S_premises : (Nat → Int32)) (S_premiseCounts : (Nat → Int32)) (S_conclusions : (Nat → Int32)) (M_images : (Nat → Int32)) (F_shape : Int32) (F_match : Int32) (F_premise : Int32) (F_seen : (Nat → Int32)) (F_waiting : (Nat → Int32)) (p0 : Int32) (o : Int32 × (Nat → Int32) × Int32 × Int32 × (Nat → Int32) × (Nat → Int32)) (hf : f_F_finds T_count nT_heads T_heads nT_places T_places nT_withins T_withins S_count S_premises S_premiseCounts S_conclusions M_images F_shape F_match F_premise F_seen F_waiting p0 = some o) : Met l y_F_finds (ws_F_finds) rm_F_finds (WPc D vwCl cI cJ cZ [.ref aF, .ref aS, .int p0] (wv_28 cI cJ cZ aT aT_heads aT_places aT_olders aT_sizes aT_withins aT_newest aS aS_premises aS_premiseCounts aS_conclusions aS_order aM aM_images aM_path aF aF_seen aF_waiting T_count nT_heads T_heads nT_places T_places nT_withins T_withins S_count S_premises S_premiseCounts S_conclusions M_images F_shape F_match F_premise F_seen F_waiting) sz) (WQ D vwCl (some (.int o.1)) (wv_28 cI cJ cZ aT aT_heads aT_places aT_olders aT_sizes aT_withins aT_newest aS aS_premises aS_premiseCounts aS_conclusions aS_order aM aM_images aM_path aF aF_seen aF_waiting T_count nT_heads T_heads nT_places T_places nT_withins T_withins S_count S_premises S_premiseCounts S_conclusions o.2.1 F_shape o.2.2.1 o.2.2.2.1 o.2.2.2.2.1 o.2.2.2.2.2) (va_A (wv_28 cI cJ cZ aT aT_heads aT_places aT_olders aT_sizes aT_withins aT_newest aS aS_premises aS_premiseCounts aS_conclusions aS_order aM aM_images aM_path aF aF_seen aF_waiting T_count nT_heads T_heads nT_places T_places nT_withins T_withins S_count S_premises S_premiseCounts S_conclusions M_images F_shape F_match F_premise F_seen F_waiting) sz)) 0 0 (va_A (wv_28 cI cJ cZ aT aT_heads aT_places aT_olders aT_sizes aT_withins aT_newest aS aS_premises aS_premiseCounts aS_conclusions aS_order aM aM_images aM_path aF aF_seen aF_waiting T_count nT_heads T_heads nT_places T_places nT_withins T_withins S_count S_premises S_premiseCounts S_conclusions M_images F_shape F_match F_premise F_seen F_waiting) sz) := by
  refine Met.ofW (cc := b_F_finds) (maxL := 4) (ret := (some .boolean)) (by decide) rfl ?_
  intro p e s m args below meth c s₁ B hml hv
  obtain ⟨rfl, rfl, hP, hK, hD0⟩ := hv
  have hx := B.exec
  have hb := B.bytes
  have hr := B.returns
  have hts : ∀ w ∈ BG, w.before _ s = true := fun w h => atoms_spec (ws := (ws_F_finds)) B.pre w (List.mem_cons_of_mem _ h)
  have hown : s.vm.findClass RR_F = some m.cls := findClass_of_methodNamed B.named
  have hlocks := B.notSynchronized
  have hD := hD0.self (sz := s.heap.size)
  have hA : ∀ q : Nat, s.heap.size ≤ q → va_A (wv_28 cI cJ cZ aT aT_heads aT_places aT_olders aT_sizes aT_withins aT_newest aS aS_premises aS_premiseCounts aS_conclusions aS_order aM aM_images aM_path aF aF_seen aF_waiting T_count nT_heads T_heads nT_places T_places nT_withins T_withins S_count S_premises S_premiseCounts S_conclusions M_images F_shape F_match F_premise F_seen F_waiting) s.heap.size q := fun q h => Or.inr h
  have hS : va_S (va_A (wv_28 cI cJ cZ aT aT_heads aT_places aT_olders aT_sizes aT_withins aT_newest aS aS_premises aS_premiseCounts aS_conclusions aS_order aM aM_images aM_path aF aF_seen aF_waiting T_count nT_heads T_heads nT_places T_places nT_withins T_withins S_count S_premises S_premiseCounts S_conclusions M_images F_shape F_match F_premise F_seen F_waiting) s.heap.size) s.heap s.heap [] := va_S.rf
  generalize va_A (wv_28 cI cJ cZ aT aT_heads aT_places aT_olders aT_sizes aT_withins aT_newest aS aS_premises aS_premiseCounts aS_conclusions aS_order aM aM_images aM_path aF aF_seen aF_waiting T_count nT_heads T_heads nT_places T_places nT_withins T_withins S_count S_premises S_premiseCounts S_conclusions M_images F_shape F_match F_premise F_seen F_waiting) s.heap.size = A at hD hA hS ⊢
  have hl := lv_entry ([.ref aF, .ref aS, .int p0]) (n := 4) (Nat.le_of_ble_eq_true rfl)
  rw [lg_entry_eq]
  generalize (lg_sl ([.ref aF, .ref aS, .int p0]) ++ List.replicate (4 - (lg_sl ([.ref aF, .ref aS, .int p0])).length) Slot.unset).toArray = ls at hl ⊢
  have hl : lv_has ls 4 [(0, .ref aF), (1, .ref aS), (2, .int p0)] := hl
  have hB66 : ∀ (M_images_66 : (Nat → Int32)) (F_match_66 : Int32) (F_premise_66 : Int32) (F_seen_66 : (Nat → Int32)) (F_waiting_66 : (Nat → Int32)), ∀ (H : Heap) (locs : List Loc), va_P D vwCl (wv_28 cI cJ cZ aT aT_heads aT_places aT_olders aT_sizes aT_withins aT_newest aS aS_premises aS_premiseCounts aS_conclusions aS_order aM aM_images aM_path aF aF_seen aF_waiting T_count nT_heads T_heads nT_places T_places nT_withins T_withins S_count S_premises S_premiseCounts S_conclusions M_images_66 F_shape F_match_66 F_premise_66 F_seen_66 F_waiting_66) H → va_D A (wv_28 cI cJ cZ aT aT_heads aT_places aT_olders aT_sizes aT_withins aT_newest aS aS_premises aS_premiseCounts aS_conclusions aS_order aM aM_images aM_path aF aF_seen aF_waiting T_count nT_heads T_heads nT_places T_places nT_withins T_withins S_count S_premises S_premiseCounts S_conclusions M_images_66 F_shape F_match_66 F_premise_66 F_seen_66 F_waiting_66) → va_S A s.heap H locs → ∀ (ls : Array Slot), lv_has ls 4 [(0, .ref aF)] → f_F_finds_B66 T_count nT_heads T_heads nT_places T_places nT_withins T_withins S_count S_premises S_premiseCounts S_conclusions F_shape M_images_66 F_match_66 F_premise_66 F_seen_66 F_waiting_66 = some o → W p l e (headSpec (ws_F_finds) rm_F_finds).room s m ([.ref aF, .ref aS, .int p0] : List Value).toArray below meth c H locs 0 0 (MQ below (WQ D vwCl (some (.int o.1)) (wv_28 cI cJ cZ aT aT_heads aT_places aT_olders aT_sizes aT_withins aT_newest aS aS_premises aS_premiseCounts aS_conclusions aS_order aM aM_images aM_path aF aF_seen aF_waiting T_count nT_heads T_heads nT_places T_places nT_withins T_withins S_count S_premises S_premiseCounts S_conclusions o.2.1 F_shape o.2.2.1 o.2.2.2.1 o.2.2.2.2.1 o.2.2.2.2.2) A) ([.ref aF, .ref aS, .int p0] : List Value).toArray s 0 0 A) (F0 m 66 ls []) := by
    intro M_images_66 F_match_66 F_premise_66 F_seen_66 F_waiting_66 H locs hP hD hS ls hl hf
    rw [f_F_finds_B66] at hf
    refine lv_aload_n hx hb d_F_finds_66 rfl (lv_at hl 0 rfl) ?_
    refine va_get (D := D) (ci := 4) (v := .int F_match_66) (C := RR_F) (T := FF_F) (N := 7) hx hb hts kin_F hown hK.1 hP 10 rfl rfl 5 (by decide) (hts _ k1_111) (fun _ h9 => h9) rfl d_F_finds_67 ?_
    refine lv_iconst (v := -1) hx hb d_F_finds_70 (by decide) ?_
    refine lv_icmp_eq (tgt := 78) hx hb d_F_finds_71 (by decide) (fun c10 => ?_) (fun c10 => ?_)
    · have hf := ite_t c10 hf
      refine lv_iconst (v := 0) hx hb d_F_finds_78 (by decide) ?_
      obtain rfl := Option.some.inj hf
      exact W.zret (v := (0 : Int32)) hx hb hr rfl (fun t ht hW => ⟨rfl, by rw [ht]; exact hP, hD, hS.F ht⟩) hS.2.2 d_F_finds_79
    · have hf := ite_f c10 hf
      refine lv_iconst (v := 1) hx hb d_F_finds_74 (by decide) ?_
      refine lv_goto (tgt := 79) hx hb d_F_finds_75 (by decide) ?_
      obtain rfl := Option.some.inj hf
      exact W.zret (v := (1 : Int32)) hx hb hr rfl (fun t ht hW => ⟨rfl, by rw [ht]; exact hP, hD, hS.F ht⟩) hS.2.2 d_F_finds_79
  have hL24 : ∀ (n24 : Nat), ∀ (M_images_24 : (Nat → Int32)) (F_match_24 : Int32) (F_premise_24 : Int32) (F_seen_24 : (Nat → Int32)) (F_waiting_24 : (Nat → Int32)) (x2_24 : Int32) (x3_24 : Int32), ∀ (H : Heap) (locs : List Loc), va_P D vwCl (wv_28 cI cJ cZ aT aT_heads aT_places aT_olders aT_sizes aT_withins aT_newest aS aS_premises aS_premiseCounts aS_conclusions aS_order aM aM_images aM_path aF aF_seen aF_waiting T_count nT_heads T_heads nT_places T_places nT_withins T_withins S_count S_premises S_premiseCounts S_conclusions M_images_24 F_shape F_match_24 F_premise_24 F_seen_24 F_waiting_24) H → va_D A (wv_28 cI cJ cZ aT aT_heads aT_places aT_olders aT_sizes aT_withins aT_newest aS aS_premises aS_premiseCounts aS_conclusions aS_order aM aM_images aM_path aF aF_seen aF_waiting T_count nT_heads T_heads nT_places T_places nT_withins T_withins S_count S_premises S_premiseCounts S_conclusions M_images_24 F_shape F_match_24 F_premise_24 F_seen_24 F_waiting_24) → va_S A s.heap H locs → ∀ (ls : Array Slot), lv_has ls 4 [(0, .ref aF), (1, .ref aS), (2, .int x2_24), (3, .int x3_24)] → f_F_finds_L24 T_count nT_heads T_heads nT_places T_places nT_withins T_withins S_count S_premises S_premiseCounts S_conclusions F_shape n24 M_images_24 F_match_24 F_premise_24 F_seen_24 F_waiting_24 x2_24 x3_24 = some o → W p l e (headSpec (ws_F_finds) rm_F_finds).room s m ([.ref aF, .ref aS, .int p0] : List Value).toArray below meth c H locs 0 0 (MQ below (WQ D vwCl (some (.int o.1)) (wv_28 cI cJ cZ aT aT_heads aT_places aT_olders aT_sizes aT_withins aT_newest aS aS_premises aS_premiseCounts aS_conclusions aS_order aM aM_images aM_path aF aF_seen aF_waiting T_count nT_heads T_heads nT_places T_places nT_withins T_withins S_count S_premises S_premiseCounts S_conclusions o.2.1 F_shape o.2.2.1 o.2.2.2.1 o.2.2.2.2.1 o.2.2.2.2.2) A) ([.ref aF, .ref aS, .int p0] : List Value).toArray s 0 0 A) (F0 m 24 ls []) := by
    intro n24
    induction n24 with
    | zero =>
      intro M_images_24 F_match_24 F_premise_24 F_seen_24 F_waiting_24 x2_24 x3_24 H locs hP hD hS ls hl hf
      rw [f_F_finds_L24] at hf
      cases hf
    | succ n24 ih24 =>
      intro M_images_24 F_match_24 F_premise_24 F_seen_24 F_waiting_24 x2_24 x3_24 H locs hP hD hS ls hl hf
      rw [f_F_finds_L24] at hf
      refine lv_iload_n hx hb d_F_finds_24 rfl (lv_at hl 3 rfl) ?_
      refine lv_aload_n hx hb d_F_finds_25 rfl (lv_at hl 1 rfl) ?_
      refine lv_iload_n hx hb d_F_finds_26 rfl (lv_at hl 2 rfl) ?_
      obtain ⟨r4, hr4, hf⟩ := of_bd hf
      refine rd_call (va_runV (As := [.int x2_24]) (rest := [.int x3_24]) ⟨hx, hb, hml, hown, hts⟩ (c_S_premises l D cI cJ cZ aS aS_premises aS_premiseCounts aS_conclusions aS_order S_count S_premiseCounts x2_24 r4 hr4) (bigV 1 hts k3_83 k3_84 k3_85 k1_4 k3_86 rfl rfl hd_S_premises ⟨Nat.le_of_ble_eq_true rfl, Nat.le_of_ble_eq_true rfl⟩) (rd_preV hK hP [4, 6] rfl 4 rfl rfl rfl) rfl rfl hl.1 rfl (lv_room (Nat.le_of_ble_eq_true rfl)) d_F_finds_27 ⟨Nat.le_of_ble_eq_true rfl, Nat.le_of_ble_eq_true rfl⟩) ?_
      refine lv_icmp_ge (tgt := 66) hx hb d_F_finds_30 (by decide) (fun c5 => ?_) (fun c5 => ?_)
      · have hf := ite_t c5 hf
        exact hB66 _ _ _ _ _ _ _ hP hD hS _ (lv_sub hl [0] rfl) hf
      · have hf := ite_f c5 hf
        refine lv_aload_n hx hb d_F_finds_33 rfl (lv_at hl 0 rfl) ?_
        refine va_get (D := D) (ci := 4) (v := .int F_match_24) (C := RR_F) (T := FF_F) (N := 7) hx hb hts kin_F hown hK.1 hP 10 rfl rfl 5 (by decide) (hts _ k1_111) (fun _ h9 => h9) rfl d_F_finds_34 ?_
        refine lv_iconst (v := -1) hx hb d_F_finds_37 (by decide) ?_
        refine lv_icmp_ne (tgt := 66) hx hb d_F_finds_38 (by decide) (fun c6 => ?_) (fun c6 => ?_)
        · have hf := ite_f c6 hf
          exact hB66 _ _ _ _ _ _ _ hP hD hS _ (lv_sub hl [0] rfl) hf
        · have hf := ite_t c6 hf
          refine lv_aload_n hx hb d_F_finds_41 rfl (lv_at hl 0 rfl) ?_
          refine lv_iload_n hx hb d_F_finds_42 rfl (lv_at hl 3 rfl) ?_
          refine va_put (D := D) (ci := 4) (v := .int x3_24) (ty := .int) (C := RR_F) (T := FF_F) (N := 7) hx hb hts kin_F TT_F tok_F nok_F hown hK.1 hP hD hS 10 rfl rfl 6 (by decide) (hts _ k1_112) (fun _ h9 => h9) rfl (by decide +kernel) rfl rfl (Nat.le_of_ble_eq_true rfl) d_F_finds_43 (fun H locs hP hD hS => ?_)
          have hP : va_P D vwCl (wv_28 cI cJ cZ aT aT_heads aT_places aT_olders aT_sizes aT_withins aT_newest aS aS_premises aS_premiseCounts aS_conclusions aS_order aM aM_images aM_path aF aF_seen aF_waiting T_count nT_heads T_heads nT_places T_places nT_withins T_withins S_count S_premises S_premiseCounts S_conclusions M_images_24 F_shape F_match_24 x3_24 F_seen_24 F_waiting_24) H := hP
          have hD : va_D A (wv_28 cI cJ cZ aT aT_heads aT_places aT_olders aT_sizes aT_withins aT_newest aS aS_premises aS_premiseCounts aS_conclusions aS_order aM aM_images aM_path aF aF_seen aF_waiting T_count nT_heads T_heads nT_places T_places nT_withins T_withins S_count S_premises S_premiseCounts S_conclusions M_images_24 F_shape F_match_24 x3_24 F_seen_24 F_waiting_24) := hD
          refine lv_aload_n hx hb d_F_finds_46 rfl (lv_at hl 0 rfl) ?_
          refine lv_aload_n hx hb d_F_finds_47 rfl (lv_at hl 0 rfl) ?_
          refine lv_aload_n hx hb d_F_finds_48 rfl (lv_at hl 1 rfl) ?_
          refine lv_iload_n hx hb d_F_finds_49 rfl (lv_at hl 2 rfl) ?_
          refine lv_iload_n hx hb d_F_finds_50 rfl (lv_at hl 3 rfl) ?_
          obtain ⟨r7, hr7, hf⟩ := of_bd hf
          refine rd_call (va_runV (As := [.int x2_24, .int x3_24]) (rest := [.ref aF, .ref aF]) ⟨hx, hb, hml, hown, hts⟩ (c_S_premise l D cI cJ cZ aS aS_premises aS_premiseCounts aS_conclusions aS_order S_count S_premises S_premiseCounts x2_24 x3_24 r7 hr7) (bigV 2 hts k3_87 k3_88 k3_89 k1_4 k3_90 rfl rfl hd_S_premise ⟨Nat.le_of_ble_eq_true rfl, Nat.le_of_ble_eq_true rfl⟩) (rd_preV hK hP [4, 5, 6] rfl 4 rfl rfl rfl) rfl rfl hl.1 rfl (lv_room (Nat.le_of_ble_eq_true rfl)) d_F_finds_51 ⟨Nat.le_of_ble_eq_true rfl, Nat.le_of_ble_eq_true rfl⟩) ?_
          obtain ⟨r8, hr8, hf⟩ := of_bd hf
          refine wr_call (ws' := (wv_28 cI cJ cZ aT aT_heads aT_places aT_olders aT_sizes aT_withins aT_newest aS aS_premises aS_premiseCounts aS_conclusions aS_order aM aM_images aM_path aF aF_seen aF_waiting T_count nT_heads T_heads nT_places T_places nT_withins T_withins S_count S_premises S_premiseCounts S_conclusions r8.2.1 F_shape F_match_24 x3_24 r8.2.2.1 r8.2.2.2)) (va_runV (As := [.int r7]) (rest := [.ref aF]) ⟨hx, hb, hml, hown, hts⟩ (c_F_firstIn l D cI cJ cZ aT aT_heads aT_places aT_olders aT_sizes aT_withins aT_newest aM aM_images aM_path aF aF_seen aF_waiting _ T_count nT_heads T_heads nT_places T_places nT_withins T_withins M_images_24 F_shape F_match_24 x3_24 F_seen_24 F_waiting_24 r7 r8 hr8) (bigV 1 hts k3_76 k3_78 ks_F_firstIn k1_6 k3_79 rfl rfl hd_F_firstIn ⟨Nat.le_of_ble_eq_true rfl, Nat.le_of_ble_eq_true rfl⟩) (wr_preV hK hP hD [0, 1, 2, 3, 8, 9, 10, 11, 12] rfl (by decide) rfl 10 rfl rfl rfl) rfl rfl hl.1 rfl (lv_room (Nat.le_of_ble_eq_true rfl)) d_F_finds_54 ⟨Nat.le_of_ble_eq_true rfl, Nat.le_of_ble_eq_true rfl⟩) hP hD hS hA [0, 1, 2, 3, 8, 9, 10, 11, 12] [4, 5, 6, 7] rfl rfl (by decide) (by decide) [4, 5, 6, 7, 0, 1, 2, 3, 8, 9, 10, 11, 12] (by decide) rfl (fun H locs hP hD hS => ?_)
          refine va_put (D := D) (ci := 4) (v := .int r8.1) (ty := .int) (C := RR_F) (T := FF_F) (N := 7) hx hb hts kin_F TT_F tok_F nok_F hown hK.1 hP hD hS 10 rfl rfl 5 (by decide) (hts _ k1_111) (fun _ h9 => h9) rfl (by decide +kernel) rfl rfl (Nat.le_of_ble_eq_true rfl) d_F_finds_57 (fun H locs hP hD hS => ?_)
          have hP : va_P D vwCl (wv_28 cI cJ cZ aT aT_heads aT_places aT_olders aT_sizes aT_withins aT_newest aS aS_premises aS_premiseCounts aS_conclusions aS_order aM aM_images aM_path aF aF_seen aF_waiting T_count nT_heads T_heads nT_places T_places nT_withins T_withins S_count S_premises S_premiseCounts S_conclusions r8.2.1 F_shape r8.1 x3_24 r8.2.2.1 r8.2.2.2) H := hP
          have hD : va_D A (wv_28 cI cJ cZ aT aT_heads aT_places aT_olders aT_sizes aT_withins aT_newest aS aS_premises aS_premiseCounts aS_conclusions aS_order aM aM_images aM_path aF aF_seen aF_waiting T_count nT_heads T_heads nT_places T_places nT_withins T_withins S_count S_premises S_premiseCounts S_conclusions r8.2.1 F_shape r8.1 x3_24 r8.2.2.1 r8.2.2.2) := hD
          obtain ⟨x9, ex9⟩ : ∃ y : Int32, y = x3_24 + (1 : Int32) := ⟨_, rfl⟩
          refine lv_iinc (v := x9) (lv' := [(3, .int x9), (0, .ref aF), (1, .ref aS), (2, .int x2_24)]) hx hb d_F_finds_60 hl (k := 3) rfl (by rw [ex9]; rfl) (by decide) rfl (fun ls hl => ?_)
          have hf := of_nm ex9 hf
          refine lv_goto (tgt := 24) hx hb d_F_finds_63 (by decide) ?_
          exact ih24 _ _ _ _ _ _ _ _ _ hP hD hS _ (lv_sub hl [1, 2, 3, 0] rfl) hf
  rw [f_F_finds] at hf
  refine lv_aload_n hx hb d_F_finds_0 rfl (lv_at hl 0 rfl) ?_
  obtain ⟨r1, hr1, hf⟩ := of_bd hf
  refine wr_call (ws' := (wv_28 cI cJ cZ aT aT_heads aT_places aT_olders aT_sizes aT_withins aT_newest aS aS_premises aS_premiseCounts aS_conclusions aS_order aM aM_images aM_path aF aF_seen aF_waiting T_count nT_heads T_heads nT_places T_places nT_withins T_withins S_count S_premises S_premiseCounts S_conclusions M_images F_shape F_match F_premise r1 F_waiting)) (va_runV (As := []) (rest := []) ⟨hx, hb, hml, hown, hts⟩ (c_F_forgetSeen l D cI cJ cZ aT aM aF aF_seen aF_waiting _ F_shape F_match F_premise F_seen r1 hr1) (bigV 0 hts k3_71 k3_73 ks_F_forgetSeen k1_6 k3_74 rfl rfl hd_F_forgetSeen ⟨Nat.le_of_ble_eq_true rfl, Nat.le_of_ble_eq_true rfl⟩) (wr_preV hK hP hD [10, 11] rfl (by decide) rfl 10 rfl rfl rfl) rfl rfl hl.1 rfl (lv_room (Nat.le_of_ble_eq_true rfl)) d_F_finds_1 ⟨Nat.le_of_ble_eq_true rfl, Nat.le_of_ble_eq_true rfl⟩) hP hD hS hA [10, 11] [0, 1, 2, 3, 4, 5, 6, 7, 8, 9, 12] rfl rfl (by decide) (by decide) [0, 1, 2, 3, 4, 5, 6, 7, 8, 9, 11, 12, 10] (by decide) rfl (fun H locs hP hD hS => ?_)
  refine lv_aload_n hx hb d_F_finds_4 rfl (lv_at hl 0 rfl) ?_
  refine lv_iconst (v := -1) hx hb d_F_finds_5 (by decide) ?_
  refine va_put (D := D) (ci := 4) (v := .int (-1 : Int32)) (ty := .int) (C := RR_F) (T := FF_F) (N := 7) hx hb hts kin_F TT_F tok_F nok_F hown hK.1 hP hD hS 10 rfl rfl 6 (by decide) (hts _ k1_112) (fun _ h9 => h9) rfl (by decide +kernel) rfl rfl (Nat.le_of_ble_eq_true rfl) d_F_finds_6 (fun H locs hP hD hS => ?_)
  have hP : va_P D vwCl (wv_28 cI cJ cZ aT aT_heads aT_places aT_olders aT_sizes aT_withins aT_newest aS aS_premises aS_premiseCounts aS_conclusions aS_order aM aM_images aM_path aF aF_seen aF_waiting T_count nT_heads T_heads nT_places T_places nT_withins T_withins S_count S_premises S_premiseCounts S_conclusions M_images F_shape F_match (-1 : Int32) r1 F_waiting) H := hP
  have hD : va_D A (wv_28 cI cJ cZ aT aT_heads aT_places aT_olders aT_sizes aT_withins aT_newest aS aS_premises aS_premiseCounts aS_conclusions aS_order aM aM_images aM_path aF aF_seen aF_waiting T_count nT_heads T_heads nT_places T_places nT_withins T_withins S_count S_premises S_premiseCounts S_conclusions M_images F_shape F_match (-1 : Int32) r1 F_waiting) := hD
  refine lv_aload_n hx hb d_F_finds_9 rfl (lv_at hl 0 rfl) ?_
  refine lv_aload_n hx hb d_F_finds_10 rfl (lv_at hl 0 rfl) ?_
  refine lv_aload_n hx hb d_F_finds_11 rfl (lv_at hl 1 rfl) ?_
  refine lv_iload_n hx hb d_F_finds_12 rfl (lv_at hl 2 rfl) ?_
  obtain ⟨r2, hr2, hf⟩ := of_bd hf
  refine rd_call (va_runV (As := [.int p0]) (rest := [.ref aF, .ref aF]) ⟨hx, hb, hml, hown, hts⟩ (c_S_conclusion l D cI cJ cZ aS aS_premises aS_premiseCounts aS_conclusions aS_order S_count S_conclusions p0 r2 hr2) (bigV 1 hts k3_75 k2_101 k2_102 k1_4 k2_103 rfl rfl hd_S_conclusion ⟨Nat.le_of_ble_eq_true rfl, Nat.le_of_ble_eq_true rfl⟩) (rd_preV hK hP [4, 7] rfl 4 rfl rfl rfl) rfl rfl hl.1 rfl (lv_room (Nat.le_of_ble_eq_true rfl)) d_F_finds_13 ⟨Nat.le_of_ble_eq_true rfl, Nat.le_of_ble_eq_true rfl⟩) ?_
  obtain ⟨r3, hr3, hf⟩ := of_bd hf
  refine wr_call (ws' := (wv_28 cI cJ cZ aT aT_heads aT_places aT_olders aT_sizes aT_withins aT_newest aS aS_premises aS_premiseCounts aS_conclusions aS_order aM aM_images aM_path aF aF_seen aF_waiting T_count nT_heads T_heads nT_places T_places nT_withins T_withins S_count S_premises S_premiseCounts S_conclusions r3.2.1 F_shape F_match (-1 : Int32) r3.2.2.1 r3.2.2.2)) (va_runV (As := [.int r2]) (rest := [.ref aF]) ⟨hx, hb, hml, hown, hts⟩ (c_F_firstIn l D cI cJ cZ aT aT_heads aT_places aT_olders aT_sizes aT_withins aT_newest aM aM_images aM_path aF aF_seen aF_waiting _ T_count nT_heads T_heads nT_places T_places nT_withins T_withins M_images F_shape F_match (-1 : Int32) r1 F_waiting r2 r3 hr3) (bigV 1 hts k3_76 k3_78 ks_F_firstIn k1_6 k3_79 rfl rfl hd_F_firstIn ⟨Nat.le_of_ble_eq_true rfl, Nat.le_of_ble_eq_true rfl⟩) (wr_preV hK hP hD [0, 1, 2, 3, 8, 9, 10, 11, 12] rfl (by decide) rfl 10 rfl rfl rfl) rfl rfl hl.1 rfl (lv_room (Nat.le_of_ble_eq_true rfl)) d_F_finds_16 ⟨Nat.le_of_ble_eq_true rfl, Nat.le_of_ble_eq_true rfl⟩) hP hD hS hA [0, 1, 2, 3, 8, 9, 10, 11, 12] [4, 5, 6, 7] rfl rfl (by decide) (by decide) [4, 5, 6, 7, 0, 1, 2, 3, 8, 9, 10, 11, 12] (by decide) rfl (fun H locs hP hD hS => ?_)
  refine va_put (D := D) (ci := 4) (v := .int r3.1) (ty := .int) (C := RR_F) (T := FF_F) (N := 7) hx hb hts kin_F TT_F tok_F nok_F hown hK.1 hP hD hS 10 rfl rfl 5 (by decide) (hts _ k1_111) (fun _ h9 => h9) rfl (by decide +kernel) rfl rfl (Nat.le_of_ble_eq_true rfl) d_F_finds_19 (fun H locs hP hD hS => ?_)
  have hP : va_P D vwCl (wv_28 cI cJ cZ aT aT_heads aT_places aT_olders aT_sizes aT_withins aT_newest aS aS_premises aS_premiseCounts aS_conclusions aS_order aM aM_images aM_path aF aF_seen aF_waiting T_count nT_heads T_heads nT_places T_places nT_withins T_withins S_count S_premises S_premiseCounts S_conclusions r3.2.1 F_shape r3.1 (-1 : Int32) r3.2.2.1 r3.2.2.2) H := hP
  have hD : va_D A (wv_28 cI cJ cZ aT aT_heads aT_places aT_olders aT_sizes aT_withins aT_newest aS aS_premises aS_premiseCounts aS_conclusions aS_order aM aM_images aM_path aF aF_seen aF_waiting T_count nT_heads T_heads nT_places T_places nT_withins T_withins S_count S_premises S_premiseCounts S_conclusions r3.2.1 F_shape r3.1 (-1 : Int32) r3.2.2.1 r3.2.2.2) := hD
  refine lv_iconst (v := 0) hx hb d_F_finds_22 (by decide) ?_
  refine lv_istore_n (lv' := [(3, .int (0 : Int32)), (0, .ref aF), (1, .ref aS), (2, .int p0)]) hx hb d_F_finds_23 rfl hl (by decide) rfl (fun ls hl => ?_)
  exact hL24 FU _ _ _ _ _ _ _ _ _ hP hD hS _ (lv_sub hl [1, 2, 3, 0] rfl) hf
