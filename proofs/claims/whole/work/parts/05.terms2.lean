abbrev b_T_make : ByteArray := prog_7_method_10_code
abbrev y_T_make : MethodName := ⟨"ShapeSearch$Terms", "make", "(IIIII)I"⟩
abbrev ws_T_make : List Cond := .code y_T_make b_T_make 9 (some .int) :: BG
theorem hd_T_make : y_T_make.cls ≠ "java/lang/invoke/MethodHandle" ∧ y_T_make.cls ≠ "java/lang/invoke/VarHandle" ∧ (parseMethodDescriptor y_T_make.desc).map (fun d => d.parameters.length) = some 5 := by decide +kernel
theorem d_T_make_0 : decode b_T_make 0 = .ok (.iload_n 1, 1) := by decide +kernel
theorem d_T_make_1 : decode b_T_make 1 = .ok (.iload_n 2, 1) := by decide +kernel
theorem d_T_make_2 : decode b_T_make 2 = .ok (.iload_n 3, 1) := by decide +kernel
theorem d_T_make_3 : decode b_T_make 3 = .ok (.iload 4, 2) := by decide +kernel
theorem d_T_make_5 : decode b_T_make 5 = .ok (.invokestatic 41, 3) := by decide +kernel
theorem d_T_make_8 : decode b_T_make 8 = .ok (.istore 6, 2) := by decide +kernel
theorem d_T_make_10 : decode b_T_make 10 = .ok (.aload_n 0, 1) := by decide +kernel
theorem d_T_make_11 : decode b_T_make 11 = .ok (.iload 6, 2) := by decide +kernel
theorem d_T_make_13 : decode b_T_make 13 = .ok (.iload_n 1, 1) := by decide +kernel
theorem d_T_make_14 : decode b_T_make 14 = .ok (.iload_n 2, 1) := by decide +kernel
theorem d_T_make_15 : decode b_T_make 15 = .ok (.iload_n 3, 1) := by decide +kernel
theorem d_T_make_16 : decode b_T_make 16 = .ok (.iload 4, 2) := by decide +kernel
theorem d_T_make_18 : decode b_T_make 18 = .ok (.invokevirtual 45, 3) := by decide +kernel
theorem d_T_make_21 : decode b_T_make 21 = .ok (.istore 7, 2) := by decide +kernel
theorem d_T_make_23 : decode b_T_make 23 = .ok (.iload 7, 2) := by decide +kernel
theorem d_T_make_25 : decode b_T_make 25 = .ok (.iconst (-1), 1) := by decide +kernel
theorem d_T_make_26 : decode b_T_make 26 = .ok (.if_icmp .eq 6, 3) := by decide +kernel
theorem d_T_make_29 : decode b_T_make 29 = .ok (.iload 7, 2) := by decide +kernel
theorem d_T_make_31 : decode b_T_make 31 = .ok (.ireturn, 1) := by decide +kernel
theorem d_T_make_32 : decode b_T_make 32 = .ok (.aload_n 0, 1) := by decide +kernel
theorem d_T_make_33 : decode b_T_make 33 = .ok (.getfield 37, 3) := by decide +kernel
theorem d_T_make_36 : decode b_T_make 36 = .ok (.iload 5, 2) := by decide +kernel
theorem d_T_make_38 : decode b_T_make 38 = .ok (.if_icmp .ge 15, 3) := by decide +kernel
theorem d_T_make_41 : decode b_T_make 41 = .ok (.aload_n 0, 1) := by decide +kernel
theorem d_T_make_42 : decode b_T_make 42 = .ok (.getfield 37, 3) := by decide +kernel
theorem d_T_make_45 : decode b_T_make 45 = .ok (.aload_n 0, 1) := by decide +kernel
theorem d_T_make_46 : decode b_T_make 46 = .ok (.getfield 11, 3) := by decide +kernel
theorem d_T_make_49 : decode b_T_make 49 = .ok (.arraylength, 1) := by decide +kernel
theorem d_T_make_50 : decode b_T_make 50 = .ok (.if_icmp .lt 5, 3) := by decide +kernel
theorem d_T_make_53 : decode b_T_make 53 = .ok (.iconst (-1), 1) := by decide +kernel
theorem d_T_make_54 : decode b_T_make 54 = .ok (.ireturn, 1) := by decide +kernel
theorem d_T_make_55 : decode b_T_make 55 = .ok (.aload_n 0, 1) := by decide +kernel
theorem d_T_make_56 : decode b_T_make 56 = .ok (.getfield 37, 3) := by decide +kernel
theorem d_T_make_59 : decode b_T_make 59 = .ok (.istore 8, 2) := by decide +kernel
theorem d_T_make_61 : decode b_T_make 61 = .ok (.aload_n 0, 1) := by decide +kernel
theorem d_T_make_62 : decode b_T_make 62 = .ok (.getfield 11, 3) := by decide +kernel
theorem d_T_make_65 : decode b_T_make 65 = .ok (.iload 8, 2) := by decide +kernel
theorem d_T_make_67 : decode b_T_make 67 = .ok (.iload_n 1, 1) := by decide +kernel
theorem d_T_make_68 : decode b_T_make 68 = .ok (.iastore, 1) := by decide +kernel
theorem d_T_make_69 : decode b_T_make 69 = .ok (.aload_n 0, 1) := by decide +kernel
theorem d_T_make_70 : decode b_T_make 70 = .ok (.getfield 15, 3) := by decide +kernel
theorem d_T_make_73 : decode b_T_make 73 = .ok (.iload 8, 2) := by decide +kernel
theorem d_T_make_75 : decode b_T_make 75 = .ok (.iconst 3, 1) := by decide +kernel
theorem d_T_make_76 : decode b_T_make 76 = .ok (.imul, 1) := by decide +kernel
theorem d_T_make_77 : decode b_T_make 77 = .ok (.iload_n 2, 1) := by decide +kernel
theorem d_T_make_78 : decode b_T_make 78 = .ok (.iastore, 1) := by decide +kernel
theorem d_T_make_79 : decode b_T_make 79 = .ok (.aload_n 0, 1) := by decide +kernel
theorem d_T_make_80 : decode b_T_make 80 = .ok (.getfield 15, 3) := by decide +kernel
theorem d_T_make_83 : decode b_T_make 83 = .ok (.iload 8, 2) := by decide +kernel
theorem d_T_make_85 : decode b_T_make 85 = .ok (.iconst 3, 1) := by decide +kernel
theorem d_T_make_86 : decode b_T_make 86 = .ok (.imul, 1) := by decide +kernel
theorem d_T_make_87 : decode b_T_make 87 = .ok (.iconst 1, 1) := by decide +kernel
theorem d_T_make_88 : decode b_T_make 88 = .ok (.iadd, 1) := by decide +kernel
theorem d_T_make_89 : decode b_T_make 89 = .ok (.iload_n 3, 1) := by decide +kernel
theorem d_T_make_90 : decode b_T_make 90 = .ok (.iastore, 1) := by decide +kernel
theorem d_T_make_91 : decode b_T_make 91 = .ok (.aload_n 0, 1) := by decide +kernel
theorem d_T_make_92 : decode b_T_make 92 = .ok (.getfield 15, 3) := by decide +kernel
theorem d_T_make_95 : decode b_T_make 95 = .ok (.iload 8, 2) := by decide +kernel
theorem d_T_make_97 : decode b_T_make 97 = .ok (.iconst 3, 1) := by decide +kernel
theorem d_T_make_98 : decode b_T_make 98 = .ok (.imul, 1) := by decide +kernel
theorem d_T_make_99 : decode b_T_make 99 = .ok (.iconst 2, 1) := by decide +kernel
theorem d_T_make_100 : decode b_T_make 100 = .ok (.iadd, 1) := by decide +kernel
theorem d_T_make_101 : decode b_T_make 101 = .ok (.iload 4, 2) := by decide +kernel
theorem d_T_make_103 : decode b_T_make 103 = .ok (.iastore, 1) := by decide +kernel
theorem d_T_make_104 : decode b_T_make 104 = .ok (.aload_n 0, 1) := by decide +kernel
theorem d_T_make_105 : decode b_T_make 105 = .ok (.getfield 21, 3) := by decide +kernel
theorem d_T_make_108 : decode b_T_make 108 = .ok (.iload 8, 2) := by decide +kernel
theorem d_T_make_110 : decode b_T_make 110 = .ok (.ldc 49, 2) := by decide +kernel
theorem d_T_make_112 : decode b_T_make 112 = .ok (.iconst 1, 1) := by decide +kernel
theorem d_T_make_113 : decode b_T_make 113 = .ok (.aload_n 0, 1) := by decide +kernel
theorem d_T_make_114 : decode b_T_make 114 = .ok (.iload_n 2, 1) := by decide +kernel
theorem d_T_make_115 : decode b_T_make 115 = .ok (.invokevirtual 50, 3) := by decide +kernel
theorem d_T_make_118 : decode b_T_make 118 = .ok (.iadd, 1) := by decide +kernel
theorem d_T_make_119 : decode b_T_make 119 = .ok (.aload_n 0, 1) := by decide +kernel
theorem d_T_make_120 : decode b_T_make 120 = .ok (.iload_n 3, 1) := by decide +kernel
theorem d_T_make_121 : decode b_T_make 121 = .ok (.invokevirtual 50, 3) := by decide +kernel
theorem d_T_make_124 : decode b_T_make 124 = .ok (.iadd, 1) := by decide +kernel
theorem d_T_make_125 : decode b_T_make 125 = .ok (.aload_n 0, 1) := by decide +kernel
theorem d_T_make_126 : decode b_T_make 126 = .ok (.iload 4, 2) := by decide +kernel
theorem d_T_make_128 : decode b_T_make 128 = .ok (.invokevirtual 50, 3) := by decide +kernel
theorem d_T_make_131 : decode b_T_make 131 = .ok (.iadd, 1) := by decide +kernel
theorem d_T_make_132 : decode b_T_make 132 = .ok (.invokestatic 54, 3) := by decide +kernel
theorem d_T_make_135 : decode b_T_make 135 = .ok (.iastore, 1) := by decide +kernel
theorem d_T_make_136 : decode b_T_make 136 = .ok (.aload_n 0, 1) := by decide +kernel
theorem d_T_make_137 : decode b_T_make 137 = .ok (.getfield 24, 3) := by decide +kernel
theorem d_T_make_140 : decode b_T_make 140 = .ok (.iload 8, 2) := by decide +kernel
theorem d_T_make_142 : decode b_T_make 142 = .ok (.lconst 1, 1) := by decide +kernel
theorem d_T_make_143 : decode b_T_make 143 = .ok (.iload_n 1, 1) := by decide +kernel
theorem d_T_make_144 : decode b_T_make 144 = .ok (.lshl, 1) := by decide +kernel
theorem d_T_make_145 : decode b_T_make 145 = .ok (.aload_n 0, 1) := by decide +kernel
theorem d_T_make_146 : decode b_T_make 146 = .ok (.iload_n 2, 1) := by decide +kernel
theorem d_T_make_147 : decode b_T_make 147 = .ok (.invokevirtual 60, 3) := by decide +kernel
theorem d_T_make_150 : decode b_T_make 150 = .ok (.lor, 1) := by decide +kernel
theorem d_T_make_151 : decode b_T_make 151 = .ok (.aload_n 0, 1) := by decide +kernel
theorem d_T_make_152 : decode b_T_make 152 = .ok (.iload_n 3, 1) := by decide +kernel
theorem d_T_make_153 : decode b_T_make 153 = .ok (.invokevirtual 60, 3) := by decide +kernel
theorem d_T_make_156 : decode b_T_make 156 = .ok (.lor, 1) := by decide +kernel
theorem d_T_make_157 : decode b_T_make 157 = .ok (.aload_n 0, 1) := by decide +kernel
theorem d_T_make_158 : decode b_T_make 158 = .ok (.iload 4, 2) := by decide +kernel
theorem d_T_make_160 : decode b_T_make 160 = .ok (.invokevirtual 60, 3) := by decide +kernel
theorem d_T_make_163 : decode b_T_make 163 = .ok (.lor, 1) := by decide +kernel
theorem d_T_make_164 : decode b_T_make 164 = .ok (.lastore, 1) := by decide +kernel
theorem d_T_make_165 : decode b_T_make 165 = .ok (.aload_n 0, 1) := by decide +kernel
theorem d_T_make_166 : decode b_T_make 166 = .ok (.getfield 18, 3) := by decide +kernel
theorem d_T_make_169 : decode b_T_make 169 = .ok (.iload 8, 2) := by decide +kernel
theorem d_T_make_171 : decode b_T_make 171 = .ok (.aload_n 0, 1) := by decide +kernel
theorem d_T_make_172 : decode b_T_make 172 = .ok (.getfield 28, 3) := by decide +kernel
theorem d_T_make_175 : decode b_T_make 175 = .ok (.iload 6, 2) := by decide +kernel
theorem d_T_make_177 : decode b_T_make 177 = .ok (.iaload, 1) := by decide +kernel
theorem d_T_make_178 : decode b_T_make 178 = .ok (.iastore, 1) := by decide +kernel
theorem d_T_make_179 : decode b_T_make 179 = .ok (.aload_n 0, 1) := by decide +kernel
theorem d_T_make_180 : decode b_T_make 180 = .ok (.getfield 28, 3) := by decide +kernel
theorem d_T_make_183 : decode b_T_make 183 = .ok (.iload 6, 2) := by decide +kernel
theorem d_T_make_185 : decode b_T_make 185 = .ok (.iload 8, 2) := by decide +kernel
theorem d_T_make_187 : decode b_T_make 187 = .ok (.iastore, 1) := by decide +kernel
theorem d_T_make_188 : decode b_T_make 188 = .ok (.aload_n 0, 1) := by decide +kernel
theorem d_T_make_189 : decode b_T_make 189 = .ok (.dup, 1) := by decide +kernel
theorem d_T_make_190 : decode b_T_make 190 = .ok (.getfield 37, 3) := by decide +kernel
theorem d_T_make_193 : decode b_T_make 193 = .ok (.iconst 1, 1) := by decide +kernel
theorem d_T_make_194 : decode b_T_make 194 = .ok (.iadd, 1) := by decide +kernel
theorem d_T_make_195 : decode b_T_make 195 = .ok (.putfield 37, 3) := by decide +kernel
theorem d_T_make_198 : decode b_T_make 198 = .ok (.iload 8, 2) := by decide +kernel
theorem d_T_make_200 : decode b_T_make 200 = .ok (.ireturn, 1) := by decide +kernel
abbrev b_T_keepBelow : ByteArray := prog_7_method_11_code
abbrev y_T_keepBelow : MethodName := ⟨"ShapeSearch$Terms", "keepBelow", "(I)V"⟩
abbrev ws_T_keepBelow : List Cond := .code y_T_keepBelow b_T_keepBelow 4 (none : Option Jvm.ClassFile.FieldType) :: BG
theorem hd_T_keepBelow : y_T_keepBelow.cls ≠ "java/lang/invoke/MethodHandle" ∧ y_T_keepBelow.cls ≠ "java/lang/invoke/VarHandle" ∧ (parseMethodDescriptor y_T_keepBelow.desc).map (fun d => d.parameters.length) = some 1 := by decide +kernel
theorem d_T_keepBelow_0 : decode b_T_keepBelow 0 = .ok (.iload_n 1, 1) := by decide +kernel
theorem d_T_keepBelow_1 : decode b_T_keepBelow 1 = .ok (.iconst 0, 1) := by decide +kernel
theorem d_T_keepBelow_2 : decode b_T_keepBelow 2 = .ok (.invokestatic 64, 3) := by decide +kernel
theorem d_T_keepBelow_5 : decode b_T_keepBelow 5 = .ok (.istore_n 2, 1) := by decide +kernel
theorem d_T_keepBelow_6 : decode b_T_keepBelow 6 = .ok (.aload_n 0, 1) := by decide +kernel
theorem d_T_keepBelow_7 : decode b_T_keepBelow 7 = .ok (.getfield 37, 3) := by decide +kernel
theorem d_T_keepBelow_10 : decode b_T_keepBelow 10 = .ok (.iconst 1, 1) := by decide +kernel
theorem d_T_keepBelow_11 : decode b_T_keepBelow 11 = .ok (.isub, 1) := by decide +kernel
theorem d_T_keepBelow_12 : decode b_T_keepBelow 12 = .ok (.istore_n 3, 1) := by decide +kernel
theorem d_T_keepBelow_13 : decode b_T_keepBelow 13 = .ok (.iload_n 3, 1) := by decide +kernel
theorem d_T_keepBelow_14 : decode b_T_keepBelow 14 = .ok (.iload_n 2, 1) := by decide +kernel
theorem d_T_keepBelow_15 : decode b_T_keepBelow 15 = .ok (.if_icmp .lt 52, 3) := by decide +kernel
theorem d_T_keepBelow_18 : decode b_T_keepBelow 18 = .ok (.aload_n 0, 1) := by decide +kernel
theorem d_T_keepBelow_19 : decode b_T_keepBelow 19 = .ok (.getfield 28, 3) := by decide +kernel
theorem d_T_keepBelow_22 : decode b_T_keepBelow 22 = .ok (.aload_n 0, 1) := by decide +kernel
theorem d_T_keepBelow_23 : decode b_T_keepBelow 23 = .ok (.getfield 11, 3) := by decide +kernel
theorem d_T_keepBelow_26 : decode b_T_keepBelow 26 = .ok (.iload_n 3, 1) := by decide +kernel
theorem d_T_keepBelow_27 : decode b_T_keepBelow 27 = .ok (.iaload, 1) := by decide +kernel
theorem d_T_keepBelow_28 : decode b_T_keepBelow 28 = .ok (.aload_n 0, 1) := by decide +kernel
theorem d_T_keepBelow_29 : decode b_T_keepBelow 29 = .ok (.iload_n 3, 1) := by decide +kernel
theorem d_T_keepBelow_30 : decode b_T_keepBelow 30 = .ok (.iconst 0, 1) := by decide +kernel
theorem d_T_keepBelow_31 : decode b_T_keepBelow 31 = .ok (.invokevirtual 67, 3) := by decide +kernel
theorem d_T_keepBelow_34 : decode b_T_keepBelow 34 = .ok (.aload_n 0, 1) := by decide +kernel
theorem d_T_keepBelow_35 : decode b_T_keepBelow 35 = .ok (.iload_n 3, 1) := by decide +kernel
theorem d_T_keepBelow_36 : decode b_T_keepBelow 36 = .ok (.iconst 1, 1) := by decide +kernel
theorem d_T_keepBelow_37 : decode b_T_keepBelow 37 = .ok (.invokevirtual 67, 3) := by decide +kernel
theorem d_T_keepBelow_40 : decode b_T_keepBelow 40 = .ok (.aload_n 0, 1) := by decide +kernel
theorem d_T_keepBelow_41 : decode b_T_keepBelow 41 = .ok (.iload_n 3, 1) := by decide +kernel
theorem d_T_keepBelow_42 : decode b_T_keepBelow 42 = .ok (.iconst 2, 1) := by decide +kernel
theorem d_T_keepBelow_43 : decode b_T_keepBelow 43 = .ok (.invokevirtual 67, 3) := by decide +kernel
theorem d_T_keepBelow_46 : decode b_T_keepBelow 46 = .ok (.invokestatic 41, 3) := by decide +kernel
theorem d_T_keepBelow_49 : decode b_T_keepBelow 49 = .ok (.aload_n 0, 1) := by decide +kernel
theorem d_T_keepBelow_50 : decode b_T_keepBelow 50 = .ok (.getfield 18, 3) := by decide +kernel
theorem d_T_keepBelow_53 : decode b_T_keepBelow 53 = .ok (.iload_n 3, 1) := by decide +kernel
theorem d_T_keepBelow_54 : decode b_T_keepBelow 54 = .ok (.iaload, 1) := by decide +kernel
theorem d_T_keepBelow_55 : decode b_T_keepBelow 55 = .ok (.iastore, 1) := by decide +kernel
theorem d_T_keepBelow_56 : decode b_T_keepBelow 56 = .ok (.aload_n 0, 1) := by decide +kernel
theorem d_T_keepBelow_57 : decode b_T_keepBelow 57 = .ok (.iload_n 3, 1) := by decide +kernel
theorem d_T_keepBelow_58 : decode b_T_keepBelow 58 = .ok (.putfield 37, 3) := by decide +kernel
theorem d_T_keepBelow_61 : decode b_T_keepBelow 61 = .ok (.iinc 3 (-1), 3) := by decide +kernel
theorem d_T_keepBelow_64 : decode b_T_keepBelow 64 = .ok (.goto (-51), 3) := by decide +kernel
theorem d_T_keepBelow_67 : decode b_T_keepBelow 67 = .ok (.return_, 1) := by decide +kernel
theorem k3_3 : Cond.constant "ShapeSearch$Terms" 49 1000000 ∈ BG := List.mem_filter.mpr ⟨in_3 (List.mem_of_getElem? (i := 3) rfl), rfl⟩
theorem k3_4 : Cond.methodLink "ShapeSearch$Terms" 50 ⟨"ShapeSearch$Terms", "size", "(I)I"⟩ ∈ BG := List.mem_filter.mpr ⟨in_3 (List.mem_of_getElem? (i := 4) rfl), rfl⟩
theorem k2_7 : Cond.code ⟨"ShapeSearch$Terms", "size", "(I)I"⟩ prog_7_method_6_code 2 (some .int) ∈ BG := List.mem_filter.mpr ⟨in_2 (List.mem_of_getElem? (i := 7) rfl), rfl⟩
theorem k2_5 : Cond.instanceMethod ⟨"ShapeSearch$Terms", "size", "(I)I"⟩ ∈ BG := List.mem_filter.mpr ⟨in_2 (List.mem_of_getElem? (i := 5) rfl), rfl⟩
theorem k2_6 : Cond.selects "ShapeSearch$Terms" ⟨"ShapeSearch$Terms", "size", "(I)I"⟩ ⟨"ShapeSearch$Terms", "size", "(I)I"⟩ ∈ BG := List.mem_filter.mpr ⟨in_2 (List.mem_of_getElem? (i := 6) rfl), rfl⟩
theorem k3_5 : Cond.methodLink "ShapeSearch$Terms" 54 ⟨"java/lang/Math", "min", "(II)I"⟩ ∈ BG := List.mem_filter.mpr ⟨in_3 (List.mem_of_getElem? (i := 5) rfl), rfl⟩
theorem k3_6 : Cond.static ⟨"java/lang/Math", "min", "(II)I"⟩ ∈ BG := List.mem_filter.mpr ⟨in_3 (List.mem_of_getElem? (i := 6) rfl), rfl⟩
theorem k1_15 : Cond.initialized "java/lang/Math" ∈ BG := List.mem_filter.mpr ⟨in_1 (List.mem_of_getElem? (i := 15) rfl), rfl⟩
theorem k3_7 : Cond.code ⟨"java/lang/Math", "min", "(II)I"⟩ prog_16_method_69_code 2 (some .int) ∈ BG := List.mem_filter.mpr ⟨in_3 (List.mem_of_getElem? (i := 7) rfl), rfl⟩
theorem k3_8 : Cond.methodLink "ShapeSearch$Terms" 60 ⟨"ShapeSearch$Terms", "within", "(I)J"⟩ ∈ BG := List.mem_filter.mpr ⟨in_3 (List.mem_of_getElem? (i := 8) rfl), rfl⟩
theorem k3_11 : Cond.code ⟨"ShapeSearch$Terms", "within", "(I)J"⟩ prog_7_method_7_code 2 (some .long) ∈ BG := List.mem_filter.mpr ⟨in_3 (List.mem_of_getElem? (i := 11) rfl), rfl⟩
theorem k3_9 : Cond.instanceMethod ⟨"ShapeSearch$Terms", "within", "(I)J"⟩ ∈ BG := List.mem_filter.mpr ⟨in_3 (List.mem_of_getElem? (i := 9) rfl), rfl⟩
theorem k3_10 : Cond.selects "ShapeSearch$Terms" ⟨"ShapeSearch$Terms", "within", "(I)J"⟩ ⟨"ShapeSearch$Terms", "within", "(I)J"⟩ ∈ BG := List.mem_filter.mpr ⟨in_3 (List.mem_of_getElem? (i := 10) rfl), rfl⟩
theorem k3_239 : Cond.methodLink "ShapeSearch$Terms" 64 ⟨"java/lang/Math", "max", "(II)I"⟩ ∈ BG := List.mem_filter.mpr ⟨in_3 (List.mem_of_getElem? (i := 239) rfl), rfl⟩
theorem k4_0 : Cond.static ⟨"java/lang/Math", "max", "(II)I"⟩ ∈ BG := List.mem_filter.mpr ⟨in_4 (List.mem_of_getElem? (i := 0) rfl), rfl⟩
theorem k4_1 : Cond.code ⟨"java/lang/Math", "max", "(II)I"⟩ prog_16_method_65_code 2 (some .int) ∈ BG := List.mem_filter.mpr ⟨in_4 (List.mem_of_getElem? (i := 1) rfl), rfl⟩
theorem k4_2 : Cond.methodLink "ShapeSearch$Terms" 67 ⟨"ShapeSearch$Terms", "place", "(II)I"⟩ ∈ BG := List.mem_filter.mpr ⟨in_4 (List.mem_of_getElem? (i := 2) rfl), rfl⟩
theorem k2_3 : Cond.code ⟨"ShapeSearch$Terms", "place", "(II)I"⟩ prog_7_method_5_code 3 (some .int) ∈ BG := List.mem_filter.mpr ⟨in_2 (List.mem_of_getElem? (i := 3) rfl), rfl⟩
theorem k2_1 : Cond.instanceMethod ⟨"ShapeSearch$Terms", "place", "(II)I"⟩ ∈ BG := List.mem_filter.mpr ⟨in_2 (List.mem_of_getElem? (i := 1) rfl), rfl⟩
theorem k2_2 : Cond.selects "ShapeSearch$Terms" ⟨"ShapeSearch$Terms", "place", "(II)I"⟩ ⟨"ShapeSearch$Terms", "place", "(II)I"⟩ ∈ BG := List.mem_filter.mpr ⟨in_2 (List.mem_of_getElem? (i := 2) rfl), rfl⟩
abbrev wv_8 (cI cJ cZ : ClassId) (aT aT_heads aT_places aT_olders aT_sizes aT_withins aT_newest : Nat) (T_count : Int32) (nT_heads : Nat) (T_heads : (Nat → Int32)) (nT_places : Nat) (T_places : (Nat → Int32)) (nT_olders : Nat) (T_olders : (Nat → Int32)) (nT_sizes : Nat) (T_sizes : (Nat → Int32)) (nT_withins : Nat) (T_withins : (Nat → Int64)) (T_newest : (Nat → Int32)) : va_W := [(aT, .inr (1, [.ref aT_heads, .ref aT_places, .ref aT_olders, .ref aT_sizes, .ref aT_withins, .ref aT_newest, .int T_count])), (aT_heads, .inl (cI, nT_heads, .inl T_heads)), (aT_places, .inl (cI, nT_places, .inl T_places)), (aT_olders, .inl (cI, nT_olders, .inl T_olders)), (aT_sizes, .inl (cI, nT_sizes, .inl T_sizes)), (aT_withins, .inl (cJ, nT_withins, .inr (.inl T_withins))), (aT_newest, .inl (cI, 256, .inl T_newest))]
def f_T_make (T_count : Int32) (nT_heads : Nat) (T_heads : (Nat → Int32)) (nT_places : Nat) (T_places : (Nat → Int32)) (nT_olders : Nat) (T_olders : (Nat → Int32)) (nT_sizes : Nat) (T_sizes : (Nat → Int32)) (nT_withins : Nat) (T_withins : (Nat → Int64)) (T_newest : (Nat → Int32)) (p0 : Int32) (p1 : Int32) (p2 : Int32) (p3 : Int32) (p4 : Int32) : Option (Int32 × Int32 × (Nat → Int32) × (Nat → Int32) × (Nat → Int32) × (Nat → Int32) × (Nat → Int64) × (Nat → Int32)) :=
  (f_T_bucket p0 p1 p2 p3).bind fun r1 =>
  (f_T_seek T_count nT_heads T_heads nT_places T_places nT_olders T_olders T_newest r1 p0 p1 p2 p3).bind fun r2 =>
  if r2 = (-1 : Int32) then
    if p4 ≤ T_count then
      some ((-1 : Int32), T_count, T_heads, T_places, T_olders, T_sizes, T_withins, T_newest)
    else
      if T_count < (Int32.ofNat nT_heads) then
        gd (ixb T_count nT_heads) <| nm (upd T_heads T_count.toNatClampNeg p0) fun g7 =>
        gd (ixb (T_count * (3 : Int32)) nT_places) <| nm (upd T_places (T_count * (3 : Int32)).toNatClampNeg p1) fun g9 =>
        gd (ixb ((T_count * (3 : Int32)) + (1 : Int32)) nT_places) <| nm (upd g9 ((T_count * (3 : Int32)) + (1 : Int32)).toNatClampNeg p2) fun g11 =>
        gd (ixb ((T_count * (3 : Int32)) + (2 : Int32)) nT_places) <| nm (upd g11 ((T_count * (3 : Int32)) + (2 : Int32)).toNatClampNeg p3) fun g13 =>
        (f_T_size T_count nT_sizes T_sizes p1).bind fun r14 =>
        (f_T_size T_count nT_sizes T_sizes p2).bind fun r15 =>
        (f_T_size T_count nT_sizes T_sizes p3).bind fun r16 =>
        gd (ixb T_count nT_sizes) <| nm (upd T_sizes T_count.toNatClampNeg (if ((((1 : Int32) + r14) + r15) + r16) < (1000000 : Int32) then ((((1 : Int32) + r14) + r15) + r16) else (1000000 : Int32))) fun g18 =>
        (f_T_within T_count nT_withins T_withins p1).bind fun r19 =>
        (f_T_within T_count nT_withins T_withins p2).bind fun r20 =>
        (f_T_within T_count nT_withins T_withins p3).bind fun r21 =>
        gd (ixb T_count nT_withins) <| nm (vp_updL T_withins T_count.toNatClampNeg (((((1 : Int64) <<< (p0.toInt64 &&& 63)) ||| r19) ||| r20) ||| r21)) fun g23 =>
        gd (ixb r1 256) <|
        gd (ixb T_count nT_olders) <| nm (upd T_olders T_count.toNatClampNeg (T_newest r1.toNatClampNeg)) fun g26 =>
        gd (ixb r1 256) <| nm (upd T_newest r1.toNatClampNeg T_count) fun g28 =>
        nm (T_count + (1 : Int32)) fun x29 =>
        some (T_count, x29, g7, g13, g26, g18, g23, g28)
      else
        some ((-1 : Int32), T_count, T_heads, T_places, T_olders, T_sizes, T_withins, T_newest)
  else
    some (r2, T_count, T_heads, T_places, T_olders, T_sizes, T_withins, T_newest)
abbrev rm_T_make : Room := { frames := 1, cells := 0, slots := 0, locals := 28 }
set_option maxHeartbeats 4000000 in
set_option maxRecDepth 100000 in
theorem c_T_make (l : Launch) (D : va_G) (cI cJ cZ : ClassId) (aT aT_heads aT_places aT_olders aT_sizes aT_withins aT_newest : Nat) (sz : Nat) (T_count : Int32) (nT_heads : Nat) (T_heads : (Nat → Int32)) (nT_places : Nat) (T_places : (Nat → Int32)) (nT_olders : Nat) (T_olders : (Nat → Int32)) (nT_sizes : Nat) (T_sizes : (Nat → Int32)) (nT_withins : Nat) (T_withins : (Nat → Int64)) (T_newest : (Nat → Int32)) (p0 : Int32) (p1 : Int32) (p2 : Int32) (p3 : Int32) (p4 : Int32) (o : Int32 × Int32 × (Nat → Int32) × (Nat → Int32) × (Nat → Int32) × (Nat → Int32) × (Nat → Int64) × (Nat → Int32)) (hf : f_T_make T_count nT_heads T_heads nT_places T_places nT_olders T_olders nT_sizes T_sizes nT_withins T_withins T_newest p0 p1 p2 p3 p4 = some o) : Met l y_T_make (ws_T_make) rm_T_make (WPc D vwCl cI cJ cZ [.ref aT, .int p0, .int p1, .int p2, .int p3, .int p4] (wv_8 cI cJ cZ aT aT_heads aT_places aT_olders aT_sizes aT_withins aT_newest T_count nT_heads T_heads nT_places T_places nT_olders T_olders nT_sizes T_sizes nT_withins T_withins T_newest) sz) (WQ D vwCl (some (.int o.1)) (wv_8 cI cJ cZ aT aT_heads aT_places aT_olders aT_sizes aT_withins aT_newest o.2.1 nT_heads o.2.2.1 nT_places o.2.2.2.1 nT_olders o.2.2.2.2.1 nT_sizes o.2.2.2.2.2.1 nT_withins o.2.2.2.2.2.2.1 o.2.2.2.2.2.2.2) (va_A (wv_8 cI cJ cZ aT aT_heads aT_places aT_olders aT_sizes aT_withins aT_newest T_count nT_heads T_heads nT_places T_places nT_olders T_olders nT_sizes T_sizes nT_withins T_withins T_newest) sz)) 0 0 (va_A (wv_8 cI cJ cZ aT aT_heads aT_places aT_olders aT_sizes aT_withins aT_newest T_count nT_heads T_heads nT_places T_places nT_olders T_olders nT_sizes T_sizes nT_withins T_withins T_newest) sz) := by
  refine Met.ofW (cc := b_T_make) (maxL := 9) (ret := (some .int)) (by decide) rfl ?_
  intro p e s m args below meth c s₁ B hml hv
  obtain ⟨rfl, rfl, hP, hK, hD0⟩ := hv
  have hx := B.exec
  have hb := B.bytes
  have hr := B.returns
  have hts : ∀ w ∈ BG, w.before _ s = true := fun w h => atoms_spec (ws := (ws_T_make)) B.pre w (List.mem_cons_of_mem _ h)
  have hown : s.vm.findClass RR_T = some m.cls := findClass_of_methodNamed B.named
  have hlocks := B.notSynchronized
  have hD := hD0.self (sz := s.heap.size)
  have hA : ∀ q : Nat, s.heap.size ≤ q → va_A (wv_8 cI cJ cZ aT aT_heads aT_places aT_olders aT_sizes aT_withins aT_newest T_count nT_heads T_heads nT_places T_places nT_olders T_olders nT_sizes T_sizes nT_withins T_withins T_newest) s.heap.size q := fun q h => Or.inr h
  have hS : va_S (va_A (wv_8 cI cJ cZ aT aT_heads aT_places aT_olders aT_sizes aT_withins aT_newest T_count nT_heads T_heads nT_places T_places nT_olders T_olders nT_sizes T_sizes nT_withins T_withins T_newest) s.heap.size) s.heap s.heap [] := va_S.rf
  generalize va_A (wv_8 cI cJ cZ aT aT_heads aT_places aT_olders aT_sizes aT_withins aT_newest T_count nT_heads T_heads nT_places T_places nT_olders T_olders nT_sizes T_sizes nT_withins T_withins T_newest) s.heap.size = A at hD hA hS ⊢
  have hl := lv_entry ([.ref aT, .int p0, .int p1, .int p2, .int p3, .int p4]) (n := 9) (Nat.le_of_ble_eq_true rfl)
  rw [lg_entry_eq]
  generalize (lg_sl ([.ref aT, .int p0, .int p1, .int p2, .int p3, .int p4]) ++ List.replicate (9 - (lg_sl ([.ref aT, .int p0, .int p1, .int p2, .int p3, .int p4])).length) Slot.unset).toArray = ls at hl ⊢
  have hl : lv_has ls 9 [(0, .ref aT), (1, .int p0), (2, .int p1), (3, .int p2), (4, .int p3), (5, .int p4)] := hl
  rw [f_T_make] at hf
  refine lv_iload_n hx hb d_T_make_0 rfl (lv_at hl 1 rfl) ?_
  refine lv_iload_n hx hb d_T_make_1 rfl (lv_at hl 2 rfl) ?_
  refine lv_iload_n hx hb d_T_make_2 rfl (lv_at hl 3 rfl) ?_
  refine lv_iload hx hb d_T_make_3 (lv_at hl 4 rfl) ?_
  obtain ⟨r1, hr1, hf⟩ := of_bd hf
  refine rd_call (va_runS (As := [.int p0, .int p1, .int p2, .int p3]) (rest := []) ⟨hx, hb, hml, hown, hts⟩ (c_T_bucket l D cI cJ cZ p0 p1 p2 p3 r1 hr1) (bigS 4 hts k2_89 k2_90 k1_2 k2_91 rfl rfl hd_T_bucket ⟨Nat.le_of_ble_eq_true rfl, Nat.le_of_ble_eq_true rfl⟩) (rd_preS hK hP [] rfl) rfl rfl hl.1 rfl (lv_room (Nat.le_of_ble_eq_true rfl)) d_T_make_5 ⟨Nat.le_of_ble_eq_true rfl, Nat.le_of_ble_eq_true rfl⟩) ?_
  refine lv_istore (lv' := [(6, .int r1), (0, .ref aT), (1, .int p0), (2, .int p1), (3, .int p2), (4, .int p3), (5, .int p4)]) hx hb d_T_make_8 hl (by decide) rfl (fun ls hl => ?_)
  refine lv_aload_n hx hb d_T_make_10 rfl (lv_at hl 1 rfl) ?_
  refine lv_iload hx hb d_T_make_11 (lv_at hl 0 rfl) ?_
  refine lv_iload_n hx hb d_T_make_13 rfl (lv_at hl 2 rfl) ?_
  refine lv_iload_n hx hb d_T_make_14 rfl (lv_at hl 3 rfl) ?_
  refine lv_iload_n hx hb d_T_make_15 rfl (lv_at hl 4 rfl) ?_
  refine lv_iload hx hb d_T_make_16 (lv_at hl 5 rfl) ?_
  obtain ⟨r2, hr2, hf⟩ := of_bd hf
  refine rd_call (va_runV (As := [.int r1, .int p0, .int p1, .int p2, .int p3]) (rest := []) ⟨hx, hb, hml, hown, hts⟩ (c_T_seek l D cI cJ cZ aT aT_heads aT_places aT_olders aT_sizes aT_withins aT_newest T_count nT_heads T_heads nT_places T_places nT_olders T_olders T_newest r1 p0 p1 p2 p3 r2 hr2) (bigV 5 hts k2_92 k2_94 ks_T_seek k1_2 k2_95 rfl rfl hd_T_seek ⟨Nat.le_of_ble_eq_true rfl, Nat.le_of_ble_eq_true rfl⟩) (rd_preV hK hP [0, 1, 2, 3, 6] rfl 0 rfl rfl rfl) rfl rfl hl.1 rfl (lv_room (Nat.le_of_ble_eq_true rfl)) d_T_make_18 ⟨Nat.le_of_ble_eq_true rfl, Nat.le_of_ble_eq_true rfl⟩) ?_
  refine lv_istore (lv' := [(7, .int r2), (6, .int r1), (0, .ref aT), (1, .int p0), (2, .int p1), (3, .int p2), (4, .int p3), (5, .int p4)]) hx hb d_T_make_21 hl (by decide) rfl (fun ls hl => ?_)
  refine lv_iload hx hb d_T_make_23 (lv_at hl 0 rfl) ?_
  refine lv_iconst (v := -1) hx hb d_T_make_25 (by decide) ?_
  refine lv_icmp_eq (tgt := 32) hx hb d_T_make_26 (by decide) (fun c3 => ?_) (fun c3 => ?_)
  · have hf := ite_t c3 hf
    refine lv_aload_n hx hb d_T_make_32 rfl (lv_at hl 2 rfl) ?_
    refine va_get (D := D) (ci := 1) (v := .int T_count) (C := RR_T) (T := FF_T) (N := 7) hx hb hts kin_T hown hK.1 hP 0 rfl rfl 6 (by decide) (hts _ k1_43) (fun _ h9 => h9) rfl d_T_make_33 ?_
    refine lv_iload hx hb d_T_make_36 (lv_at hl 7 rfl) ?_
    refine lv_icmp_ge (tgt := 53) hx hb d_T_make_38 (by decide) (fun c4 => ?_) (fun c4 => ?_)
    · have hf := ite_t c4 hf
      refine lv_iconst (v := -1) hx hb d_T_make_53 (by decide) ?_
      obtain rfl := Option.some.inj hf
      exact W.iret (v := (-1 : Int32)) hx hb hr (fun t ht hW => ⟨rfl, by rw [ht]; exact hP, hD, hS.F ht⟩) hS.2.2 d_T_make_54
    · have hf := ite_f c4 hf
      refine lv_aload_n hx hb d_T_make_41 rfl (lv_at hl 2 rfl) ?_
      refine va_get (D := D) (ci := 1) (v := .int T_count) (C := RR_T) (T := FF_T) (N := 7) hx hb hts kin_T hown hK.1 hP 0 rfl rfl 6 (by decide) (hts _ k1_43) (fun _ h9 => h9) rfl d_T_make_42 ?_
      refine lv_aload_n hx hb d_T_make_45 rfl (lv_at hl 2 rfl) ?_
      refine va_get (D := D) (ci := 1) (v := .ref aT_heads) (C := RR_T) (T := FF_T) (N := 7) hx hb hts kin_T hown hK.1 hP 0 rfl rfl 0 (by decide) (hts _ k1_37) (fun _ h9 => h9) rfl d_T_make_46 ?_
      refine va_alen (v := Int32.ofNat nT_heads) hx hb hK.1 hP 1 0 rfl rfl rfl d_T_make_49 ?_
      refine lv_icmp_lt (tgt := 55) hx hb d_T_make_50 (by decide) (fun c5 => ?_) (fun c5 => ?_)
      · have hf := ite_t c5 hf
        refine lv_aload_n hx hb d_T_make_55 rfl (lv_at hl 2 rfl) ?_
        refine va_get (D := D) (ci := 1) (v := .int T_count) (C := RR_T) (T := FF_T) (N := 7) hx hb hts kin_T hown hK.1 hP 0 rfl rfl 6 (by decide) (hts _ k1_43) (fun _ h9 => h9) rfl d_T_make_56 ?_
        refine lv_istore (lv' := [(8, .int T_count), (7, .int r2), (6, .int r1), (0, .ref aT), (1, .int p0), (2, .int p1), (3, .int p2), (4, .int p3), (5, .int p4)]) hx hb d_T_make_59 hl (by decide) rfl (fun ls hl => ?_)
        refine lv_aload_n hx hb d_T_make_61 rfl (lv_at hl 3 rfl) ?_
        refine va_get (D := D) (ci := 1) (v := .ref aT_heads) (C := RR_T) (T := FF_T) (N := 7) hx hb hts kin_T hown hK.1 hP 0 rfl rfl 0 (by decide) (hts _ k1_37) (fun _ h9 => h9) rfl d_T_make_62 ?_
        refine lv_iload hx hb d_T_make_65 (lv_at hl 0 rfl) ?_
        refine lv_iload_n hx hb d_T_make_67 rfl (lv_at hl 4 rfl) ?_
        obtain ⟨h6, hf⟩ := of_gd hf
        obtain ⟨g7, eg7⟩ : ∃ y : Nat → Int32, y = upd T_heads T_count.toNatClampNeg p0 := ⟨_, rfl⟩
        have hf := of_nm eg7 hf
        refine va_iast hx hb hK.1 hP hD hS 1 0 rfl rfl (ixb_in h6) d_T_make_68 (fun H locs hP hD hS => ?_)
        rw [← eg7] at hP hD
        have hP : va_P D vwCl (wv_8 cI cJ cZ aT aT_heads aT_places aT_olders aT_sizes aT_withins aT_newest T_count nT_heads g7 nT_places T_places nT_olders T_olders nT_sizes T_sizes nT_withins T_withins T_newest) H := hP
        have hD : va_D A (wv_8 cI cJ cZ aT aT_heads aT_places aT_olders aT_sizes aT_withins aT_newest T_count nT_heads g7 nT_places T_places nT_olders T_olders nT_sizes T_sizes nT_withins T_withins T_newest) := hD
        refine lv_aload_n hx hb d_T_make_69 rfl (lv_at hl 3 rfl) ?_
        refine va_get (D := D) (ci := 1) (v := .ref aT_places) (C := RR_T) (T := FF_T) (N := 7) hx hb hts kin_T hown hK.1 hP 0 rfl rfl 1 (by decide) (hts _ k1_38) (fun _ h9 => h9) rfl d_T_make_70 ?_
        refine lv_iload hx hb d_T_make_73 (lv_at hl 0 rfl) ?_
        refine lv_iconst (v := 3) hx hb d_T_make_75 (by decide) ?_
        refine lv_imul hx hb d_T_make_76 ?_
        refine lv_iload_n hx hb d_T_make_77 rfl (lv_at hl 5 rfl) ?_
        obtain ⟨h8, hf⟩ := of_gd hf
        obtain ⟨g9, eg9⟩ : ∃ y : Nat → Int32, y = upd T_places (T_count * (3 : Int32)).toNatClampNeg p1 := ⟨_, rfl⟩
        have hf := of_nm eg9 hf
        refine va_iast hx hb hK.1 hP hD hS 2 0 rfl rfl (ixb_in h8) d_T_make_78 (fun H locs hP hD hS => ?_)
        rw [← eg9] at hP hD
        have hP : va_P D vwCl (wv_8 cI cJ cZ aT aT_heads aT_places aT_olders aT_sizes aT_withins aT_newest T_count nT_heads g7 nT_places g9 nT_olders T_olders nT_sizes T_sizes nT_withins T_withins T_newest) H := hP
        have hD : va_D A (wv_8 cI cJ cZ aT aT_heads aT_places aT_olders aT_sizes aT_withins aT_newest T_count nT_heads g7 nT_places g9 nT_olders T_olders nT_sizes T_sizes nT_withins T_withins T_newest) := hD
        refine lv_aload_n hx hb d_T_make_79 rfl (lv_at hl 3 rfl) ?_
        refine va_get (D := D) (ci := 1) (v := .ref aT_places) (C := RR_T) (T := FF_T) (N := 7) hx hb hts kin_T hown hK.1 hP 0 rfl rfl 1 (by decide) (hts _ k1_38) (fun _ h9 => h9) rfl d_T_make_80 ?_
        refine lv_iload hx hb d_T_make_83 (lv_at hl 0 rfl) ?_
        refine lv_iconst (v := 3) hx hb d_T_make_85 (by decide) ?_
        refine lv_imul hx hb d_T_make_86 ?_
        refine lv_iconst (v := 1) hx hb d_T_make_87 (by decide) ?_
        refine lv_iadd hx hb d_T_make_88 ?_
        refine lv_iload_n hx hb d_T_make_89 rfl (lv_at hl 6 rfl) ?_
        obtain ⟨h10, hf⟩ := of_gd hf
        obtain ⟨g11, eg11⟩ : ∃ y : Nat → Int32, y = upd g9 ((T_count * (3 : Int32)) + (1 : Int32)).toNatClampNeg p2 := ⟨_, rfl⟩
        have hf := of_nm eg11 hf
        refine va_iast hx hb hK.1 hP hD hS 2 0 rfl rfl (ixb_in h10) d_T_make_90 (fun H locs hP hD hS => ?_)
        rw [← eg11] at hP hD
        have hP : va_P D vwCl (wv_8 cI cJ cZ aT aT_heads aT_places aT_olders aT_sizes aT_withins aT_newest T_count nT_heads g7 nT_places g11 nT_olders T_olders nT_sizes T_sizes nT_withins T_withins T_newest) H := hP
        have hD : va_D A (wv_8 cI cJ cZ aT aT_heads aT_places aT_olders aT_sizes aT_withins aT_newest T_count nT_heads g7 nT_places g11 nT_olders T_olders nT_sizes T_sizes nT_withins T_withins T_newest) := hD
        refine lv_aload_n hx hb d_T_make_91 rfl (lv_at hl 3 rfl) ?_
        refine va_get (D := D) (ci := 1) (v := .ref aT_places) (C := RR_T) (T := FF_T) (N := 7) hx hb hts kin_T hown hK.1 hP 0 rfl rfl 1 (by decide) (hts _ k1_38) (fun _ h9 => h9) rfl d_T_make_92 ?_
        refine lv_iload hx hb d_T_make_95 (lv_at hl 0 rfl) ?_
        refine lv_iconst (v := 3) hx hb d_T_make_97 (by decide) ?_
        refine lv_imul hx hb d_T_make_98 ?_
        refine lv_iconst (v := 2) hx hb d_T_make_99 (by decide) ?_
        refine lv_iadd hx hb d_T_make_100 ?_
        refine lv_iload hx hb d_T_make_101 (lv_at hl 7 rfl) ?_
        obtain ⟨h12, hf⟩ := of_gd hf
        obtain ⟨g13, eg13⟩ : ∃ y : Nat → Int32, y = upd g11 ((T_count * (3 : Int32)) + (2 : Int32)).toNatClampNeg p3 := ⟨_, rfl⟩
        have hf := of_nm eg13 hf
        refine va_iast hx hb hK.1 hP hD hS 2 0 rfl rfl (ixb_in h12) d_T_make_103 (fun H locs hP hD hS => ?_)
        rw [← eg13] at hP hD
        have hP : va_P D vwCl (wv_8 cI cJ cZ aT aT_heads aT_places aT_olders aT_sizes aT_withins aT_newest T_count nT_heads g7 nT_places g13 nT_olders T_olders nT_sizes T_sizes nT_withins T_withins T_newest) H := hP
        have hD : va_D A (wv_8 cI cJ cZ aT aT_heads aT_places aT_olders aT_sizes aT_withins aT_newest T_count nT_heads g7 nT_places g13 nT_olders T_olders nT_sizes T_sizes nT_withins T_withins T_newest) := hD
        refine lv_aload_n hx hb d_T_make_104 rfl (lv_at hl 3 rfl) ?_
        refine va_get (D := D) (ci := 1) (v := .ref aT_sizes) (C := RR_T) (T := FF_T) (N := 7) hx hb hts kin_T hown hK.1 hP 0 rfl rfl 3 (by decide) (hts _ k1_40) (fun _ h9 => h9) rfl d_T_make_105 ?_
        refine lv_iload hx hb d_T_make_108 (lv_at hl 0 rfl) ?_
        refine lv_ldc (v := 1000000) hx hb hown (hts _ k3_3) d_T_make_110 ?_
        refine lv_iconst (v := 1) hx hb d_T_make_112 (by decide) ?_
        refine lv_aload_n hx hb d_T_make_113 rfl (lv_at hl 3 rfl) ?_
        refine lv_iload_n hx hb d_T_make_114 rfl (lv_at hl 5 rfl) ?_
        obtain ⟨r14, hr14, hf⟩ := of_bd hf
        refine rd_call (va_runV (As := [.int p1]) (rest := [.int (1 : Int32), .int (1000000 : Int32), .int T_count, .ref aT_sizes]) ⟨hx, hb, hml, hown, hts⟩ (c_T_size l D cI cJ cZ aT aT_heads aT_places aT_olders aT_sizes aT_withins aT_newest T_count nT_sizes T_sizes p1 r14 hr14) (bigV 1 hts k3_4 k2_5 k2_6 k1_2 k2_7 rfl rfl hd_T_size ⟨Nat.le_of_ble_eq_true rfl, Nat.le_of_ble_eq_true rfl⟩) (rd_preV hK hP [0, 4] rfl 0 rfl rfl rfl) rfl rfl hl.1 rfl (lv_room (Nat.le_of_ble_eq_true rfl)) d_T_make_115 ⟨Nat.le_of_ble_eq_true rfl, Nat.le_of_ble_eq_true rfl⟩) ?_
        refine lv_iadd hx hb d_T_make_118 ?_
        refine lv_aload_n hx hb d_T_make_119 rfl (lv_at hl 3 rfl) ?_
        refine lv_iload_n hx hb d_T_make_120 rfl (lv_at hl 6 rfl) ?_
        obtain ⟨r15, hr15, hf⟩ := of_bd hf
        refine rd_call (va_runV (As := [.int p2]) (rest := [.int ((1 : Int32) + r14), .int (1000000 : Int32), .int T_count, .ref aT_sizes]) ⟨hx, hb, hml, hown, hts⟩ (c_T_size l D cI cJ cZ aT aT_heads aT_places aT_olders aT_sizes aT_withins aT_newest T_count nT_sizes T_sizes p2 r15 hr15) (bigV 1 hts k3_4 k2_5 k2_6 k1_2 k2_7 rfl rfl hd_T_size ⟨Nat.le_of_ble_eq_true rfl, Nat.le_of_ble_eq_true rfl⟩) (rd_preV hK hP [0, 4] rfl 0 rfl rfl rfl) rfl rfl hl.1 rfl (lv_room (Nat.le_of_ble_eq_true rfl)) d_T_make_121 ⟨Nat.le_of_ble_eq_true rfl, Nat.le_of_ble_eq_true rfl⟩) ?_
        refine lv_iadd hx hb d_T_make_124 ?_
        refine lv_aload_n hx hb d_T_make_125 rfl (lv_at hl 3 rfl) ?_
        refine lv_iload hx hb d_T_make_126 (lv_at hl 7 rfl) ?_
        obtain ⟨r16, hr16, hf⟩ := of_bd hf
        refine rd_call (va_runV (As := [.int p3]) (rest := [.int (((1 : Int32) + r14) + r15), .int (1000000 : Int32), .int T_count, .ref aT_sizes]) ⟨hx, hb, hml, hown, hts⟩ (c_T_size l D cI cJ cZ aT aT_heads aT_places aT_olders aT_sizes aT_withins aT_newest T_count nT_sizes T_sizes p3 r16 hr16) (bigV 1 hts k3_4 k2_5 k2_6 k1_2 k2_7 rfl rfl hd_T_size ⟨Nat.le_of_ble_eq_true rfl, Nat.le_of_ble_eq_true rfl⟩) (rd_preV hK hP [0, 4] rfl 0 rfl rfl rfl) rfl rfl hl.1 rfl (lv_room (Nat.le_of_ble_eq_true rfl)) d_T_make_128 ⟨Nat.le_of_ble_eq_true rfl, Nat.le_of_ble_eq_true rfl⟩) ?_
        refine lv_iadd hx hb d_T_make_131 ?_
        refine va_mmin hx hb (hml.trans hl.1.symm) hown (hts _ k3_5) (hts _ k3_6) (hts _ k1_15) (mth_min hts k3_7) (Nat.le_of_ble_eq_true rfl) (Nat.le_of_ble_eq_true rfl) (Nat.le_of_ble_eq_true rfl) (Nat.le_of_ble_eq_true rfl) d_T_make_132 ?_
        obtain ⟨h17, hf⟩ := of_gd hf
        obtain ⟨g18, eg18⟩ : ∃ y : Nat → Int32, y = upd T_sizes T_count.toNatClampNeg (if ((((1 : Int32) + r14) + r15) + r16) < (1000000 : Int32) then ((((1 : Int32) + r14) + r15) + r16) else (1000000 : Int32)) := ⟨_, rfl⟩
        have hf := of_nm eg18 hf
        refine va_iast hx hb hK.1 hP hD hS 4 0 rfl rfl (ixb_in h17) d_T_make_135 (fun H locs hP hD hS => ?_)
        rw [← eg18] at hP hD
        have hP : va_P D vwCl (wv_8 cI cJ cZ aT aT_heads aT_places aT_olders aT_sizes aT_withins aT_newest T_count nT_heads g7 nT_places g13 nT_olders T_olders nT_sizes g18 nT_withins T_withins T_newest) H := hP
        have hD : va_D A (wv_8 cI cJ cZ aT aT_heads aT_places aT_olders aT_sizes aT_withins aT_newest T_count nT_heads g7 nT_places g13 nT_olders T_olders nT_sizes g18 nT_withins T_withins T_newest) := hD
        refine lv_aload_n hx hb d_T_make_136 rfl (lv_at hl 3 rfl) ?_
        refine va_get (D := D) (ci := 1) (v := .ref aT_withins) (C := RR_T) (T := FF_T) (N := 7) hx hb hts kin_T hown hK.1 hP 0 rfl rfl 4 (by decide) (hts _ k1_41) (fun _ h9 => h9) rfl d_T_make_137 ?_
        refine lv_iload hx hb d_T_make_140 (lv_at hl 0 rfl) ?_
        refine lv_lconst (v := 1) hx hb d_T_make_142 (by decide) ?_
        refine lv_iload_n hx hb d_T_make_143 rfl (lv_at hl 4 rfl) ?_
        refine lv_lshl (v := (1 : Int64) <<< (p0.toInt64 &&& 63)) hx hb d_T_make_144 rfl ?_
        refine lv_aload_n hx hb d_T_make_145 rfl (lv_at hl 3 rfl) ?_
        refine lv_iload_n hx hb d_T_make_146 rfl (lv_at hl 5 rfl) ?_
        obtain ⟨r19, hr19, hf⟩ := of_bd hf
        refine rd_call (va_runV (As := [.int p1]) (rest := [.long ((1 : Int64) <<< (p0.toInt64 &&& 63)), .int T_count, .ref aT_withins]) ⟨hx, hb, hml, hown, hts⟩ (c_T_within l D cI cJ cZ aT aT_heads aT_places aT_olders aT_sizes aT_withins aT_newest T_count nT_withins T_withins p1 r19 hr19) (bigV 1 hts k3_8 k3_9 k3_10 k1_2 k3_11 rfl rfl hd_T_within ⟨Nat.le_of_ble_eq_true rfl, Nat.le_of_ble_eq_true rfl⟩) (rd_preV hK hP [0, 5] rfl 0 rfl rfl rfl) rfl rfl hl.1 rfl (lv_room (Nat.le_of_ble_eq_true rfl)) d_T_make_147 ⟨Nat.le_of_ble_eq_true rfl, Nat.le_of_ble_eq_true rfl⟩) ?_
        refine lv_lor hx hb d_T_make_150 ?_
        refine lv_aload_n hx hb d_T_make_151 rfl (lv_at hl 3 rfl) ?_
        refine lv_iload_n hx hb d_T_make_152 rfl (lv_at hl 6 rfl) ?_
        obtain ⟨r20, hr20, hf⟩ := of_bd hf
        refine rd_call (va_runV (As := [.int p2]) (rest := [.long (((1 : Int64) <<< (p0.toInt64 &&& 63)) ||| r19), .int T_count, .ref aT_withins]) ⟨hx, hb, hml, hown, hts⟩ (c_T_within l D cI cJ cZ aT aT_heads aT_places aT_olders aT_sizes aT_withins aT_newest T_count nT_withins T_withins p2 r20 hr20) (bigV 1 hts k3_8 k3_9 k3_10 k1_2 k3_11 rfl rfl hd_T_within ⟨Nat.le_of_ble_eq_true rfl, Nat.le_of_ble_eq_true rfl⟩) (rd_preV hK hP [0, 5] rfl 0 rfl rfl rfl) rfl rfl hl.1 rfl (lv_room (Nat.le_of_ble_eq_true rfl)) d_T_make_153 ⟨Nat.le_of_ble_eq_true rfl, Nat.le_of_ble_eq_true rfl⟩) ?_
        refine lv_lor hx hb d_T_make_156 ?_
        refine lv_aload_n hx hb d_T_make_157 rfl (lv_at hl 3 rfl) ?_
        refine lv_iload hx hb d_T_make_158 (lv_at hl 7 rfl) ?_
        obtain ⟨r21, hr21, hf⟩ := of_bd hf
        refine rd_call (va_runV (As := [.int p3]) (rest := [.long ((((1 : Int64) <<< (p0.toInt64 &&& 63)) ||| r19) ||| r20), .int T_count, .ref aT_withins]) ⟨hx, hb, hml, hown, hts⟩ (c_T_within l D cI cJ cZ aT aT_heads aT_places aT_olders aT_sizes aT_withins aT_newest T_count nT_withins T_withins p3 r21 hr21) (bigV 1 hts k3_8 k3_9 k3_10 k1_2 k3_11 rfl rfl hd_T_within ⟨Nat.le_of_ble_eq_true rfl, Nat.le_of_ble_eq_true rfl⟩) (rd_preV hK hP [0, 5] rfl 0 rfl rfl rfl) rfl rfl hl.1 rfl (lv_room (Nat.le_of_ble_eq_true rfl)) d_T_make_160 ⟨Nat.le_of_ble_eq_true rfl, Nat.le_of_ble_eq_true rfl⟩) ?_
        refine lv_lor hx hb d_T_make_163 ?_
        obtain ⟨h22, hf⟩ := of_gd hf
        obtain ⟨g23, eg23⟩ : ∃ y : Nat → Int64, y = vp_updL T_withins T_count.toNatClampNeg (((((1 : Int64) <<< (p0.toInt64 &&& 63)) ||| r19) ||| r20) ||| r21) := ⟨_, rfl⟩
        have hf := of_nm eg23 hf
        refine va_last hx hb hK.1 hP hD hS 5 1 rfl rfl (ixb_in h22) d_T_make_164 (fun H locs hP hD hS => ?_)
        rw [← eg23] at hP hD
        have hP : va_P D vwCl (wv_8 cI cJ cZ aT aT_heads aT_places aT_olders aT_sizes aT_withins aT_newest T_count nT_heads g7 nT_places g13 nT_olders T_olders nT_sizes g18 nT_withins g23 T_newest) H := hP
        have hD : va_D A (wv_8 cI cJ cZ aT aT_heads aT_places aT_olders aT_sizes aT_withins aT_newest T_count nT_heads g7 nT_places g13 nT_olders T_olders nT_sizes g18 nT_withins g23 T_newest) := hD
        refine lv_aload_n hx hb d_T_make_165 rfl (lv_at hl 3 rfl) ?_
        refine va_get (D := D) (ci := 1) (v := .ref aT_olders) (C := RR_T) (T := FF_T) (N := 7) hx hb hts kin_T hown hK.1 hP 0 rfl rfl 2 (by decide) (hts _ k1_39) (fun _ h9 => h9) rfl d_T_make_166 ?_
        refine lv_iload hx hb d_T_make_169 (lv_at hl 0 rfl) ?_
        refine lv_aload_n hx hb d_T_make_171 rfl (lv_at hl 3 rfl) ?_
        refine va_get (D := D) (ci := 1) (v := .ref aT_newest) (C := RR_T) (T := FF_T) (N := 7) hx hb hts kin_T hown hK.1 hP 0 rfl rfl 5 (by decide) (hts _ k1_42) (fun _ h9 => h9) rfl d_T_make_172 ?_
        refine lv_iload hx hb d_T_make_175 (lv_at hl 2 rfl) ?_
        obtain ⟨h24, hf⟩ := of_gd hf
        refine va_iald hx hb hK.1 hP 6 0 rfl rfl (ixb_in h24) d_T_make_177 ?_
        obtain ⟨h25, hf⟩ := of_gd hf
        obtain ⟨g26, eg26⟩ : ∃ y : Nat → Int32, y = upd T_olders T_count.toNatClampNeg (T_newest r1.toNatClampNeg) := ⟨_, rfl⟩
        have hf := of_nm eg26 hf
        refine va_iast hx hb hK.1 hP hD hS 3 0 rfl rfl (ixb_in h25) d_T_make_178 (fun H locs hP hD hS => ?_)
        rw [← eg26] at hP hD
        have hP : va_P D vwCl (wv_8 cI cJ cZ aT aT_heads aT_places aT_olders aT_sizes aT_withins aT_newest T_count nT_heads g7 nT_places g13 nT_olders g26 nT_sizes g18 nT_withins g23 T_newest) H := hP
        have hD : va_D A (wv_8 cI cJ cZ aT aT_heads aT_places aT_olders aT_sizes aT_withins aT_newest T_count nT_heads g7 nT_places g13 nT_olders g26 nT_sizes g18 nT_withins g23 T_newest) := hD
        refine lv_aload_n hx hb d_T_make_179 rfl (lv_at hl 3 rfl) ?_
        refine va_get (D := D) (ci := 1) (v := .ref aT_newest) (C := RR_T) (T := FF_T) (N := 7) hx hb hts kin_T hown hK.1 hP 0 rfl rfl 5 (by decide) (hts _ k1_42) (fun _ h9 => h9) rfl d_T_make_180 ?_
        refine lv_iload hx hb d_T_make_183 (lv_at hl 2 rfl) ?_
        refine lv_iload hx hb d_T_make_185 (lv_at hl 0 rfl) ?_
        obtain ⟨h27, hf⟩ := of_gd hf
        obtain ⟨g28, eg28⟩ : ∃ y : Nat → Int32, y = upd T_newest r1.toNatClampNeg T_count := ⟨_, rfl⟩
        have hf := of_nm eg28 hf
        refine va_iast hx hb hK.1 hP hD hS 6 0 rfl rfl (ixb_in h27) d_T_make_187 (fun H locs hP hD hS => ?_)
        rw [← eg28] at hP hD
        have hP : va_P D vwCl (wv_8 cI cJ cZ aT aT_heads aT_places aT_olders aT_sizes aT_withins aT_newest T_count nT_heads g7 nT_places g13 nT_olders g26 nT_sizes g18 nT_withins g23 g28) H := hP
        have hD : va_D A (wv_8 cI cJ cZ aT aT_heads aT_places aT_olders aT_sizes aT_withins aT_newest T_count nT_heads g7 nT_places g13 nT_olders g26 nT_sizes g18 nT_withins g23 g28) := hD
        refine lv_aload_n hx hb d_T_make_188 rfl (lv_at hl 3 rfl) ?_
        refine lv_dup hx hb d_T_make_189 rfl ?_
        refine va_get (D := D) (ci := 1) (v := .int T_count) (C := RR_T) (T := FF_T) (N := 7) hx hb hts kin_T hown hK.1 hP 0 rfl rfl 6 (by decide) (hts _ k1_43) (fun _ h9 => h9) rfl d_T_make_190 ?_
        refine lv_iconst (v := 1) hx hb d_T_make_193 (by decide) ?_
        refine lv_iadd hx hb d_T_make_194 ?_
        refine lv_topi (fun x29 ex29 => ?_)
        have hf := of_nm ex29 hf
        refine va_put (D := D) (ci := 1) (v := .int x29) (ty := .int) (C := RR_T) (T := FF_T) (N := 7) hx hb hts kin_T TT_T tok_T nok_T hown hK.1 hP hD hS 0 rfl rfl 6 (by decide) (hts _ k1_43) (fun _ h9 => h9) rfl (by decide +kernel) rfl rfl (Nat.le_of_ble_eq_true rfl) d_T_make_195 (fun H locs hP hD hS => ?_)
        have hP : va_P D vwCl (wv_8 cI cJ cZ aT aT_heads aT_places aT_olders aT_sizes aT_withins aT_newest x29 nT_heads g7 nT_places g13 nT_olders g26 nT_sizes g18 nT_withins g23 g28) H := hP
        have hD : va_D A (wv_8 cI cJ cZ aT aT_heads aT_places aT_olders aT_sizes aT_withins aT_newest x29 nT_heads g7 nT_places g13 nT_olders g26 nT_sizes g18 nT_withins g23 g28) := hD
        refine lv_iload hx hb d_T_make_198 (lv_at hl 0 rfl) ?_
        obtain rfl := Option.some.inj hf
        exact W.iret (v := T_count) hx hb hr (fun t ht hW => ⟨rfl, by rw [ht]; exact hP, hD, hS.F ht⟩) hS.2.2 d_T_make_200
      · have hf := ite_f c5 hf
        refine lv_iconst (v := -1) hx hb d_T_make_53 (by decide) ?_
        obtain rfl := Option.some.inj hf
        exact W.iret (v := (-1 : Int32)) hx hb hr (fun t ht hW => ⟨rfl, by rw [ht]; exact hP, hD, hS.F ht⟩) hS.2.2 d_T_make_54
  · have hf := ite_f c3 hf
    refine lv_iload hx hb d_T_make_29 (lv_at hl 0 rfl) ?_
    obtain rfl := Option.some.inj hf
    exact W.iret (v := r2) hx hb hr (fun t ht hW => ⟨rfl, by rw [ht]; exact hP, hD, hS.F ht⟩) hS.2.2 d_T_make_31
def f_T_keepBelow_L13 (nT_heads : Nat) (T_heads : (Nat → Int32)) (nT_places : Nat) (T_places : (Nat → Int32)) (nT_olders : Nat) (T_olders : (Nat → Int32)) : Nat → Int32 → (Nat → Int32) → Int32 → Int32 → Option (Int32 × (Nat → Int32))
  | 0, _, _, _, _ => none
  | n + 1, T_count_13, T_newest_13, x2_13, x3_13 =>
    if x3_13 < x2_13 then
      some (T_count_13, T_newest_13)
    else
      gd (ixb x3_13 nT_heads) <|
      (f_T_place T_count_13 nT_places T_places x3_13 (0 : Int32)).bind fun r5 =>
      (f_T_place T_count_13 nT_places T_places x3_13 (1 : Int32)).bind fun r6 =>
      (f_T_place T_count_13 nT_places T_places x3_13 (2 : Int32)).bind fun r7 =>
      (f_T_bucket (T_heads x3_13.toNatClampNeg) r5 r6 r7).bind fun r8 =>
      gd (ixb x3_13 nT_olders) <|
      gd (ixb r8 256) <| nm (upd T_newest_13 r8.toNatClampNeg (T_olders x3_13.toNatClampNeg)) fun g11 =>
      nm (x3_13 + (-1 : Int32)) fun x12 =>
      (f_T_keepBelow_L13 nT_heads T_heads nT_places T_places nT_olders T_olders n) x3_13 g11 x2_13 x12
def f_T_keepBelow (T_count : Int32) (nT_heads : Nat) (T_heads : (Nat → Int32)) (nT_places : Nat) (T_places : (Nat → Int32)) (nT_olders : Nat) (T_olders : (Nat → Int32)) (T_newest : (Nat → Int32)) (p0 : Int32) : Option (Int32 × (Nat → Int32)) :=
  nm (if p0 < (0 : Int32) then (0 : Int32) else p0) fun x1 =>
  nm (T_count - (1 : Int32)) fun x2 =>
  f_T_keepBelow_L13 nT_heads T_heads nT_places T_places nT_olders T_olders FU T_count T_newest x1 x2
abbrev rm_T_keepBelow : Room := { frames := 1, cells := 0, slots := 0, locals := 23 }
set_option maxHeartbeats 4000000 in
set_option maxRecDepth 100000 in
theorem c_T_keepBelow (l : Launch) (D : va_G) (cI cJ cZ : ClassId) (aT aT_heads aT_places aT_olders aT_sizes aT_withins aT_newest : Nat) (sz : Nat) (T_count : Int32) (nT_heads : Nat) (T_heads : (Nat → Int32)) (nT_places : Nat) (T_places : (Nat → Int32)) (nT_olders : Nat) (T_olders : (Nat → Int32)) (T_newest : (Nat → Int32)) (p0 : Int32) (o : Int32 × (Nat → Int32)) (hf : f_T_keepBelow T_count nT_heads T_heads nT_places T_places nT_olders T_olders T_newest p0 = some o) : Met l y_T_keepBelow (ws_T_keepBelow) rm_T_keepBelow (WPc D vwCl cI cJ cZ [.ref aT, .int p0] (wv_6 cI cJ cZ aT aT_heads aT_places aT_olders aT_sizes aT_withins aT_newest T_count nT_heads T_heads nT_places T_places nT_olders T_olders T_newest) sz) (WQ D vwCl none (wv_6 cI cJ cZ aT aT_heads aT_places aT_olders aT_sizes aT_withins aT_newest o.1 nT_heads T_heads nT_places T_places nT_olders T_olders o.2) (va_A (wv_6 cI cJ cZ aT aT_heads aT_places aT_olders aT_sizes aT_withins aT_newest T_count nT_heads T_heads nT_places T_places nT_olders T_olders T_newest) sz)) 0 0 (va_A (wv_6 cI cJ cZ aT aT_heads aT_places aT_olders aT_sizes aT_withins aT_newest T_count nT_heads T_heads nT_places T_places nT_olders T_olders T_newest) sz) := by
  refine Met.ofW (cc := b_T_keepBelow) (maxL := 4) (ret := none) (by decide) rfl ?_
  intro p e s m args below meth c s₁ B hml hv
  obtain ⟨rfl, rfl, hP, hK, hD0⟩ := hv
  have hx := B.exec
  have hb := B.bytes
  have hr := B.returns
  have hts : ∀ w ∈ BG, w.before _ s = true := fun w h => atoms_spec (ws := (ws_T_keepBelow)) B.pre w (List.mem_cons_of_mem _ h)
  have hown : s.vm.findClass RR_T = some m.cls := findClass_of_methodNamed B.named
  have hlocks := B.notSynchronized
  have hD := hD0.self (sz := s.heap.size)
  have hA : ∀ q : Nat, s.heap.size ≤ q → va_A (wv_6 cI cJ cZ aT aT_heads aT_places aT_olders aT_sizes aT_withins aT_newest T_count nT_heads T_heads nT_places T_places nT_olders T_olders T_newest) s.heap.size q := fun q h => Or.inr h
  have hS : va_S (va_A (wv_6 cI cJ cZ aT aT_heads aT_places aT_olders aT_sizes aT_withins aT_newest T_count nT_heads T_heads nT_places T_places nT_olders T_olders T_newest) s.heap.size) s.heap s.heap [] := va_S.rf
  generalize va_A (wv_6 cI cJ cZ aT aT_heads aT_places aT_olders aT_sizes aT_withins aT_newest T_count nT_heads T_heads nT_places T_places nT_olders T_olders T_newest) s.heap.size = A at hD hA hS ⊢
  have hl := lv_entry ([.ref aT, .int p0]) (n := 4) (Nat.le_of_ble_eq_true rfl)
  rw [lg_entry_eq]
  generalize (lg_sl ([.ref aT, .int p0]) ++ List.replicate (4 - (lg_sl ([.ref aT, .int p0])).length) Slot.unset).toArray = ls at hl ⊢
  have hl : lv_has ls 4 [(0, .ref aT), (1, .int p0)] := hl
  have hL13 : ∀ (n13 : Nat), ∀ (T_count_13 : Int32) (T_newest_13 : (Nat → Int32)) (x2_13 : Int32) (x3_13 : Int32), ∀ (H : Heap) (locs : List Loc), va_P D vwCl (wv_6 cI cJ cZ aT aT_heads aT_places aT_olders aT_sizes aT_withins aT_newest T_count_13 nT_heads T_heads nT_places T_places nT_olders T_olders T_newest_13) H → va_D A (wv_6 cI cJ cZ aT aT_heads aT_places aT_olders aT_sizes aT_withins aT_newest T_count_13 nT_heads T_heads nT_places T_places nT_olders T_olders T_newest_13) → va_S A s.heap H locs → ∀ (ls : Array Slot), lv_has ls 4 [(0, .ref aT), (2, .int x2_13), (3, .int x3_13)] → f_T_keepBelow_L13 nT_heads T_heads nT_places T_places nT_olders T_olders n13 T_count_13 T_newest_13 x2_13 x3_13 = some o → W p l e (headSpec (ws_T_keepBelow) rm_T_keepBelow).room s m ([.ref aT, .int p0] : List Value).toArray below meth c H locs 0 0 (MQ below (WQ D vwCl none (wv_6 cI cJ cZ aT aT_heads aT_places aT_olders aT_sizes aT_withins aT_newest o.1 nT_heads T_heads nT_places T_places nT_olders T_olders o.2) A) ([.ref aT, .int p0] : List Value).toArray s 0 0 A) (F0 m 13 ls []) := by
    intro n13
    induction n13 with
    | zero =>
      intro T_count_13 T_newest_13 x2_13 x3_13 H locs hP hD hS ls hl hf
      rw [f_T_keepBelow_L13] at hf
      cases hf
    | succ n13 ih13 =>
      intro T_count_13 T_newest_13 x2_13 x3_13 H locs hP hD hS ls hl hf
      rw [f_T_keepBelow_L13] at hf
      refine lv_iload_n hx hb d_T_keepBelow_13 rfl (lv_at hl 2 rfl) ?_
      refine lv_iload_n hx hb d_T_keepBelow_14 rfl (lv_at hl 1 rfl) ?_
      refine lv_icmp_lt (tgt := 67) hx hb d_T_keepBelow_15 (by decide) (fun c3 => ?_) (fun c3 => ?_)
      · have hf := ite_t c3 hf
        obtain rfl := Option.some.inj hf
        exact W.vret hx hb hr (fun t ht hW => ⟨rfl, by rw [ht]; exact hP, hD, hS.F ht⟩) hS.2.2 d_T_keepBelow_67
      · have hf := ite_f c3 hf
        refine lv_aload_n hx hb d_T_keepBelow_18 rfl (lv_at hl 0 rfl) ?_
        refine va_get (D := D) (ci := 1) (v := .ref aT_newest) (C := RR_T) (T := FF_T) (N := 7) hx hb hts kin_T hown hK.1 hP 0 rfl rfl 5 (by decide) (hts _ k1_42) (fun _ h9 => h9) rfl d_T_keepBelow_19 ?_
        refine lv_aload_n hx hb d_T_keepBelow_22 rfl (lv_at hl 0 rfl) ?_
        refine va_get (D := D) (ci := 1) (v := .ref aT_heads) (C := RR_T) (T := FF_T) (N := 7) hx hb hts kin_T hown hK.1 hP 0 rfl rfl 0 (by decide) (hts _ k1_37) (fun _ h9 => h9) rfl d_T_keepBelow_23 ?_
        refine lv_iload_n hx hb d_T_keepBelow_26 rfl (lv_at hl 2 rfl) ?_
        obtain ⟨h4, hf⟩ := of_gd hf
        refine va_iald hx hb hK.1 hP 1 0 rfl rfl (ixb_in h4) d_T_keepBelow_27 ?_
        refine lv_aload_n hx hb d_T_keepBelow_28 rfl (lv_at hl 0 rfl) ?_
        refine lv_iload_n hx hb d_T_keepBelow_29 rfl (lv_at hl 2 rfl) ?_
        refine lv_iconst (v := 0) hx hb d_T_keepBelow_30 (by decide) ?_
        obtain ⟨r5, hr5, hf⟩ := of_bd hf
        refine rd_call (va_runV (As := [.int x3_13, .int (0 : Int32)]) (rest := [.int (T_heads x3_13.toNatClampNeg), .ref aT_newest]) ⟨hx, hb, hml, hown, hts⟩ (c_T_place l D cI cJ cZ aT aT_heads aT_places aT_olders aT_sizes aT_withins aT_newest T_count_13 nT_places T_places x3_13 (0 : Int32) r5 hr5) (bigV 2 hts k4_2 k2_1 k2_2 k1_2 k2_3 rfl rfl hd_T_place ⟨Nat.le_of_ble_eq_true rfl, Nat.le_of_ble_eq_true rfl⟩) (rd_preV hK hP [0, 2] rfl 0 rfl rfl rfl) rfl rfl hl.1 rfl (lv_room (Nat.le_of_ble_eq_true rfl)) d_T_keepBelow_31 ⟨Nat.le_of_ble_eq_true rfl, Nat.le_of_ble_eq_true rfl⟩) ?_
        refine lv_aload_n hx hb d_T_keepBelow_34 rfl (lv_at hl 0 rfl) ?_
        refine lv_iload_n hx hb d_T_keepBelow_35 rfl (lv_at hl 2 rfl) ?_
        refine lv_iconst (v := 1) hx hb d_T_keepBelow_36 (by decide) ?_
        obtain ⟨r6, hr6, hf⟩ := of_bd hf
        refine rd_call (va_runV (As := [.int x3_13, .int (1 : Int32)]) (rest := [.int r5, .int (T_heads x3_13.toNatClampNeg), .ref aT_newest]) ⟨hx, hb, hml, hown, hts⟩ (c_T_place l D cI cJ cZ aT aT_heads aT_places aT_olders aT_sizes aT_withins aT_newest T_count_13 nT_places T_places x3_13 (1 : Int32) r6 hr6) (bigV 2 hts k4_2 k2_1 k2_2 k1_2 k2_3 rfl rfl hd_T_place ⟨Nat.le_of_ble_eq_true rfl, Nat.le_of_ble_eq_true rfl⟩) (rd_preV hK hP [0, 2] rfl 0 rfl rfl rfl) rfl rfl hl.1 rfl (lv_room (Nat.le_of_ble_eq_true rfl)) d_T_keepBelow_37 ⟨Nat.le_of_ble_eq_true rfl, Nat.le_of_ble_eq_true rfl⟩) ?_
        refine lv_aload_n hx hb d_T_keepBelow_40 rfl (lv_at hl 0 rfl) ?_
        refine lv_iload_n hx hb d_T_keepBelow_41 rfl (lv_at hl 2 rfl) ?_
        refine lv_iconst (v := 2) hx hb d_T_keepBelow_42 (by decide) ?_
        obtain ⟨r7, hr7, hf⟩ := of_bd hf
        refine rd_call (va_runV (As := [.int x3_13, .int (2 : Int32)]) (rest := [.int r6, .int r5, .int (T_heads x3_13.toNatClampNeg), .ref aT_newest]) ⟨hx, hb, hml, hown, hts⟩ (c_T_place l D cI cJ cZ aT aT_heads aT_places aT_olders aT_sizes aT_withins aT_newest T_count_13 nT_places T_places x3_13 (2 : Int32) r7 hr7) (bigV 2 hts k4_2 k2_1 k2_2 k1_2 k2_3 rfl rfl hd_T_place ⟨Nat.le_of_ble_eq_true rfl, Nat.le_of_ble_eq_true rfl⟩) (rd_preV hK hP [0, 2] rfl 0 rfl rfl rfl) rfl rfl hl.1 rfl (lv_room (Nat.le_of_ble_eq_true rfl)) d_T_keepBelow_43 ⟨Nat.le_of_ble_eq_true rfl, Nat.le_of_ble_eq_true rfl⟩) ?_
        obtain ⟨r8, hr8, hf⟩ := of_bd hf
        refine rd_call (va_runS (As := [.int (T_heads x3_13.toNatClampNeg), .int r5, .int r6, .int r7]) (rest := [.ref aT_newest]) ⟨hx, hb, hml, hown, hts⟩ (c_T_bucket l D cI cJ cZ (T_heads x3_13.toNatClampNeg) r5 r6 r7 r8 hr8) (bigS 4 hts k2_89 k2_90 k1_2 k2_91 rfl rfl hd_T_bucket ⟨Nat.le_of_ble_eq_true rfl, Nat.le_of_ble_eq_true rfl⟩) (rd_preS hK hP [] rfl) rfl rfl hl.1 rfl (lv_room (Nat.le_of_ble_eq_true rfl)) d_T_keepBelow_46 ⟨Nat.le_of_ble_eq_true rfl, Nat.le_of_ble_eq_true rfl⟩) ?_
        refine lv_aload_n hx hb d_T_keepBelow_49 rfl (lv_at hl 0 rfl) ?_
        refine va_get (D := D) (ci := 1) (v := .ref aT_olders) (C := RR_T) (T := FF_T) (N := 7) hx hb hts kin_T hown hK.1 hP 0 rfl rfl 2 (by decide) (hts _ k1_39) (fun _ h9 => h9) rfl d_T_keepBelow_50 ?_
        refine lv_iload_n hx hb d_T_keepBelow_53 rfl (lv_at hl 2 rfl) ?_
        obtain ⟨h9, hf⟩ := of_gd hf
        refine va_iald hx hb hK.1 hP 3 0 rfl rfl (ixb_in h9) d_T_keepBelow_54 ?_
        obtain ⟨h10, hf⟩ := of_gd hf
        obtain ⟨g11, eg11⟩ : ∃ y : Nat → Int32, y = upd T_newest_13 r8.toNatClampNeg (T_olders x3_13.toNatClampNeg) := ⟨_, rfl⟩
        have hf := of_nm eg11 hf
        refine va_iast hx hb hK.1 hP hD hS 4 0 rfl rfl (ixb_in h10) d_T_keepBelow_55 (fun H locs hP hD hS => ?_)
        rw [← eg11] at hP hD
        have hP : va_P D vwCl (wv_6 cI cJ cZ aT aT_heads aT_places aT_olders aT_sizes aT_withins aT_newest T_count_13 nT_heads T_heads nT_places T_places nT_olders T_olders g11) H := hP
        have hD : va_D A (wv_6 cI cJ cZ aT aT_heads aT_places aT_olders aT_sizes aT_withins aT_newest T_count_13 nT_heads T_heads nT_places T_places nT_olders T_olders g11) := hD
        refine lv_aload_n hx hb d_T_keepBelow_56 rfl (lv_at hl 0 rfl) ?_
        refine lv_iload_n hx hb d_T_keepBelow_57 rfl (lv_at hl 2 rfl) ?_
        refine va_put (D := D) (ci := 1) (v := .int x3_13) (ty := .int) (C := RR_T) (T := FF_T) (N := 7) hx hb hts kin_T TT_T tok_T nok_T hown hK.1 hP hD hS 0 rfl rfl 6 (by decide) (hts _ k1_43) (fun _ h9 => h9) rfl (by decide +kernel) rfl rfl (Nat.le_of_ble_eq_true rfl) d_T_keepBelow_58 (fun H locs hP hD hS => ?_)
        have hP : va_P D vwCl (wv_6 cI cJ cZ aT aT_heads aT_places aT_olders aT_sizes aT_withins aT_newest x3_13 nT_heads T_heads nT_places T_places nT_olders T_olders g11) H := hP
        have hD : va_D A (wv_6 cI cJ cZ aT aT_heads aT_places aT_olders aT_sizes aT_withins aT_newest x3_13 nT_heads T_heads nT_places T_places nT_olders T_olders g11) := hD
        obtain ⟨x12, ex12⟩ : ∃ y : Int32, y = x3_13 + (-1 : Int32) := ⟨_, rfl⟩
        refine lv_iinc (v := x12) (lv' := [(3, .int x12), (0, .ref aT), (2, .int x2_13)]) hx hb d_T_keepBelow_61 hl (k := 2) rfl (by rw [ex12]; rfl) (by decide) rfl (fun ls hl => ?_)
        have hf := of_nm ex12 hf
        refine lv_goto (tgt := 13) hx hb d_T_keepBelow_64 (by decide) ?_
        exact ih13 _ _ _ _ _ _ hP hD hS _ (lv_sub hl [1, 2, 0] rfl) hf
  rw [f_T_keepBelow] at hf
  refine lv_iload_n hx hb d_T_keepBelow_0 rfl (lv_at hl 1 rfl) ?_
  refine lv_iconst (v := 0) hx hb d_T_keepBelow_1 (by decide) ?_
  refine va_mmax hx hb (hml.trans hl.1.symm) hown (hts _ k3_239) (hts _ k4_0) (hts _ k1_15) (mth_max hts k4_1) (Nat.le_of_ble_eq_true rfl) (Nat.le_of_ble_eq_true rfl) (Nat.le_of_ble_eq_true rfl) (Nat.le_of_ble_eq_true rfl) d_T_keepBelow_2 ?_
  refine lv_topi (fun x1 ex1 => ?_)
  have hf := of_nm ex1 hf
  refine lv_istore_n (lv' := [(2, .int x1), (0, .ref aT), (1, .int p0)]) hx hb d_T_keepBelow_5 rfl hl (by decide) rfl (fun ls hl => ?_)
  refine lv_aload_n hx hb d_T_keepBelow_6 rfl (lv_at hl 1 rfl) ?_
  refine va_get (D := D) (ci := 1) (v := .int T_count) (C := RR_T) (T := FF_T) (N := 7) hx hb hts kin_T hown hK.1 hP 0 rfl rfl 6 (by decide) (hts _ k1_43) (fun _ h9 => h9) rfl d_T_keepBelow_7 ?_
  refine lv_iconst (v := 1) hx hb d_T_keepBelow_10 (by decide) ?_
  refine lv_isub hx hb d_T_keepBelow_11 ?_
  refine lv_topi (fun x2 ex2 => ?_)
  have hf := of_nm ex2 hf
  refine lv_istore_n (lv' := [(3, .int x2), (2, .int x1), (0, .ref aT), (1, .int p0)]) hx hb d_T_keepBelow_12 rfl hl (by decide) rfl (fun ls hl => ?_)
  exact hL13 FU _ _ _ _ _ _ hP hD hS _ (lv_sub hl [2, 1, 0] rfl) hf
