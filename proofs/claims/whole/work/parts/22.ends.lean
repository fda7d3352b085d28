abbrev b_E_ends : ByteArray := prog_5_method_5_code
abbrev y_E_ends : MethodName := ⟨"ShapeSearch$Search", "ends", "(II)Z"⟩
abbrev ws_E_ends : List Cond := .code y_E_ends b_E_ends 7 (some .boolean) :: BG
theorem hd_E_ends : y_E_ends.cls ≠ "java/lang/invoke/MethodHandle" ∧ y_E_ends.cls ≠ "java/lang/invoke/VarHandle" ∧ (parseMethodDescriptor y_E_ends.desc).map (fun d => d.parameters.length) = some 2 := by decide +kernel
theorem d_E_ends_0 : decode b_E_ends 0 = .ok (.aload_n 0, 1) := by decide +kernel
theorem d_E_ends_1 : decode b_E_ends 1 = .ok (.iload_n 2, 1) := by decide +kernel
theorem d_E_ends_2 : decode b_E_ends 2 = .ok (.bipush 100, 2) := by decide +kernel
theorem d_E_ends_4 : decode b_E_ends 4 = .ok (.invokestatic 58, 3) := by decide +kernel
theorem d_E_ends_7 : decode b_E_ends 7 = .ok (.putfield 46, 3) := by decide +kernel
theorem d_E_ends_10 : decode b_E_ends 10 = .ok (.aload_n 0, 1) := by decide +kernel
theorem d_E_ends_11 : decode b_E_ends 11 = .ok (.iconst (-1), 1) := by decide +kernel
theorem d_E_ends_12 : decode b_E_ends 12 = .ok (.putfield 42, 3) := by decide +kernel
theorem d_E_ends_15 : decode b_E_ends 15 = .ok (.aload_n 0, 1) := by decide +kernel
theorem d_E_ends_16 : decode b_E_ends 16 = .ok (.iconst 0, 1) := by decide +kernel
theorem d_E_ends_17 : decode b_E_ends 17 = .ok (.putfield 49, 3) := by decide +kernel
theorem d_E_ends_20 : decode b_E_ends 20 = .ok (.aload_n 0, 1) := by decide +kernel
theorem d_E_ends_21 : decode b_E_ends 21 = .ok (.iconst 0, 1) := by decide +kernel
theorem d_E_ends_22 : decode b_E_ends 22 = .ok (.putfield 52, 3) := by decide +kernel
theorem d_E_ends_25 : decode b_E_ends 25 = .ok (.aload_n 0, 1) := by decide +kernel
theorem d_E_ends_26 : decode b_E_ends 26 = .ok (.iconst (-1), 1) := by decide +kernel
theorem d_E_ends_27 : decode b_E_ends 27 = .ok (.putfield 55, 3) := by decide +kernel
theorem d_E_ends_30 : decode b_E_ends 30 = .ok (.aload_n 0, 1) := by decide +kernel
theorem d_E_ends_31 : decode b_E_ends 31 = .ok (.getfield 15, 3) := by decide +kernel
theorem d_E_ends_34 : decode b_E_ends 34 = .ok (.invokevirtual 64, 3) := by decide +kernel
theorem d_E_ends_37 : decode b_E_ends 37 = .ok (.aload_n 0, 1) := by decide +kernel
theorem d_E_ends_38 : decode b_E_ends 38 = .ok (.getfield 9, 3) := by decide +kernel
theorem d_E_ends_41 : decode b_E_ends 41 = .ok (.invokevirtual 69, 3) := by decide +kernel
theorem d_E_ends_44 : decode b_E_ends 44 = .ok (.istore_n 3, 1) := by decide +kernel
theorem d_E_ends_45 : decode b_E_ends 45 = .ok (.aload_n 0, 1) := by decide +kernel
theorem d_E_ends_46 : decode b_E_ends 46 = .ok (.iload_n 1, 1) := by decide +kernel
theorem d_E_ends_47 : decode b_E_ends 47 = .ok (.iload_n 3, 1) := by decide +kernel
theorem d_E_ends_48 : decode b_E_ends 48 = .ok (.invokevirtual 75, 3) := by decide +kernel
theorem d_E_ends_51 : decode b_E_ends 51 = .ok (.pop, 1) := by decide +kernel
theorem d_E_ends_52 : decode b_E_ends 52 = .ok (.iconst 1, 1) := by decide +kernel
theorem d_E_ends_53 : decode b_E_ends 53 = .ok (.istore 4, 2) := by decide +kernel
theorem d_E_ends_55 : decode b_E_ends 55 = .ok (.iconst 0, 1) := by decide +kernel
theorem d_E_ends_56 : decode b_E_ends 56 = .ok (.istore 5, 2) := by decide +kernel
theorem d_E_ends_58 : decode b_E_ends 58 = .ok (.iload 5, 2) := by decide +kernel
theorem d_E_ends_60 : decode b_E_ends 60 = .ok (.ldc 79, 2) := by decide +kernel
theorem d_E_ends_62 : decode b_E_ends 62 = .ok (.if_icmp .ge 83, 3) := by decide +kernel
theorem d_E_ends_65 : decode b_E_ends 65 = .ok (.iload 4, 2) := by decide +kernel
theorem d_E_ends_67 : decode b_E_ends 67 = .ok (.ifCond .eq 78, 3) := by decide +kernel
theorem d_E_ends_70 : decode b_E_ends 70 = .ok (.aload_n 0, 1) := by decide +kernel
theorem d_E_ends_71 : decode b_E_ends 71 = .ok (.getfield 42, 3) := by decide +kernel
theorem d_E_ends_74 : decode b_E_ends 74 = .ok (.ifCond .lt 71, 3) := by decide +kernel
theorem d_E_ends_77 : decode b_E_ends 77 = .ok (.aload_n 0, 1) := by decide +kernel
theorem d_E_ends_78 : decode b_E_ends 78 = .ok (.getfield 33, 3) := by decide +kernel
theorem d_E_ends_81 : decode b_E_ends 81 = .ok (.aload_n 0, 1) := by decide +kernel
theorem d_E_ends_82 : decode b_E_ends 82 = .ok (.getfield 42, 3) := by decide +kernel
theorem d_E_ends_85 : decode b_E_ends 85 = .ok (.iaload, 1) := by decide +kernel
theorem d_E_ends_86 : decode b_E_ends 86 = .ok (.istore 6, 2) := by decide +kernel
theorem d_E_ends_88 : decode b_E_ends 88 = .ok (.iload 6, 2) := by decide +kernel
theorem d_E_ends_90 : decode b_E_ends 90 = .ok (.iconst (-1), 1) := by decide +kernel
theorem d_E_ends_91 : decode b_E_ends 91 = .ok (.if_icmp .ne 12, 3) := by decide +kernel
theorem d_E_ends_94 : decode b_E_ends 94 = .ok (.aload_n 0, 1) := by decide +kernel
theorem d_E_ends_95 : decode b_E_ends 95 = .ok (.invokevirtual 80, 3) := by decide +kernel
theorem d_E_ends_98 : decode b_E_ends 98 = .ok (.istore 4, 2) := by decide +kernel
theorem d_E_ends_100 : decode b_E_ends 100 = .ok (.goto 39, 3) := by decide +kernel
theorem d_E_ends_103 : decode b_E_ends 103 = .ok (.aload_n 0, 1) := by decide +kernel
theorem d_E_ends_104 : decode b_E_ends 104 = .ok (.getfield 36, 3) := by decide +kernel
theorem d_E_ends_107 : decode b_E_ends 107 = .ok (.aload_n 0, 1) := by decide +kernel
theorem d_E_ends_108 : decode b_E_ends 108 = .ok (.getfield 42, 3) := by decide +kernel
theorem d_E_ends_111 : decode b_E_ends 111 = .ok (.iaload, 1) := by decide +kernel
theorem d_E_ends_112 : decode b_E_ends 112 = .ok (.aload_n 0, 1) := by decide +kernel
theorem d_E_ends_113 : decode b_E_ends 113 = .ok (.getfield 15, 3) := by decide +kernel
theorem d_E_ends_116 : decode b_E_ends 116 = .ok (.iload 6, 2) := by decide +kernel
theorem d_E_ends_118 : decode b_E_ends 118 = .ok (.invokevirtual 84, 3) := by decide +kernel
theorem d_E_ends_121 : decode b_E_ends 121 = .ok (.if_icmp .lt 12, 3) := by decide +kernel
theorem d_E_ends_124 : decode b_E_ends 124 = .ok (.aload_n 0, 1) := by decide +kernel
theorem d_E_ends_125 : decode b_E_ends 125 = .ok (.iload 6, 2) := by decide +kernel
theorem d_E_ends_127 : decode b_E_ends 127 = .ok (.invokevirtual 88, 3) := by decide +kernel
theorem d_E_ends_130 : decode b_E_ends 130 = .ok (.goto 9, 3) := by decide +kernel
theorem d_E_ends_133 : decode b_E_ends 133 = .ok (.aload_n 0, 1) := by decide +kernel
theorem d_E_ends_134 : decode b_E_ends 134 = .ok (.iload 6, 2) := by decide +kernel
theorem d_E_ends_136 : decode b_E_ends 136 = .ok (.invokevirtual 92, 3) := by decide +kernel
theorem d_E_ends_139 : decode b_E_ends 139 = .ok (.iinc 5 1, 3) := by decide +kernel
theorem d_E_ends_142 : decode b_E_ends 142 = .ok (.goto (-84), 3) := by decide +kernel
theorem d_E_ends_145 : decode b_E_ends 145 = .ok (.aload_n 0, 1) := by decide +kernel
theorem d_E_ends_146 : decode b_E_ends 146 = .ok (.getfield 9, 3) := by decide +kernel
theorem d_E_ends_149 : decode b_E_ends 149 = .ok (.iload_n 3, 1) := by decide +kernel
theorem d_E_ends_150 : decode b_E_ends 150 = .ok (.invokevirtual 95, 3) := by decide +kernel
theorem d_E_ends_153 : decode b_E_ends 153 = .ok (.iload 4, 2) := by decide +kernel
theorem d_E_ends_155 : decode b_E_ends 155 = .ok (.ireturn, 1) := by decide +kernel
theorem k3_218 : Cond.methodLink "ShapeSearch$Search" 58 ⟨"java/lang/Math", "min", "(II)I"⟩ ∈ BG := List.mem_filter.mpr ⟨in_3 (List.mem_of_getElem? (i := 218) rfl), rfl⟩
theorem k3_219 : Cond.methodLink "ShapeSearch$Search" 64 ⟨"ShapeSearch$Statements", "putInOrder", "()V"⟩ ∈ BG := List.mem_filter.mpr ⟨in_3 (List.mem_of_getElem? (i := 219) rfl), rfl⟩
theorem k3_123 : Cond.code ⟨"ShapeSearch$Statements", "putInOrder", "()V"⟩ prog_6_method_11_code 4 (none : Option Jvm.ClassFile.FieldType) ∈ BG := List.mem_filter.mpr ⟨in_3 (List.mem_of_getElem? (i := 123) rfl), rfl⟩
theorem k3_121 : Cond.instanceMethod ⟨"ShapeSearch$Statements", "putInOrder", "()V"⟩ ∈ BG := List.mem_filter.mpr ⟨in_3 (List.mem_of_getElem? (i := 121) rfl), rfl⟩
theorem k3_122 : Cond.selects "ShapeSearch$Statements" ⟨"ShapeSearch$Statements", "putInOrder", "()V"⟩ ⟨"ShapeSearch$Statements", "putInOrder", "()V"⟩ ∈ BG := List.mem_filter.mpr ⟨in_3 (List.mem_of_getElem? (i := 122) rfl), rfl⟩
theorem k3_225 : Cond.constant "ShapeSearch$Search" 79 1000000 ∈ BG := List.mem_filter.mpr ⟨in_3 (List.mem_of_getElem? (i := 225) rfl), rfl⟩
theorem k4_7 : Cond.methodLink "ShapeSearch$Search" 84 ⟨"ShapeSearch$Statements", "premises", "(I)I"⟩ ∈ BG := List.mem_filter.mpr ⟨in_4 (List.mem_of_getElem? (i := 7) rfl), rfl⟩
theorem k4_12 : Cond.methodLink "ShapeSearch$Search" 92 ⟨"ShapeSearch$Search", "enterNewGoal", "(I)V"⟩ ∈ BG := List.mem_filter.mpr ⟨in_4 (List.mem_of_getElem? (i := 12) rfl), rfl⟩
theorem k4_15 : Cond.code ⟨"ShapeSearch$Search", "enterNewGoal", "(I)V"⟩ prog_5_method_8_code 6 (none : Option Jvm.ClassFile.FieldType) ∈ BG := List.mem_filter.mpr ⟨in_4 (List.mem_of_getElem? (i := 15) rfl), rfl⟩
theorem k4_14 : Cond.instanceMethod ⟨"ShapeSearch$Search", "enterNewGoal", "(I)V"⟩ ∈ BG := List.mem_filter.mpr ⟨in_4 (List.mem_of_getElem? (i := 14) rfl), rfl⟩
theorem k4_8 : Cond.methodLink "ShapeSearch$Search" 88 ⟨"ShapeSearch$Search", "succeed", "(I)V"⟩ ∈ BG := List.mem_filter.mpr ⟨in_4 (List.mem_of_getElem? (i := 8) rfl), rfl⟩
theorem k4_11 : Cond.code ⟨"ShapeSearch$Search", "succeed", "(I)V"⟩ prog_5_method_9_code 3 (none : Option Jvm.ClassFile.FieldType) ∈ BG := List.mem_filter.mpr ⟨in_4 (List.mem_of_getElem? (i := 11) rfl), rfl⟩
theorem k4_10 : Cond.instanceMethod ⟨"ShapeSearch$Search", "succeed", "(I)V"⟩ ∈ BG := List.mem_filter.mpr ⟨in_4 (List.mem_of_getElem? (i := 10) rfl), rfl⟩
theorem k3_226 : Cond.methodLink "ShapeSearch$Search" 80 ⟨"ShapeSearch$Search", "looks", "()Z"⟩ ∈ BG := List.mem_filter.mpr ⟨in_3 (List.mem_of_getElem? (i := 226) rfl), rfl⟩
theorem k3_229 : Cond.code ⟨"ShapeSearch$Search", "looks", "()Z"⟩ prog_5_method_7_code 2 (some .boolean) ∈ BG := List.mem_filter.mpr ⟨in_3 (List.mem_of_getElem? (i := 229) rfl), rfl⟩
theorem k3_228 : Cond.instanceMethod ⟨"ShapeSearch$Search", "looks", "()Z"⟩ ∈ BG := List.mem_filter.mpr ⟨in_3 (List.mem_of_getElem? (i := 228) rfl), rfl⟩
abbrev wv_86 (cI cJ cZ : ClassId) (aT aT_heads aT_places aT_olders aT_sizes aT_withins aT_newest aS aS_premises aS_premiseCounts aS_conclusions aS_order aM aM_images aM_path aE aE_goals aE_marks aE_looked aE_underway aE_met aE_takenHere : Nat) (T_count : Int32) (nT_heads : Nat) (T_heads : (Nat → Int32)) (nT_places : Nat) (T_places : (Nat → Int32)) (nT_olders : Nat) (T_olders : (Nat → Int32)) (nT_sizes : Nat) (T_sizes : (Nat → Int32)) (nT_withins : Nat) (T_withins : (Nat → Int64)) (T_newest : (Nat → Int32)) (S_count : Int32) (S_premises : (Nat → Int32)) (S_premiseCounts : (Nat → Int32)) (S_conclusions : (Nat → Int32)) (S_order : (Nat → Int32)) (M_images : (Nat → Int32)) (M_path : (Nat → Int32)) (E_level : Int32) (E_steps : Int32) (E_tries : Int32) (E_taken : Int32) (E_first : Int32) (E_goals : (Nat → Int32)) (E_marks : (Nat → Int32)) (E_looked : (Nat → Int32)) (E_underway : (Nat → Int32)) (E_met : (Nat → Int32)) (E_takenHere : (Nat → Int32)) : va_W := [(aT, .inr (1, [.ref aT_heads, .ref aT_places, .ref aT_olders, .ref aT_sizes, .ref aT_withins, .ref aT_newest, .int T_count])), (aT_heads, .inl (cI, nT_heads, .inl T_heads)), (aT_places, .inl (cI, nT_places, .inl T_places)), (aT_olders, .inl (cI, nT_olders, .inl T_olders)), (aT_sizes, .inl (cI, nT_sizes, .inl T_sizes)), (aT_withins, .inl (cJ, nT_withins, .inr (.inl T_withins))), (aT_newest, .inl (cI, 256, .inl T_newest)), (aS, .inr (2, [.ref aS_premises, .ref aS_premiseCounts, .ref aS_conclusions, .ref aS_order, .int S_count])), (aS_premises, .inl (cI, 120, .inl S_premises)), (aS_premiseCounts, .inl (cI, 30, .inl S_premiseCounts)), (aS_conclusions, .inl (cI, 30, .inl S_conclusions)), (aS_order, .inl (cI, 30, .inl S_order)), (aM, .inr (3, [.ref aT, .ref aM_images, .ref aM_path])), (aM_images, .inl (cI, 100, .inl M_images)), (aM_path, .inl (cI, 100, .inl M_path)), (aE, .inr (5, [.ref aT, .ref aS, .ref aM, .ref aE_goals, .ref aE_marks, .ref aE_looked, .ref aE_underway, .ref aE_met, .ref aE_takenHere, .int E_level, .int E_steps, .int E_tries, .int E_taken, .int E_first])), (aE_goals, .inl (cI, 100, .inl E_goals)), (aE_marks, .inl (cI, 100, .inl E_marks)), (aE_looked, .inl (cI, 100, .inl E_looked)), (aE_underway, .inl (cI, 100, .inl E_underway)), (aE_met, .inl (cI, 100, .inl E_met)), (aE_takenHere, .inl (cI, 100, .inl E_takenHere))]
def f_E_ends_B145 (S_count : Int32) (S_premises : (Nat → Int32)) (S_premiseCounts : (Nat → Int32)) (S_conclusions : (Nat → Int32)) (T_count_145 : Int32) (nT_heads_145 : Nat) (T_heads_145 : (Nat → Int32)) (nT_places_145 : Nat) (T_places_145 : (Nat → Int32)) (nT_olders_145 : Nat) (T_olders_145 : (Nat → Int32)) (nT_sizes_145 : Nat) (T_sizes_145 : (Nat → Int32)) (nT_withins_145 : Nat) (T_withins_145 : (Nat → Int64)) (T_newest_145 : (Nat → Int32)) (S_order_145 : (Nat → Int32)) (M_images_145 : (Nat → Int32)) (M_path_145 : (Nat → Int32)) (E_level_145 : Int32) (E_steps_145 : Int32) (E_tries_145 : Int32) (E_taken_145 : Int32) (E_first_145 : Int32) (E_goals_145 : (Nat → Int32)) (E_marks_145 : (Nat → Int32)) (E_looked_145 : (Nat → Int32)) (E_underway_145 : (Nat → Int32)) (E_met_145 : (Nat → Int32)) (E_takenHere_145 : (Nat → Int32)) (x3_145 : Int32) (x4_145 : Int32) : Option (Int32 × Int32 × Nat × (Nat → Int32) × Nat × (Nat → Int32) × Nat × (Nat → Int32) × Nat × (Nat → Int32) × Nat × (Nat → Int64) × (Nat → Int32) × (Nat → Int32) × (Nat → Int32) × (Nat → Int32) × Int32 × Int32 × Int32 × Int32 × Int32 × (Nat → Int32) × (Nat → Int32) × (Nat → Int32) × (Nat → Int32) × (Nat → Int32) × (Nat → Int32)) :=
  (f_T_keepBelow T_count_145 nT_heads_145 T_heads_145 nT_places_145 T_places_145 nT_olders_145 T_olders_145 T_newest_145 x3_145).bind fun r21 =>
  gd (zb x4_145) <|
  some (x4_145, r21.1, nT_heads_145, T_heads_145, nT_places_145, T_places_145, nT_olders_145, T_olders_145, nT_sizes_145, T_sizes_145, nT_withins_145, T_withins_145, r21.2, S_order_145, M_images_145, M_path_145, E_level_145, E_steps_145, E_tries_145, E_taken_145, E_first_145, E_goals_145, E_marks_145, E_looked_145, E_underway_145, E_met_145, E_takenHere_145)
def f_E_ends_L58 (S_count : Int32) (S_premises : (Nat → Int32)) (S_premiseCounts : (Nat → Int32)) (S_conclusions : (Nat → Int32)) : Nat → Int32 → Nat → (Nat → Int32) → Nat → (Nat → Int32) → Nat → (Nat → Int32) → Nat → (Nat → Int32) → Nat → (Nat → Int64) → (Nat → Int32) → (Nat → Int32) → (Nat → Int32) → (Nat → Int32) → Int32 → Int32 → Int32 → Int32 → Int32 → (Nat → Int32) → (Nat → Int32) → (Nat → Int32) → (Nat → Int32) → (Nat → Int32) → (Nat → Int32) → Int32 → Int32 → Int32 → Option (Int32 × Int32 × Nat × (Nat → Int32) × Nat × (Nat → Int32) × Nat × (Nat → Int32) × Nat × (Nat → Int32) × Nat × (Nat → Int64) × (Nat → Int32) × (Nat → Int32) × (Nat → Int32) × (Nat → Int32) × Int32 × Int32 × Int32 × Int32 × Int32 × (Nat → Int32) × (Nat → Int32) × (Nat → Int32) × (Nat → Int32) × (Nat → Int32) × (Nat → Int32))
  | 0, _, _, _, _, _, _, _, _, _, _, _, _, _, _, _, _, _, _, _, _, _, _, _, _, _, _, _, _, _ => none
  | n + 1, T_count_58, nT_heads_58, T_heads_58, nT_places_58, T_places_58, nT_olders_58, T_olders_58, nT_sizes_58, T_sizes_58, nT_withins_58, T_withins_58, T_newest_58, S_order_58, M_images_58, M_path_58, E_level_58, E_steps_58, E_tries_58, E_taken_58, E_first_58, E_goals_58, E_marks_58, E_looked_58, E_underway_58, E_met_58, E_takenHere_58, x3_58, x4_58, x5_58 =>
    if (1000000 : Int32) ≤ x5_58 then
      f_E_ends_B145 S_count S_premises S_premiseCounts S_conclusions T_count_58 nT_heads_58 T_heads_58 nT_places_58 T_places_58 nT_olders_58 T_olders_58 nT_sizes_58 T_sizes_58 nT_withins_58 T_withins_58 T_newest_58 S_order_58 M_images_58 M_path_58 E_level_58 E_steps_58 E_tries_58 E_taken_58 E_first_58 E_goals_58 E_marks_58 E_looked_58 E_underway_58 E_met_58 E_takenHere_58 x3_58 x4_58
    else
      if x4_58 = 0 then
        f_E_ends_B145 S_count S_premises S_premiseCounts S_conclusions T_count_58 nT_heads_58 T_heads_58 nT_places_58 T_places_58 nT_olders_58 T_olders_58 nT_sizes_58 T_sizes_58 nT_withins_58 T_withins_58 T_newest_58 S_order_58 M_images_58 M_path_58 E_level_58 E_steps_58 E_tries_58 E_taken_58 E_first_58 E_goals_58 E_marks_58 E_looked_58 E_underway_58 E_met_58 E_takenHere_58 x3_58 x4_58
      else
        if E_level_58 < 0 then
          f_E_ends_B145 S_count S_premises S_premiseCounts S_conclusions T_count_58 nT_heads_58 T_heads_58 nT_places_58 T_places_58 nT_olders_58 T_olders_58 nT_sizes_58 T_sizes_58 nT_withins_58 T_withins_58 T_newest_58 S_order_58 M_images_58 M_path_58 E_level_58 E_steps_58 E_tries_58 E_taken_58 E_first_58 E_goals_58 E_marks_58 E_looked_58 E_underway_58 E_met_58 E_takenHere_58 x3_58 x4_58
        else
          gd (ixb E_level_58 100) <|
          nm (E_underway_58 E_level_58.toNatClampNeg) fun x9 =>
          if x9 = (-1 : Int32) then
            (f_E_looks T_count_58 nT_heads_58 T_heads_58 nT_places_58 T_places_58 nT_olders_58 T_olders_58 nT_withins_58 T_withins_58 T_newest_58 S_count S_premises S_premiseCounts S_conclusions S_order_58 M_images_58 E_level_58 E_tries_58 E_goals_58 E_marks_58 E_looked_58 E_underway_58 E_met_58 E_takenHere_58).bind fun r19 =>
            nm (x5_58 + (1 : Int32)) fun x20 =>
            (f_E_ends_L58 S_count S_premises S_premiseCounts S_conclusions n) r19.2.1 nT_heads_58 T_heads_58 nT_places_58 T_places_58 nT_olders_58 T_olders_58 nT_sizes_58 T_sizes_58 nT_withins_58 T_withins_58 r19.2.2.1 S_order_58 r19.2.2.2.1 M_path_58 r19.2.2.2.2.1 E_steps_58 r19.2.2.2.2.2.1 E_taken_58 E_first_58 E_goals_58 E_marks_58 r19.2.2.2.2.2.2.1 r19.2.2.2.2.2.2.2.1 r19.2.2.2.2.2.2.2.2.1 r19.2.2.2.2.2.2.2.2.2 x3_58 r19.1 x20
          else
            gd (ixb E_level_58 100) <|
            (f_S_premises S_count S_premiseCounts x9).bind fun r12 =>
            if (E_met_58 E_level_58.toNatClampNeg) < r12 then
              (f_E_enterNewGoal T_count_58 nT_heads_58 T_heads_58 nT_places_58 T_places_58 nT_olders_58 T_olders_58 nT_sizes_58 T_sizes_58 nT_withins_58 T_withins_58 T_newest_58 S_count S_premises S_premiseCounts S_conclusions M_images_58 M_path_58 E_level_58 E_steps_58 E_goals_58 E_marks_58 E_looked_58 E_underway_58 E_met_58 x9).bind fun r14 =>
              nm (x5_58 + (1 : Int32)) fun x16 =>
              (f_E_ends_L58 S_count S_premises S_premiseCounts S_conclusions n) r14.1 r14.2.1 r14.2.2.1 r14.2.2.2.1 r14.2.2.2.2.1 r14.2.2.2.2.2.1 r14.2.2.2.2.2.2.1 r14.2.2.2.2.2.2.2.1 r14.2.2.2.2.2.2.2.2.1 r14.2.2.2.2.2.2.2.2.2.1 r14.2.2.2.2.2.2.2.2.2.2.1 r14.2.2.2.2.2.2.2.2.2.2.2.1 S_order_58 r14.2.2.2.2.2.2.2.2.2.2.2.2.1 r14.2.2.2.2.2.2.2.2.2.2.2.2.2.1 r14.2.2.2.2.2.2.2.2.2.2.2.2.2.2.1 E_steps_58 E_tries_58 E_taken_58 E_first_58 r14.2.2.2.2.2.2.2.2.2.2.2.2.2.2.2.1 r14.2.2.2.2.2.2.2.2.2.2.2.2.2.2.2.2.1 r14.2.2.2.2.2.2.2.2.2.2.2.2.2.2.2.2.2.1 r14.2.2.2.2.2.2.2.2.2.2.2.2.2.2.2.2.2.2 E_met_58 E_takenHere_58 x3_58 x4_58 x16
            else
              (f_E_succeed T_count_58 nT_heads_58 T_heads_58 nT_places_58 T_places_58 nT_olders_58 T_olders_58 T_newest_58 E_level_58 E_taken_58 E_first_58 E_marks_58 E_met_58 E_takenHere_58 x9).bind fun r17 =>
              nm (x5_58 + (1 : Int32)) fun x18 =>
              (f_E_ends_L58 S_count S_premises S_premiseCounts S_conclusions n) r17.1 nT_heads_58 T_heads_58 nT_places_58 T_places_58 nT_olders_58 T_olders_58 nT_sizes_58 T_sizes_58 nT_withins_58 T_withins_58 r17.2.1 S_order_58 M_images_58 M_path_58 r17.2.2.1 E_steps_58 E_tries_58 r17.2.2.2.1 r17.2.2.2.2.1 E_goals_58 E_marks_58 E_looked_58 E_underway_58 r17.2.2.2.2.2.1 r17.2.2.2.2.2.2 x3_58 x4_58 x18
def f_E_ends (T_count : Int32) (nT_heads : Nat) (T_heads : (Nat → Int32)) (nT_places : Nat) (T_places : (Nat → Int32)) (nT_olders : Nat) (T_olders : (Nat → Int32)) (nT_sizes : Nat) (T_sizes : (Nat → Int32)) (nT_withins : Nat) (T_withins : (Nat → Int64)) (T_newest : (Nat → Int32)) (S_count : Int32) (S_premises : (Nat → Int32)) (S_premiseCounts : (Nat → Int32)) (S_conclusions : (Nat → Int32)) (S_order : (Nat → Int32)) (M_images : (Nat → Int32)) (M_path : (Nat → Int32)) (E_level : Int32) (E_steps : Int32) (E_tries : Int32) (E_taken : Int32) (E_first : Int32) (E_goals : (Nat → Int32)) (E_marks : (Nat → Int32)) (E_looked : (Nat → Int32)) (E_underway : (Nat → Int32)) (E_met : (Nat → Int32)) (E_takenHere : (Nat → Int32)) (p0 : Int32) (p1 : Int32) : Option (Int32 × Int32 × Nat × (Nat → Int32) × Nat × (Nat → Int32) × Nat × (Nat → Int32) × Nat × (Nat → Int32) × Nat × (Nat → Int64) × (Nat → Int32) × (Nat → Int32) × (Nat → Int32) × (Nat → Int32) × Int32 × Int32 × Int32 × Int32 × Int32 × (Nat → Int32) × (Nat → Int32) × (Nat → Int32) × (Nat → Int32) × (Nat → Int32) × (Nat → Int32)) :=
  nm (if (100 : Int32) < p1 then (100 : Int32) else p1) fun x1 =>
  (f_S_putInOrder S_count S_premiseCounts S_order).bind fun r2 =>
  (f_T_count T_count).bind fun r3 =>
  (f_E_enter (-1 : Int32) x1 E_goals E_marks E_looked E_underway p0 r3).bind fun r4 =>
  f_E_ends_L58 S_count S_premises S_premiseCounts S_conclusions FU T_count nT_heads T_heads nT_places T_places nT_olders T_olders nT_sizes T_sizes nT_withins T_withins T_newest r2 M_images M_path r4.2.1 x1 (0 : Int32) (0 : Int32) (-1 : Int32) r4.2.2.1 r4.2.2.2.1 r4.2.2.2.2.1 r4.2.2.2.2.2 E_met E_takenHere r3 (1 : Int32) (0 : Int32)
theorem mono_E_ends_B145 {S_count : Int32} {S_premises : (Nat → Int32)} {S_premiseCounts : (Nat → Int32)} {S_conclusions : (Nat → Int32)} {o : Int32 × Int32 × Nat × (Nat → Int32) × Nat × (Nat → Int32) × Nat × (Nat → Int32) × Nat × (Nat → Int32) × Nat × (Nat → Int64) × (Nat → Int32) × (Nat → Int32) × (Nat → Int32) × (Nat → Int32) × Int32 × Int32 × Int32 × Int32 × Int32 × (Nat → Int32) × (Nat → Int32) × (Nat → Int32) × (Nat → Int32) × (Nat → Int32) × (Nat → Int32)} {T_count_145 : Int32} {nT_heads_145 : Nat} {T_heads_145 : (Nat → Int32)} {nT_places_145 : Nat} {T_places_145 : (Nat → Int32)} {nT_olders_145 : Nat} {T_olders_145 : (Nat → Int32)} {nT_sizes_145 : Nat} {T_sizes_145 : (Nat → Int32)} {nT_withins_145 : Nat} {T_withins_145 : (Nat → Int64)} {T_newest_145 : (Nat → Int32)} {S_order_145 : (Nat → Int32)} {M_images_145 : (Nat → Int32)} {M_path_145 : (Nat → Int32)} {E_level_145 : Int32} {E_steps_145 : Int32} {E_tries_145 : Int32} {E_taken_145 : Int32} {E_first_145 : Int32} {E_goals_145 : (Nat → Int32)} {E_marks_145 : (Nat → Int32)} {E_looked_145 : (Nat → Int32)} {E_underway_145 : (Nat → Int32)} {E_met_145 : (Nat → Int32)} {E_takenHere_145 : (Nat → Int32)} {x3_145 : Int32} {x4_145 : Int32} (hf : f_E_ends_B145 S_count S_premises S_premiseCounts S_conclusions T_count_145 nT_heads_145 T_heads_145 nT_places_145 T_places_145 nT_olders_145 T_olders_145 nT_sizes_145 T_sizes_145 nT_withins_145 T_withins_145 T_newest_145 S_order_145 M_images_145 M_path_145 E_level_145 E_steps_145 E_tries_145 E_taken_145 E_first_145 E_goals_145 E_marks_145 E_looked_145 E_underway_145 E_met_145 E_takenHere_145 x3_145 x4_145 = some o) : nT_heads_145 ≤ o.2.2.1 := by
  rw [f_E_ends_B145] at hf
  obtain ⟨r21, hr21, hf⟩ := of_bd hf
  obtain ⟨h22, hf⟩ := of_gd hf
  obtain rfl := Option.some.inj hf
  simp only; omega
theorem mono_E_ends_L58 {S_count : Int32} {S_premises : (Nat → Int32)} {S_premiseCounts : (Nat → Int32)} {S_conclusions : (Nat → Int32)} {o : Int32 × Int32 × Nat × (Nat → Int32) × Nat × (Nat → Int32) × Nat × (Nat → Int32) × Nat × (Nat → Int32) × Nat × (Nat → Int64) × (Nat → Int32) × (Nat → Int32) × (Nat → Int32) × (Nat → Int32) × Int32 × Int32 × Int32 × Int32 × Int32 × (Nat → Int32) × (Nat → Int32) × (Nat → Int32) × (Nat → Int32) × (Nat → Int32) × (Nat → Int32)} {n : Nat} : ∀ {T_count_58 : Int32} {nT_heads_58 : Nat} {T_heads_58 : (Nat → Int32)} {nT_places_58 : Nat} {T_places_58 : (Nat → Int32)} {nT_olders_58 : Nat} {T_olders_58 : (Nat → Int32)} {nT_sizes_58 : Nat} {T_sizes_58 : (Nat → Int32)} {nT_withins_58 : Nat} {T_withins_58 : (Nat → Int64)} {T_newest_58 : (Nat → Int32)} {S_order_58 : (Nat → Int32)} {M_images_58 : (Nat → Int32)} {M_path_58 : (Nat → Int32)} {E_level_58 : Int32} {E_steps_58 : Int32} {E_tries_58 : Int32} {E_taken_58 : Int32} {E_first_58 : Int32} {E_goals_58 : (Nat → Int32)} {E_marks_58 : (Nat → Int32)} {E_looked_58 : (Nat → Int32)} {E_underway_58 : (Nat → Int32)} {E_met_58 : (Nat → Int32)} {E_takenHere_58 : (Nat → Int32)} {x3_58 : Int32} {x4_58 : Int32} {x5_58 : Int32}, f_E_ends_L58 S_count S_premises S_premiseCounts S_conclusions n T_count_58 nT_heads_58 T_heads_58 nT_places_58 T_places_58 nT_olders_58 T_olders_58 nT_sizes_58 T_sizes_58 nT_withins_58 T_withins_58 T_newest_58 S_order_58 M_images_58 M_path_58 E_level_58 E_steps_58 E_tries_58 E_taken_58 E_first_58 E_goals_58 E_marks_58 E_looked_58 E_underway_58 E_met_58 E_takenHere_58 x3_58 x4_58 x5_58 = some o → nT_heads_58 ≤ o.2.2.1 := by
  have H : ∀ (n : Nat) (T_count_58 : Int32) (nT_heads_58 : Nat) (T_heads_58 : (Nat → Int32)) (nT_places_58 : Nat) (T_places_58 : (Nat → Int32)) (nT_olders_58 : Nat) (T_olders_58 : (Nat → Int32)) (nT_sizes_58 : Nat) (T_sizes_58 : (Nat → Int32)) (nT_withins_58 : Nat) (T_withins_58 : (Nat → Int64)) (T_newest_58 : (Nat → Int32)) (S_order_58 : (Nat → Int32)) (M_images_58 : (Nat → Int32)) (M_path_58 : (Nat → Int32)) (E_level_58 : Int32) (E_steps_58 : Int32) (E_tries_58 : Int32) (E_taken_58 : Int32) (E_first_58 : Int32) (E_goals_58 : (Nat → Int32)) (E_marks_58 : (Nat → Int32)) (E_looked_58 : (Nat → Int32)) (E_underway_58 : (Nat → Int32)) (E_met_58 : (Nat → Int32)) (E_takenHere_58 : (Nat → Int32)) (x3_58 : Int32) (x4_58 : Int32) (x5_58 : Int32), f_E_ends_L58 S_count S_premises S_premiseCounts S_conclusions n T_count_58 nT_heads_58 T_heads_58 nT_places_58 T_places_58 nT_olders_58 T_olders_58 nT_sizes_58 T_sizes_58 nT_withins_58 T_withins_58 T_newest_58 S_order_58 M_images_58 M_path_58 E_level_58 E_steps_58 E_tries_58 E_taken_58 E_first_58 E_goals_58 E_marks_58 E_looked_58 E_underway_58 E_met_58 E_takenHere_58 x3_58 x4_58 x5_58 = some o → nT_heads_58 ≤ o.2.2.1 := by
    intro n
    induction n with
    | zero =>
      intro T_count_58 nT_heads_58 T_heads_58 nT_places_58 T_places_58 nT_olders_58 T_olders_58 nT_sizes_58 T_sizes_58 nT_withins_58 T_withins_58 T_newest_58 S_order_58 M_images_58 M_path_58 E_level_58 E_steps_58 E_tries_58 E_taken_58 E_first_58 E_goals_58 E_marks_58 E_looked_58 E_underway_58 E_met_58 E_takenHere_58 x3_58 x4_58 x5_58 hf
      rw [f_E_ends_L58] at hf
      cases hf
    | succ n ih58 =>
      intro T_count_58 nT_heads_58 T_heads_58 nT_places_58 T_places_58 nT_olders_58 T_olders_58 nT_sizes_58 T_sizes_58 nT_withins_58 T_withins_58 T_newest_58 S_order_58 M_images_58 M_path_58 E_level_58 E_steps_58 E_tries_58 E_taken_58 E_first_58 E_goals_58 E_marks_58 E_looked_58 E_underway_58 E_met_58 E_takenHere_58 x3_58 x4_58 x5_58 hf
      rw [f_E_ends_L58] at hf
      rcases (Classical.em ((1000000 : Int32) ≤ x5_58)) with c5 | c5
      · have hf := ite_t c5 hf
        have hz := mono_E_ends_B145 hf; omega
      · have hf := ite_f c5 hf
        rcases (Classical.em (x4_58 = 0)) with c6 | c6
        · have hf := ite_t c6 hf
          have hz := mono_E_ends_B145 hf; omega
        · have hf := ite_f c6 hf
          rcases (Classical.em (E_level_58 < 0)) with c7 | c7
          · have hf := ite_t c7 hf
            have hz := mono_E_ends_B145 hf; omega
          · have hf := ite_f c7 hf
            obtain ⟨h8, hf⟩ := of_gd hf
            obtain ⟨x9, ex9⟩ : ∃ y : Int32, y = E_underway_58 E_level_58.toNatClampNeg := ⟨_, rfl⟩
            have hf := of_nm ex9 hf
            rcases (Classical.em (x9 = (-1 : Int32))).symm with c10 | c10
            · have hf := ite_f c10 hf
              obtain ⟨h11, hf⟩ := of_gd hf
              obtain ⟨r12, hr12, hf⟩ := of_bd hf
              rcases (Classical.em ((E_met_58 E_level_58.toNatClampNeg) < r12)) with c13 | c13
              · have hf := ite_t c13 hf
                obtain ⟨r14, hr14, hf⟩ := of_bd hf
                have hm23 : nT_heads_58 ≤ r14.2.1 := mono_E_enterNewGoal hr14
                obtain ⟨x16, ex16⟩ : ∃ y : Int32, y = x5_58 + (1 : Int32) := ⟨_, rfl⟩
                have hf := of_nm ex16 hf
                have hz := ih58 _ _ _ _ _ _ _ _ _ _ _ _ _ _ _ _ _ _ _ _ _ _ _ _ _ _ _ _ _ hf; omega
              · have hf := ite_f c13 hf
                obtain ⟨r17, hr17, hf⟩ := of_bd hf
                obtain ⟨x18, ex18⟩ : ∃ y : Int32, y = x5_58 + (1 : Int32) := ⟨_, rfl⟩
                have hf := of_nm ex18 hf
                have hz := ih58 _ _ _ _ _ _ _ _ _ _ _ _ _ _ _ _ _ _ _ _ _ _ _ _ _ _ _ _ _ hf; omega
            · have hf := ite_t c10 hf
              obtain ⟨r19, hr19, hf⟩ := of_bd hf
              obtain ⟨x20, ex20⟩ : ∃ y : Int32, y = x5_58 + (1 : Int32) := ⟨_, rfl⟩
              have hf := of_nm ex20 hf
              have hz := ih58 _ _ _ _ _ _ _ _ _ _ _ _ _ _ _ _ _ _ _ _ _ _ _ _ _ _ _ _ _ hf; omega
  intro T_count_58 nT_heads_58 T_heads_58 nT_places_58 T_places_58 nT_olders_58 T_olders_58 nT_sizes_58 T_sizes_58 nT_withins_58 T_withins_58 T_newest_58 S_order_58 M_images_58 M_path_58 E_level_58 E_steps_58 E_tries_58 E_taken_58 E_first_58 E_goals_58 E_marks_58 E_looked_58 E_underway_58 E_met_58 E_takenHere_58 x3_58 x4_58 x5_58 hf
  exact H n T_count_58 nT_heads_58 T_heads_58 nT_places_58 T_places_58 nT_olders_58 T_olders_58 nT_sizes_58 T_sizes_58 nT_withins_58 T_withins_58 T_newest_58 S_order_58 M_images_58 M_path_58 E_level_58 E_steps_58 E_tries_58 E_taken_58 E_first_58 E_goals_58 E_marks_58 E_looked_58 E_underway_58 E_met_58 E_takenHere_58 x3_58 x4_58 x5_58 hf
theorem mono_E_ends {T_count : Int32} {nT_heads : Nat} {T_heads : (Nat → Int32)} {nT_places : Nat} {T_places : (Nat → Int32)} {nT_olders : Nat} {T_olders : (Nat → Int32)} {nT_sizes : Nat} {T_sizes : (Nat → Int32)} {nT_withins : Nat} {T_withins : (Nat → Int64)} {T_newest : (Nat → Int32)} {S_count : Int32} {S_premises : (Nat → Int32)} {S_premiseCounts : (Nat → Int32)} {S_conclusions : (Nat → Int32)} {S_order : (Nat → Int32)} {M_images : (Nat → Int32)} {M_path : (Nat → Int32)} {E_level : Int32} {E_steps : Int32} {E_tries : Int32} {E_taken : Int32} {E_first : Int32} {E_goals : (Nat → Int32)} {E_marks : (Nat → Int32)} {E_looked : (Nat → Int32)} {E_underway : (Nat → Int32)} {E_met : (Nat → Int32)} {E_takenHere : (Nat → Int32)} {p0 : Int32} {p1 : Int32} {o : Int32 × Int32 × Nat × (Nat → Int32) × Nat × (Nat → Int32) × Nat × (Nat → Int32) × Nat × (Nat → Int32) × Nat × (Nat → Int64) × (Nat → Int32) × (Nat → Int32) × (Nat → Int32) × (Nat → Int32) × Int32 × Int32 × Int32 × Int32 × Int32 × (Nat → Int32) × (Nat → Int32) × (Nat → Int32) × (Nat → Int32) × (Nat → Int32) × (Nat → Int32)} (hf : f_E_ends T_count nT_heads T_heads nT_places T_places nT_olders T_olders nT_sizes T_sizes nT_withins T_withins T_newest S_count S_premises S_premiseCounts S_conclusions S_order M_images M_path E_level E_steps E_tries E_taken E_first E_goals E_marks E_looked E_underway E_met E_takenHere p0 p1 = some o) : nT_heads ≤ o.2.2.1 := by
  rw [f_E_ends] at hf
  obtain ⟨x1, ex1⟩ : ∃ y : Int32, y = if (100 : Int32) < p1 then (100 : Int32) else p1 := ⟨_, rfl⟩
  have hf := of_nm ex1 hf
  obtain ⟨r2, hr2, hf⟩ := of_bd hf
  obtain ⟨r3, hr3, hf⟩ := of_bd hf
  obtain ⟨r4, hr4, hf⟩ := of_bd hf
  have hz := mono_E_ends_L58 hf; omega
abbrev rm_E_ends (c s : Nat) : Room := { frames := 5, cells := c, slots := s, locals := 131 }
set_option maxHeartbeats 4000000 in
set_option maxRecDepth 100000 in
theorem c_E_ends (l : Launch) (D : va_G) (cI cJ cZ : ClassId) (aT aT_heads aT_places aT_olders aT_sizes aT_withins aT_newest aS aS_premises aS_premiseCounts aS_conclusions aS_order aM aM_images aM_path aE aE_goals aE_marks aE_looked aE_underway aE_met aE_takenHere : Nat) (sz : Nat) (T_count : Int32) (nT_heads : Nat) (T_heads : (Nat → Int32)) (nT_places : Nat) (T_places : (Nat → Int32)) (nT_olders : Nat) (T_olders : (Nat → Int32)) (nT_sizes : Nat) (T_sizes : (Nat → Int32)) (nT_withins : Nat) (T_withins : (Nat → Int64)) (T_newest : (Nat → Int32)) (S_count : Int32) (S_premises : (Nat → Int32)) (S_premiseCounts : (Nat → Int32)) (S_conclusions : (Nat → Int32)) (S_order : (Nat → Int32)) (M_images : (Nat → Int32)) (M_path : (Nat → Int32)) (E_level : Int32) (E_steps : Int32) (E_tries : Int32) (E_taken : Int32) (E_first : Int32) (E_goals : (Nat → Int32)) (E_marks : (Nat → Int32)) (E_looked : (Nat → Int32)) (E_underway : (Nat → Int32)) (E_met : (Nat → Int32)) (E_takenHere : (Nat → Int32)) (p0 : Int32) (p1 : Int32) (o : Int32 × Int32 × Nat × (Nat → Int32) × Nat × (Nat → Int32) × Nat × (Nat → Int32) × Nat × (Nat → Int32) × Nat × (Nat → Int64) × (Nat → Int32) × (Nat → Int32) × (Nat → Int32) × (Nat → Int32) × Int32 × Int32 × Int32 × Int32 × Int32 × (Nat → Int32) × (Nat → Int32) × (Nat → Int32) × (Nat → Int32) × (Nat → Int32) × (Nat → Int32)) (hf : f_E_ends T_count nT_heads T_heads nT_places T_places nT_olders T_olders nT_sizes T_sizes nT_withins T_withins T_newest S_count S_premises S_premiseCounts S_conclusions S_order M_images M_path E_level E_steps E_tries E_taken E_first E_goals E_marks E_looked E_underway E_met E_takenHere p0 p1 = some o) : Met l y_E_ends (ws_E_ends) (rm_E_ends (PC nT_heads - PC o.2.2.1) (PS nT_heads - PS o.2.2.1)) (WPc D vwCl cI cJ cZ [.ref aE, .int p0, .int p1] (wv_86 cI cJ cZ aT aT_heads aT_places aT_olders aT_sizes aT_withins aT_newest aS aS_premises aS_premiseCounts aS_conclusions aS_order aM aM_images aM_path aE aE_goals aE_marks aE_looked aE_underway aE_met aE_takenHere T_count nT_heads T_heads nT_places T_places nT_olders T_olders nT_sizes T_sizes nT_withins T_withins T_newest S_count S_premises S_premiseCounts S_conclusions S_order M_images M_path E_level E_steps E_tries E_taken E_first E_goals E_marks E_looked E_underway E_met E_takenHere) sz) (WQx D vwCl (some (.int o.1)) (fun as => (wv_86 cI cJ cZ aT (as 0) (as 1) (as 2) (as 3) (as 4) aT_newest aS aS_premises aS_premiseCounts aS_conclusions aS_order aM aM_images aM_path aE aE_goals aE_marks aE_looked aE_underway aE_met aE_takenHere o.2.1 o.2.2.1 o.2.2.2.1 o.2.2.2.2.1 o.2.2.2.2.2.1 o.2.2.2.2.2.2.1 o.2.2.2.2.2.2.2.1 o.2.2.2.2.2.2.2.2.1 o.2.2.2.2.2.2.2.2.2.1 o.2.2.2.2.2.2.2.2.2.2.1 o.2.2.2.2.2.2.2.2.2.2.2.1 o.2.2.2.2.2.2.2.2.2.2.2.2.1 S_count S_premises S_premiseCounts S_conclusions o.2.2.2.2.2.2.2.2.2.2.2.2.2.1 o.2.2.2.2.2.2.2.2.2.2.2.2.2.2.1 o.2.2.2.2.2.2.2.2.2.2.2.2.2.2.2.1 o.2.2.2.2.2.2.2.2.2.2.2.2.2.2.2.2.1 o.2.2.2.2.2.2.2.2.2.2.2.2.2.2.2.2.2.1 o.2.2.2.2.2.2.2.2.2.2.2.2.2.2.2.2.2.2.1 o.2.2.2.2.2.2.2.2.2.2.2.2.2.2.2.2.2.2.2.1 o.2.2.2.2.2.2.2.2.2.2.2.2.2.2.2.2.2.2.2.2.1 o.2.2.2.2.2.2.2.2.2.2.2.2.2.2.2.2.2.2.2.2.2.1 o.2.2.2.2.2.2.2.2.2.2.2.2.2.2.2.2.2.2.2.2.2.2.1 o.2.2.2.2.2.2.2.2.2.2.2.2.2.2.2.2.2.2.2.2.2.2.2.1 o.2.2.2.2.2.2.2.2.2.2.2.2.2.2.2.2.2.2.2.2.2.2.2.2.1 o.2.2.2.2.2.2.2.2.2.2.2.2.2.2.2.2.2.2.2.2.2.2.2.2.2.1 o.2.2.2.2.2.2.2.2.2.2.2.2.2.2.2.2.2.2.2.2.2.2.2.2.2.2)) (va_A (wv_86 cI cJ cZ aT aT_heads aT_places aT_olders aT_sizes aT_withins aT_newest aS aS_premises aS_premiseCounts aS_conclusions aS_order aM aM_images aM_path aE aE_goals aE_marks aE_looked aE_underway aE_met aE_takenHere T_count nT_heads T_heads nT_places T_places nT_olders T_olders nT_sizes T_sizes nT_withins T_withins T_newest S_count S_premises S_premiseCounts S_conclusions S_order M_images M_path E_level E_steps E_tries E_taken E_first E_goals E_marks E_looked E_underway E_met E_takenHere) sz)) (PC nT_heads - PC o.2.2.1) (PS nT_heads - PS o.2.2.1) (va_A (wv_86 cI cJ cZ aT aT_heads aT_places aT_olders aT_sizes aT_withins aT_newest aS aS_premises aS_premiseCounts aS_conclusions aS_order aM aM_images aM_path aE aE_goals aE_marks aE_looked aE_underway aE_met aE_takenHere T_count nT_heads T_heads nT_places T_places nT_olders T_olders nT_sizes T_sizes nT_withins T_withins T_newest S_count S_premises S_premiseCounts S_conclusions S_order M_images M_path E_level E_steps E_tries E_taken E_first E_goals E_marks E_looked E_underway E_met E_takenHere) sz) := by
  refine Met.ofW (cc := b_E_ends) (maxL := 7) (ret := (some .boolean)) (by decide) rfl ?_
  intro p e s m args below meth c s₁ B hml hv
  obtain ⟨rfl, rfl, hP, hK, hD0⟩ := hv
  have hx := B.exec
  have hb := B.bytes
  have hr := B.returns
  have hts : ∀ w ∈ BG, w.before _ s = true := fun w h => atoms_spec (ws := (ws_E_ends)) B.pre w (List.mem_cons_of_mem _ h)
  have hown : s.vm.findClass RR_E = some m.cls := findClass_of_methodNamed B.named
  have hlocks := B.notSynchronized
  have hD := hD0.self (sz := s.heap.size)
  have hA : ∀ q : Nat, s.heap.size ≤ q → va_A (wv_86 cI cJ cZ aT aT_heads aT_places aT_olders aT_sizes aT_withins aT_newest aS aS_premises aS_premiseCounts aS_conclusions aS_order aM aM_images aM_path aE aE_goals aE_marks aE_looked aE_underway aE_met aE_takenHere T_count nT_heads T_heads nT_places T_places nT_olders T_olders nT_sizes T_sizes nT_withins T_withins T_newest S_count S_premises S_premiseCounts S_conclusions S_order M_images M_path E_level E_steps E_tries E_taken E_first E_goals E_marks E_looked E_underway E_met E_takenHere) s.heap.size q := fun q h => Or.inr h
  have hS : va_S (va_A (wv_86 cI cJ cZ aT aT_heads aT_places aT_olders aT_sizes aT_withins aT_newest aS aS_premises aS_premiseCounts aS_conclusions aS_order aM aM_images aM_path aE aE_goals aE_marks aE_looked aE_underway aE_met aE_takenHere T_count nT_heads T_heads nT_places T_places nT_olders T_olders nT_sizes T_sizes nT_withins T_withins T_newest S_count S_premises S_premiseCounts S_conclusions S_order M_images M_path E_level E_steps E_tries E_taken E_first E_goals E_marks E_looked E_underway E_met E_takenHere) s.heap.size) s.heap s.heap [] := va_S.rf
  generalize va_A (wv_86 cI cJ cZ aT aT_heads aT_places aT_olders aT_sizes aT_withins aT_newest aS aS_premises aS_premiseCounts aS_conclusions aS_order aM aM_images aM_path aE aE_goals aE_marks aE_looked aE_underway aE_met aE_takenHere T_count nT_heads T_heads nT_places T_places nT_olders T_olders nT_sizes T_sizes nT_withins T_withins T_newest S_count S_premises S_premiseCounts S_conclusions S_order M_images M_path E_level E_steps E_tries E_taken E_first E_goals E_marks E_looked E_underway E_met E_takenHere) s.heap.size = A at hD hA hS ⊢
  have hl := lv_entry ([.ref aE, .int p0, .int p1]) (n := 7) (Nat.le_of_ble_eq_true rfl)
  rw [lg_entry_eq]
  generalize (lg_sl ([.ref aE, .int p0, .int p1]) ++ List.replicate (7 - (lg_sl ([.ref aE, .int p0, .int p1])).length) Slot.unset).toArray = ls at hl ⊢
  have hl : lv_has ls 7 [(0, .ref aE), (1, .int p0), (2, .int p1)] := hl
  have hB145 : ∀ (T_count_145 : Int32) (nT_heads_145 : Nat) (T_heads_145 : (Nat → Int32)) (nT_places_145 : Nat) (T_places_145 : (Nat → Int32)) (nT_olders_145 : Nat) (T_olders_145 : (Nat → Int32)) (nT_sizes_145 : Nat) (T_sizes_145 : (Nat → Int32)) (nT_withins_145 : Nat) (T_withins_145 : (Nat → Int64)) (T_newest_145 : (Nat → Int32)) (S_order_145 : (Nat → Int32)) (M_images_145 : (Nat → Int32)) (M_path_145 : (Nat → Int32)) (E_level_145 : Int32) (E_steps_145 : Int32) (E_tries_145 : Int32) (E_taken_145 : Int32) (E_first_145 : Int32) (E_goals_145 : (Nat → Int32)) (E_marks_145 : (Nat → Int32)) (E_looked_145 : (Nat → Int32)) (E_underway_145 : (Nat → Int32)) (E_met_145 : (Nat → Int32)) (E_takenHere_145 : (Nat → Int32)) (x3_145 : Int32) (x4_145 : Int32), ∀ (aT_heads_145 aT_places_145 aT_olders_145 aT_sizes_145 aT_withins_145 : Nat), nT_heads ≤ nT_heads_145 → ∀ (H : Heap) (locs : List Loc), va_P D vwCl (wv_86 cI cJ cZ aT aT_heads_145 aT_places_145 aT_olders_145 aT_sizes_145 aT_withins_145 aT_newest aS aS_premises aS_premiseCounts aS_conclusions aS_order aM aM_images aM_path aE aE_goals aE_marks aE_looked aE_underway aE_met aE_takenHere T_count_145 nT_heads_145 T_heads_145 nT_places_145 T_places_145 nT_olders_145 T_olders_145 nT_sizes_145 T_sizes_145 nT_withins_145 T_withins_145 T_newest_145 S_count S_premises S_premiseCounts S_conclusions S_order_145 M_images_145 M_path_145 E_level_145 E_steps_145 E_tries_145 E_taken_145 E_first_145 E_goals_145 E_marks_145 E_looked_145 E_underway_145 E_met_145 E_takenHere_145) H → va_D A (wv_86 cI cJ cZ aT aT_heads_145 aT_places_145 aT_olders_145 aT_sizes_145 aT_withins_145 aT_newest aS aS_premises aS_premiseCounts aS_conclusions aS_order aM aM_images aM_path aE aE_goals aE_marks aE_looked aE_underway aE_met aE_takenHere T_count_145 nT_heads_145 T_heads_145 nT_places_145 T_places_145 nT_olders_145 T_olders_145 nT_sizes_145 T_sizes_145 nT_withins_145 T_withins_145 T_newest_145 S_count S_premises S_premiseCounts S_conclusions S_order_145 M_images_145 M_path_145 E_level_145 E_steps_145 E_tries_145 E_taken_145 E_first_145 E_goals_145 E_marks_145 E_looked_145 E_underway_145 E_met_145 E_takenHere_145) → va_S A s.heap H locs → ∀ (ls : Array Slot), lv_has ls 7 [(0, .ref aE), (3, .int x3_145), (4, .int x4_145)] → f_E_ends_B145 S_count S_premises S_premiseCounts S_conclusions T_count_145 nT_heads_145 T_heads_145 nT_places_145 T_places_145 nT_olders_145 T_olders_145 nT_sizes_145 T_sizes_145 nT_withins_145 T_withins_145 T_newest_145 S_order_145 M_images_145 M_path_145 E_level_145 E_steps_145 E_tries_145 E_taken_145 E_first_145 E_goals_145 E_marks_145 E_looked_145 E_underway_145 E_met_145 E_takenHere_145 x3_145 x4_145 = some o → W p l e (headSpec (ws_E_ends) (rm_E_ends (PC nT_heads - PC o.2.2.1) (PS nT_heads - PS o.2.2.1))).room s m ([.ref aE, .int p0, .int p1] : List Value).toArray below meth c H locs (PC nT_heads - PC nT_heads_145) (PS nT_heads - PS nT_heads_145) (MQ below (WQx D vwCl (some (.int o.1)) (fun as => (wv_86 cI cJ cZ aT (as 0) (as 1) (as 2) (as 3) (as 4) aT_newest aS aS_premises aS_premiseCounts aS_conclusions aS_order aM aM_images aM_path aE aE_goals aE_marks aE_looked aE_underway aE_met aE_takenHere o.2.1 o.2.2.1 o.2.2.2.1 o.2.2.2.2.1 o.2.2.2.2.2.1 o.2.2.2.2.2.2.1 o.2.2.2.2.2.2.2.1 o.2.2.2.2.2.2.2.2.1 o.2.2.2.2.2.2.2.2.2.1 o.2.2.2.2.2.2.2.2.2.2.1 o.2.2.2.2.2.2.2.2.2.2.2.1 o.2.2.2.2.2.2.2.2.2.2.2.2.1 S_count S_premises S_premiseCounts S_conclusions o.2.2.2.2.2.2.2.2.2.2.2.2.2.1 o.2.2.2.2.2.2.2.2.2.2.2.2.2.2.1 o.2.2.2.2.2.2.2.2.2.2.2.2.2.2.2.1 o.2.2.2.2.2.2.2.2.2.2.2.2.2.2.2.2.1 o.2.2.2.2.2.2.2.2.2.2.2.2.2.2.2.2.2.1 o.2.2.2.2.2.2.2.2.2.2.2.2.2.2.2.2.2.2.1 o.2.2.2.2.2.2.2.2.2.2.2.2.2.2.2.2.2.2.2.1 o.2.2.2.2.2.2.2.2.2.2.2.2.2.2.2.2.2.2.2.2.1 o.2.2.2.2.2.2.2.2.2.2.2.2.2.2.2.2.2.2.2.2.2.1 o.2.2.2.2.2.2.2.2.2.2.2.2.2.2.2.2.2.2.2.2.2.2.1 o.2.2.2.2.2.2.2.2.2.2.2.2.2.2.2.2.2.2.2.2.2.2.2.1 o.2.2.2.2.2.2.2.2.2.2.2.2.2.2.2.2.2.2.2.2.2.2.2.2.1 o.2.2.2.2.2.2.2.2.2.2.2.2.2.2.2.2.2.2.2.2.2.2.2.2.2.1 o.2.2.2.2.2.2.2.2.2.2.2.2.2.2.2.2.2.2.2.2.2.2.2.2.2.2)) A) ([.ref aE, .int p0, .int p1] : List Value).toArray s (PC nT_heads - PC o.2.2.1) (PS nT_heads - PS o.2.2.1) A) (F0 m 145 ls []) := by
    intro T_count_145 nT_heads_145 T_heads_145 nT_places_145 T_places_145 nT_olders_145 T_olders_145 nT_sizes_145 T_sizes_145 nT_withins_145 T_withins_145 T_newest_145 S_order_145 M_images_145 M_path_145 E_level_145 E_steps_145 E_tries_145 E_taken_145 E_first_145 E_goals_145 E_marks_145 E_looked_145 E_underway_145 E_met_145 E_takenHere_145 x3_145 x4_145 aT_heads_145 aT_places_145 aT_olders_145 aT_sizes_145 aT_withins_145 hG H locs hP hD hS ls hl hf
    have hM : nT_heads_145 ≤ o.2.2.1 := mono_E_ends_B145 hf
    have hC1 : PC o.2.2.1 ≤ PC nT_heads_145 := PC_anti hM
    have hC2 : PC nT_heads_145 ≤ PC nT_heads := PC_anti hG
    have hC3 : PS o.2.2.1 ≤ PS nT_heads_145 := PS_anti hM
    have hC4 : PS nT_heads_145 ≤ PS nT_heads := PS_anti hG
    rw [f_E_ends_B145] at hf
    refine lv_aload_n hx hb d_E_ends_145 rfl (lv_at hl 0 rfl) ?_
    refine va_get (D := D) (ci := 5) (v := .ref aT) (C := RR_E) (T := FF_E) (N := 14) hx hb hts kin_E hown hK.1 hP 15 rfl rfl 0 (by decide) (hts _ k1_135) (fun _ h9 => h9) rfl d_E_ends_146 ?_
    refine lv_iload_n hx hb d_E_ends_149 rfl (lv_at hl 1 rfl) ?_
    obtain ⟨r21, hr21, hf⟩ := of_bd hf
    refine wr_call (ws' := (wv_86 cI cJ cZ aT aT_heads_145 aT_places_145 aT_olders_145 aT_sizes_145 aT_withins_145 aT_newest aS aS_premises aS_premiseCounts aS_conclusions aS_order aM aM_images aM_path aE aE_goals aE_marks aE_looked aE_underway aE_met aE_takenHere r21.1 nT_heads_145 T_heads_145 nT_places_145 T_places_145 nT_olders_145 T_olders_145 nT_sizes_145 T_sizes_145 nT_withins_145 T_withins_145 r21.2 S_count S_premises S_premiseCounts S_conclusions S_order_145 M_images_145 M_path_145 E_level_145 E_steps_145 E_tries_145 E_taken_145 E_first_145 E_goals_145 E_marks_145 E_looked_145 E_underway_145 E_met_145 E_takenHere_145)) (va_runV (As := [.int x3_145]) (rest := []) ⟨hx, hb, hml, hown, hts⟩ (c_T_keepBelow l D cI cJ cZ aT aT_heads_145 aT_places_145 aT_olders_145 aT_sizes_145 aT_withins_145 aT_newest _ T_count_145 nT_heads_145 T_heads_145 nT_places_145 T_places_145 nT_olders_145 T_olders_145 T_newest_145 x3_145 r21 hr21) (bigV 1 hts k3_235 k3_236 k3_237 k1_2 k3_238 rfl rfl hd_T_keepBelow ⟨Nat.le_of_ble_eq_true rfl, Nat.le_of_ble_eq_true rfl⟩) (wr_preV hK hP hD [0, 1, 2, 3, 6] rfl (by decide) rfl 0 rfl rfl rfl) rfl rfl hl.1 rfl (lv_room (Nat.le_of_ble_eq_true rfl)) d_E_ends_150 ⟨by show _ ≤ PC nT_heads - PC o.2.2.1; omega, by show _ ≤ PS nT_heads - PS o.2.2.1; omega⟩) hP hD hS hA [0, 1, 2, 3, 6] [4, 5, 7, 8, 9, 10, 11, 12, 13, 14, 15, 16, 17, 18, 19, 20, 21] rfl rfl (by decide) (by decide) [17, 18, 19, 20, 0, 1, 21, 2, 3, 4, 5, 6, 7, 8, 9, 10, 11, 12, 13, 14, 15, 16] (by decide) rfl (fun H locs hP hD hS => ?_)
    refine lv_iload hx hb d_E_ends_153 (lv_at hl 2 rfl) ?_
    obtain ⟨h22, hf⟩ := of_gd hf
    obtain rfl := Option.some.inj hf
    exact W.zret (v := x4_145) hx hb hr (zb_nar h22) (fun t ht hW => ⟨rfl, fun i => ([aT_heads_145, aT_places_145, aT_olders_145, aT_sizes_145, aT_withins_145] : List Nat).getD i 0, by rw [ht]; exact hP, hD, hS.F ht⟩) hS.2.2 d_E_ends_155
  have hL58 : ∀ (n58 : Nat), ∀ (T_count_58 : Int32) (nT_heads_58 : Nat) (T_heads_58 : (Nat → Int32)) (nT_places_58 : Nat) (T_places_58 : (Nat → Int32)) (nT_olders_58 : Nat) (T_olders_58 : (Nat → Int32)) (nT_sizes_58 : Nat) (T_sizes_58 : (Nat → Int32)) (nT_withins_58 : Nat) (T_withins_58 : (Nat → Int64)) (T_newest_58 : (Nat → Int32)) (S_order_58 : (Nat → Int32)) (M_images_58 : (Nat → Int32)) (M_path_58 : (Nat → Int32)) (E_level_58 : Int32) (E_steps_58 : Int32) (E_tries_58 : Int32) (E_taken_58 : Int32) (E_first_58 : Int32) (E_goals_58 : (Nat → Int32)) (E_marks_58 : (Nat → Int32)) (E_looked_58 : (Nat → Int32)) (E_underway_58 : (Nat → Int32)) (E_met_58 : (Nat → Int32)) (E_takenHere_58 : (Nat → Int32)) (x3_58 : Int32) (x4_58 : Int32) (x5_58 : Int32), ∀ (aT_heads_58 aT_places_58 aT_olders_58 aT_sizes_58 aT_withins_58 : Nat), nT_heads ≤ nT_heads_58 → ∀ (H : Heap) (locs : List Loc), va_P D vwCl (wv_86 cI cJ cZ aT aT_heads_58 aT_places_58 aT_olders_58 aT_sizes_58 aT_withins_58 aT_newest aS aS_premises aS_premiseCounts aS_conclusions aS_order aM aM_images aM_path aE aE_goals aE_marks aE_looked aE_underway aE_met aE_takenHere T_count_58 nT_heads_58 T_heads_58 nT_places_58 T_places_58 nT_olders_58 T_olders_58 nT_sizes_58 T_sizes_58 nT_withins_58 T_withins_58 T_newest_58 S_count S_premises S_premiseCounts S_conclusions S_order_58 M_images_58 M_path_58 E_level_58 E_steps_58 E_tries_58 E_taken_58 E_first_58 E_goals_58 E_marks_58 E_looked_58 E_underway_58 E_met_58 E_takenHere_58) H → va_D A (wv_86 cI cJ cZ aT aT_heads_58 aT_places_58 aT_olders_58 aT_sizes_58 aT_withins_58 aT_newest aS aS_premises aS_premiseCounts aS_conclusions aS_order aM aM_images aM_path aE aE_goals aE_marks aE_looked aE_underway aE_met aE_takenHere T_count_58 nT_heads_58 T_heads_58 nT_places_58 T_places_58 nT_olders_58 T_olders_58 nT_sizes_58 T_sizes_58 nT_withins_58 T_withins_58 T_newest_58 S_count S_premises S_premiseCounts S_conclusions S_order_58 M_images_58 M_path_58 E_level_58 E_steps_58 E_tries_58 E_taken_58 E_first_58 E_goals_58 E_marks_58 E_looked_58 E_underway_58 E_met_58 E_takenHere_58) → va_S A s.heap H locs → ∀ (ls : Array Slot), lv_has ls 7 [(0, .ref aE), (3, .int x3_58), (4, .int x4_58), (5, .int x5_58)] → f_E_ends_L58 S_count S_premises S_premiseCounts S_conclusions n58 T_count_58 nT_heads_58 T_heads_58 nT_places_58 T_places_58 nT_olders_58 T_olders_58 nT_sizes_58 T_sizes_58 nT_withins_58 T_withins_58 T_newest_58 S_order_58 M_images_58 M_path_58 E_level_58 E_steps_58 E_tries_58 E_taken_58 E_first_58 E_goals_58 E_marks_58 E_looked_58 E_underway_58 E_met_58 E_takenHere_58 x3_58 x4_58 x5_58 = some o → W p l e (headSpec (ws_E_ends) (rm_E_ends (PC nT_heads - PC o.2.2.1) (PS nT_heads - PS o.2.2.1))).room s m ([.ref aE, .int p0, .int p1] : List Value).toArray below meth c H locs (PC nT_heads - PC nT_heads_58) (PS nT_heads - PS nT_heads_58) (MQ below (WQx D vwCl (some (.int o.1)) (fun as => (wv_86 cI cJ cZ aT (as 0) (as 1) (as 2) (as 3) (as 4) aT_newest aS aS_premises aS_premiseCounts aS_conclusions aS_order aM aM_images aM_path aE aE_goals aE_marks aE_looked aE_underway aE_met aE_takenHere o.2.1 o.2.2.1 o.2.2.2.1 o.2.2.2.2.1 o.2.2.2.2.2.1 o.2.2.2.2.2.2.1 o.2.2.2.2.2.2.2.1 o.2.2.2.2.2.2.2.2.1 o.2.2.2.2.2.2.2.2.2.1 o.2.2.2.2.2.2.2.2.2.2.1 o.2.2.2.2.2.2.2.2.2.2.2.1 o.2.2.2.2.2.2.2.2.2.2.2.2.1 S_count S_premises S_premiseCounts S_conclusions o.2.2.2.2.2.2.2.2.2.2.2.2.2.1 o.2.2.2.2.2.2.2.2.2.2.2.2.2.2.1 o.2.2.2.2.2.2.2.2.2.2.2.2.2.2.2.1 o.2.2.2.2.2.2.2.2.2.2.2.2.2.2.2.2.1 o.2.2.2.2.2.2.2.2.2.2.2.2.2.2.2.2.2.1 o.2.2.2.2.2.2.2.2.2.2.2.2.2.2.2.2.2.2.1 o.2.2.2.2.2.2.2.2.2.2.2.2.2.2.2.2.2.2.2.1 o.2.2.2.2.2.2.2.2.2.2.2.2.2.2.2.2.2.2.2.2.1 o.2.2.2.2.2.2.2.2.2.2.2.2.2.2.2.2.2.2.2.2.2.1 o.2.2.2.2.2.2.2.2.2.2.2.2.2.2.2.2.2.2.2.2.2.2.1 o.2.2.2.2.2.2.2.2.2.2.2.2.2.2.2.2.2.2.2.2.2.2.2.1 o.2.2.2.2.2.2.2.2.2.2.2.2.2.2.2.2.2.2.2.2.2.2.2.2.1 o.2.2.2.2.2.2.2.2.2.2.2.2.2.2.2.2.2.2.2.2.2.2.2.2.2.1 o.2.2.2.2.2.2.2.2.2.2.2.2.2.2.2.2.2.2.2.2.2.2.2.2.2.2)) A) ([.ref aE, .int p0, .int p1] : List Value).toArray s (PC nT_heads - PC o.2.2.1) (PS nT_heads - PS o.2.2.1) A) (F0 m 58 ls []) := by
    intro n58
    induction n58 with
    | zero =>
      intro T_count_58 nT_heads_58 T_heads_58 nT_places_58 T_places_58 nT_olders_58 T_olders_58 nT_sizes_58 T_sizes_58 nT_withins_58 T_withins_58 T_newest_58 S_order_58 M_images_58 M_path_58 E_level_58 E_steps_58 E_tries_58 E_taken_58 E_first_58 E_goals_58 E_marks_58 E_looked_58 E_underway_58 E_met_58 E_takenHere_58 x3_58 x4_58 x5_58 aT_heads_58 aT_places_58 aT_olders_58 aT_sizes_58 aT_withins_58 hG H locs hP hD hS ls hl hf
      rw [f_E_ends_L58] at hf
      cases hf
    | succ n58 ih58 =>
      intro T_count_58 nT_heads_58 T_heads_58 nT_places_58 T_places_58 nT_olders_58 T_olders_58 nT_sizes_58 T_sizes_58 nT_withins_58 T_withins_58 T_newest_58 S_order_58 M_images_58 M_path_58 E_level_58 E_steps_58 E_tries_58 E_taken_58 E_first_58 E_goals_58 E_marks_58 E_looked_58 E_underway_58 E_met_58 E_takenHere_58 x3_58 x4_58 x5_58 aT_heads_58 aT_places_58 aT_olders_58 aT_sizes_58 aT_withins_58 hG H locs hP hD hS ls hl hf
      have hM : nT_heads_58 ≤ o.2.2.1 := mono_E_ends_L58 hf
      have hC1 : PC o.2.2.1 ≤ PC nT_heads_58 := PC_anti hM
      have hC2 : PC nT_heads_58 ≤ PC nT_heads := PC_anti hG
      have hC3 : PS o.2.2.1 ≤ PS nT_heads_58 := PS_anti hM
      have hC4 : PS nT_heads_58 ≤ PS nT_heads := PS_anti hG
      rw [f_E_ends_L58] at hf
      refine lv_iload hx hb d_E_ends_58 (lv_at hl 3 rfl) ?_
      refine lv_ldc (v := 1000000) hx hb hown (hts _ k3_225) d_E_ends_60 ?_
      refine lv_icmp_ge (tgt := 145) hx hb d_E_ends_62 (by decide) (fun c5 => ?_) (fun c5 => ?_)
      · have hf := ite_t c5 hf
        exact hB145 _ _ _ _ _ _ _ _ _ _ _ _ _ _ _ _ _ _ _ _ _ _ _ _ _ _ _ _ _ _ _ _ _ hG _ _ hP hD hS _ (lv_sub hl [0, 1, 2] rfl) hf
      · have hf := ite_f c5 hf
        refine lv_iload hx hb d_E_ends_65 (lv_at hl 2 rfl) ?_
        refine lv_if_eq (tgt := 145) hx hb d_E_ends_67 (by decide) (fun c6 => ?_) (fun c6 => ?_)
        · have hf := ite_t c6 hf
          exact hB145 _ _ _ _ _ _ _ _ _ _ _ _ _ _ _ _ _ _ _ _ _ _ _ _ _ _ _ _ _ _ _ _ _ hG _ _ hP hD hS _ (lv_sub hl [0, 1, 2] rfl) hf
        · have hf := ite_f c6 hf
          refine lv_aload_n hx hb d_E_ends_70 rfl (lv_at hl 0 rfl) ?_
          refine va_get (D := D) (ci := 5) (v := .int E_level_58) (C := RR_E) (T := FF_E) (N := 14) hx hb hts kin_E hown hK.1 hP 15 rfl rfl 9 (by decide) (hts _ k1_144) (fun _ h9 => h9) rfl d_E_ends_71 ?_
          refine lv_if_lt (tgt := 145) hx hb d_E_ends_74 (by decide) (fun c7 => ?_) (fun c7 => ?_)
          · have hf := ite_t c7 hf
            exact hB145 _ _ _ _ _ _ _ _ _ _ _ _ _ _ _ _ _ _ _ _ _ _ _ _ _ _ _ _ _ _ _ _ _ hG _ _ hP hD hS _ (lv_sub hl [0, 1, 2] rfl) hf
          · have hf := ite_f c7 hf
            refine lv_aload_n hx hb d_E_ends_77 rfl (lv_at hl 0 rfl) ?_
            refine va_get (D := D) (ci := 5) (v := .ref aE_underway) (C := RR_E) (T := FF_E) (N := 14) hx hb hts kin_E hown hK.1 hP 15 rfl rfl 6 (by decide) (hts _ k1_141) (fun _ h9 => h9) rfl d_E_ends_78 ?_
            refine lv_aload_n hx hb d_E_ends_81 rfl (lv_at hl 0 rfl) ?_
            refine va_get (D := D) (ci := 5) (v := .int E_level_58) (C := RR_E) (T := FF_E) (N := 14) hx hb hts kin_E hown hK.1 hP 15 rfl rfl 9 (by decide) (hts _ k1_144) (fun _ h9 => h9) rfl d_E_ends_82 ?_
            obtain ⟨h8, hf⟩ := of_gd hf
            refine va_iald hx hb hK.1 hP 19 0 rfl rfl (ixb_in h8) d_E_ends_85 ?_
            refine lv_topi (fun x9 ex9 => ?_)
            have hf := of_nm ex9 hf
            refine lv_istore (lv' := [(6, .int x9), (0, .ref aE), (3, .int x3_58), (4, .int x4_58), (5, .int x5_58)]) hx hb d_E_ends_86 hl (by decide) rfl (fun ls hl => ?_)
            refine lv_iload hx hb d_E_ends_88 (lv_at hl 0 rfl) ?_
            refine lv_iconst (v := -1) hx hb d_E_ends_90 (by decide) ?_
            refine lv_icmp_ne (tgt := 103) hx hb d_E_ends_91 (by decide) (fun c10 => ?_) (fun c10 => ?_)
            · have hf := ite_f c10 hf
              refine lv_aload_n hx hb d_E_ends_103 rfl (lv_at hl 1 rfl) ?_
              refine va_get (D := D) (ci := 5) (v := .ref aE_met) (C := RR_E) (T := FF_E) (N := 14) hx hb hts kin_E hown hK.1 hP 15 rfl rfl 7 (by decide) (hts _ k1_142) (fun _ h9 => h9) rfl d_E_ends_104 ?_
              refine lv_aload_n hx hb d_E_ends_107 rfl (lv_at hl 1 rfl) ?_
              refine va_get (D := D) (ci := 5) (v := .int E_level_58) (C := RR_E) (T := FF_E) (N := 14) hx hb hts kin_E hown hK.1 hP 15 rfl rfl 9 (by decide) (hts _ k1_144) (fun _ h9 => h9) rfl d_E_ends_108 ?_
              obtain ⟨h11, hf⟩ := of_gd hf
              refine va_iald hx hb hK.1 hP 20 0 rfl rfl (ixb_in h11) d_E_ends_111 ?_
              refine lv_aload_n hx hb d_E_ends_112 rfl (lv_at hl 1 rfl) ?_
              refine va_get (D := D) (ci := 5) (v := .ref aS) (C := RR_E) (T := FF_E) (N := 14) hx hb hts kin_E hown hK.1 hP 15 rfl rfl 1 (by decide) (hts _ k1_136) (fun _ h9 => h9) rfl d_E_ends_113 ?_
              refine lv_iload hx hb d_E_ends_116 (lv_at hl 0 rfl) ?_
              obtain ⟨r12, hr12, hf⟩ := of_bd hf
              refine rd_call (va_runV (As := [.int x9]) (rest := [.int (E_met_58 E_level_58.toNatClampNeg)]) ⟨hx, hb, hml, hown, hts⟩ (c_S_premises l D cI cJ cZ aS aS_premises aS_premiseCounts aS_conclusions aS_order S_count S_premiseCounts x9 r12 hr12) (bigV 1 hts k4_7 k3_84 k3_85 k1_4 k3_86 rfl rfl hd_S_premises ⟨Nat.le_of_ble_eq_true rfl, Nat.le_of_ble_eq_true rfl⟩) (rd_preV hK hP [7, 9] rfl 7 rfl rfl rfl) rfl rfl hl.1 rfl (lv_room (Nat.le_of_ble_eq_true rfl)) d_E_ends_118 ⟨by show _ ≤ PC nT_heads - PC o.2.2.1; omega, by show _ ≤ PS nT_heads - PS o.2.2.1; omega⟩) ?_
              refine lv_icmp_lt (tgt := 133) hx hb d_E_ends_121 (by decide) (fun c13 => ?_) (fun c13 => ?_)
              · have hf := ite_t c13 hf
                refine lv_aload_n hx hb d_E_ends_133 rfl (lv_at hl 1 rfl) ?_
                refine lv_iload hx hb d_E_ends_134 (lv_at hl 0 rfl) ?_
                obtain ⟨r14, hr14, hf⟩ := of_bd hf
                have hN : nT_heads_58 ≤ r14.2.1 := mono_E_enterNewGoal hr14
                have hG0 := hG
                have hG : nT_heads ≤ r14.2.1 := Nat.le_trans hG hN
                have hM : r14.2.1 ≤ o.2.2.1 := by
                  obtain ⟨x16, ex16⟩ : ∃ y : Int32, y = x5_58 + (1 : Int32) := ⟨_, rfl⟩
                  have hf := of_nm ex16 hf
                  have hz := mono_E_ends_L58 hf; omega
                have hD1 : PC r14.2.1 ≤ PC nT_heads_58 := PC_anti hN
                have hD2 : PS r14.2.1 ≤ PS nT_heads_58 := PS_anti hN
                have hD3 : PC o.2.2.1 ≤ PC r14.2.1 := PC_anti hM
                have hD4 : PS o.2.2.1 ≤ PS r14.2.1 := PS_anti hM
                refine wr_callx (ws' := fun as15 => (wv_86 cI cJ cZ aT (as15 0) (as15 1) (as15 2) (as15 3) (as15 4) aT_newest aS aS_premises aS_premiseCounts aS_conclusions aS_order aM aM_images aM_path aE aE_goals aE_marks aE_looked aE_underway aE_met aE_takenHere r14.1 r14.2.1 r14.2.2.1 r14.2.2.2.1 r14.2.2.2.2.1 r14.2.2.2.2.2.1 r14.2.2.2.2.2.2.1 r14.2.2.2.2.2.2.2.1 r14.2.2.2.2.2.2.2.2.1 r14.2.2.2.2.2.2.2.2.2.1 r14.2.2.2.2.2.2.2.2.2.2.1 r14.2.2.2.2.2.2.2.2.2.2.2.1 S_count S_premises S_premiseCounts S_conclusions S_order_58 r14.2.2.2.2.2.2.2.2.2.2.2.2.1 r14.2.2.2.2.2.2.2.2.2.2.2.2.2.1 r14.2.2.2.2.2.2.2.2.2.2.2.2.2.2.1 E_steps_58 E_tries_58 E_taken_58 E_first_58 r14.2.2.2.2.2.2.2.2.2.2.2.2.2.2.2.1 r14.2.2.2.2.2.2.2.2.2.2.2.2.2.2.2.2.1 r14.2.2.2.2.2.2.2.2.2.2.2.2.2.2.2.2.2.1 r14.2.2.2.2.2.2.2.2.2.2.2.2.2.2.2.2.2.2 E_met_58 E_takenHere_58)) (va_runV (As := [.int x9]) (rest := []) ⟨hx, hb, hml, hown, hts⟩ (c_E_enterNewGoal l D cI cJ cZ aT aT_heads_58 aT_places_58 aT_olders_58 aT_sizes_58 aT_withins_58 aT_newest aS aS_premises aS_premiseCounts aS_conclusions aS_order aM aM_images aM_path aE aE_goals aE_marks aE_looked aE_underway aE_met aE_takenHere _ T_count_58 nT_heads_58 T_heads_58 nT_places_58 T_places_58 nT_olders_58 T_olders_58 nT_sizes_58 T_sizes_58 nT_withins_58 T_withins_58 T_newest_58 S_count S_premises S_premiseCounts S_conclusions M_images_58 M_path_58 E_level_58 E_steps_58 E_tries_58 E_taken_58 E_first_58 E_goals_58 E_marks_58 E_looked_58 E_underway_58 E_met_58 x9 r14 hr14) (bigV 1 hts k4_12 k4_14 ks_E_enterNewGoal k1_7 k4_15 rfl rfl hd_E_enterNewGoal ⟨Nat.le_of_ble_eq_true rfl, Nat.le_of_ble_eq_true rfl⟩) (wr_preV hK hP hD [0, 1, 2, 3, 4, 5, 6, 7, 8, 9, 10, 12, 13, 14, 15, 16, 17, 18, 19, 20] rfl (by decide) rfl 15 rfl rfl rfl) rfl rfl hl.1 rfl (lv_room (Nat.le_of_ble_eq_true rfl)) d_E_ends_136 ⟨by show _ ≤ PC nT_heads - PC o.2.2.1; omega, by show _ ≤ PS nT_heads - PS o.2.2.1; omega⟩) hP hD hS hA [0, 1, 2, 3, 4, 5, 6, 7, 8, 9, 10, 12, 13, 14, 15, 16, 17, 18, 19, 20] [11, 21] rfl rfl (by decide) (by decide) [2, 3, 4, 5, 6, 7, 8, 9, 10, 11, 12, 0, 13, 14, 15, 16, 17, 18, 19, 20, 21, 1] (by decide) (fun _ => rfl) (fun as15 H locs hP hD hS => ?_)
                refine W.widen (k := PC nT_heads - PC r14.2.1) (n := PS nT_heads - PS r14.2.1) (by omega) (by omega) ?_
                have hC1 : PC o.2.2.1 ≤ PC r14.2.1 := PC_anti hM
                have hC2 : PC r14.2.1 ≤ PC nT_heads := PC_anti hG
                have hC3 : PS o.2.2.1 ≤ PS r14.2.1 := PS_anti hM
                have hC4 : PS r14.2.1 ≤ PS nT_heads := PS_anti hG
                obtain ⟨x16, ex16⟩ : ∃ y : Int32, y = x5_58 + (1 : Int32) := ⟨_, rfl⟩
                refine lv_iinc (v := x16) (lv' := [(5, .int x16), (6, .int x9), (0, .ref aE), (3, .int x3_58), (4, .int x4_58)]) hx hb d_E_ends_139 hl (k := 4) rfl (by rw [ex16]; rfl) (by decide) rfl (fun ls hl => ?_)
                have hf := of_nm ex16 hf
                refine lv_goto (tgt := 58) hx hb d_E_ends_142 (by decide) ?_
                exact ih58 _ _ _ _ _ _ _ _ _ _ _ _ _ _ _ _ _ _ _ _ _ _ _ _ _ _ _ _ _ _ _ _ _ _ hG _ _ hP hD hS _ (lv_sub hl [2, 3, 4, 0] rfl) hf
              · have hf := ite_f c13 hf
                refine lv_aload_n hx hb d_E_ends_124 rfl (lv_at hl 1 rfl) ?_
                refine lv_iload hx hb d_E_ends_125 (lv_at hl 0 rfl) ?_
                obtain ⟨r17, hr17, hf⟩ := of_bd hf
                refine wr_call (ws' := (wv_86 cI cJ cZ aT aT_heads_58 aT_places_58 aT_olders_58 aT_sizes_58 aT_withins_58 aT_newest aS aS_premises aS_premiseCounts aS_conclusions aS_order aM aM_images aM_path aE aE_goals aE_marks aE_looked aE_underway aE_met aE_takenHere r17.1 nT_heads_58 T_heads_58 nT_places_58 T_places_58 nT_olders_58 T_olders_58 nT_sizes_58 T_sizes_58 nT_withins_58 T_withins_58 r17.2.1 S_count S_premises S_premiseCounts S_conclusions S_order_58 M_images_58 M_path_58 r17.2.2.1 E_steps_58 E_tries_58 r17.2.2.2.1 r17.2.2.2.2.1 E_goals_58 E_marks_58 E_looked_58 E_underway_58 r17.2.2.2.2.2.1 r17.2.2.2.2.2.2)) (va_runV (As := [.int x9]) (rest := []) ⟨hx, hb, hml, hown, hts⟩ (c_E_succeed l D cI cJ cZ aT aT_heads_58 aT_places_58 aT_olders_58 aT_sizes_58 aT_withins_58 aT_newest aS aM aE aE_goals aE_marks aE_looked aE_underway aE_met aE_takenHere _ T_count_58 nT_heads_58 T_heads_58 nT_places_58 T_places_58 nT_olders_58 T_olders_58 T_newest_58 E_level_58 E_steps_58 E_tries_58 E_taken_58 E_first_58 E_marks_58 E_met_58 E_takenHere_58 x9 r17 hr17) (bigV 1 hts k4_8 k4_10 ks_E_succeed k1_7 k4_11 rfl rfl hd_E_succeed ⟨Nat.le_of_ble_eq_true rfl, Nat.le_of_ble_eq_true rfl⟩) (wr_preV hK hP hD [0, 1, 2, 3, 6, 15, 17, 20, 21] rfl (by decide) rfl 15 rfl rfl rfl) rfl rfl hl.1 rfl (lv_room (Nat.le_of_ble_eq_true rfl)) d_E_ends_127 ⟨by show _ ≤ PC nT_heads - PC o.2.2.1; omega, by show _ ≤ PS nT_heads - PS o.2.2.1; omega⟩) hP hD hS hA [0, 1, 2, 3, 6, 15, 17, 20, 21] [4, 5, 7, 8, 9, 10, 11, 12, 13, 14, 16, 18, 19] rfl rfl (by decide) (by decide) [13, 14, 15, 16, 0, 1, 17, 2, 3, 4, 5, 6, 7, 8, 9, 18, 10, 19, 11, 12, 20, 21] (by decide) rfl (fun H locs hP hD hS => ?_)
                refine lv_goto (tgt := 139) hx hb d_E_ends_130 (by decide) ?_
                obtain ⟨x18, ex18⟩ : ∃ y : Int32, y = x5_58 + (1 : Int32) := ⟨_, rfl⟩
                refine lv_iinc (v := x18) (lv' := [(5, .int x18), (6, .int x9), (0, .ref aE), (3, .int x3_58), (4, .int x4_58)]) hx hb d_E_ends_139 hl (k := 4) rfl (by rw [ex18]; rfl) (by decide) rfl (fun ls hl => ?_)
                have hf := of_nm ex18 hf
                refine lv_goto (tgt := 58) hx hb d_E_ends_142 (by decide) ?_
                exact ih58 _ _ _ _ _ _ _ _ _ _ _ _ _ _ _ _ _ _ _ _ _ _ _ _ _ _ _ _ _ _ _ _ _ _ hG _ _ hP hD hS _ (lv_sub hl [2, 3, 4, 0] rfl) hf
            · have hf := ite_t c10 hf
              refine lv_aload_n hx hb d_E_ends_94 rfl (lv_at hl 1 rfl) ?_
              obtain ⟨r19, hr19, hf⟩ := of_bd hf
              refine wr_call (ws' := (wv_86 cI cJ cZ aT aT_heads_58 aT_places_58 aT_olders_58 aT_sizes_58 aT_withins_58 aT_newest aS aS_premises aS_premiseCounts aS_conclusions aS_order aM aM_images aM_path aE aE_goals aE_marks aE_looked aE_underway aE_met aE_takenHere r19.2.1 nT_heads_58 T_heads_58 nT_places_58 T_places_58 nT_olders_58 T_olders_58 nT_sizes_58 T_sizes_58 nT_withins_58 T_withins_58 r19.2.2.1 S_count S_premises S_premiseCounts S_conclusions S_order_58 r19.2.2.2.1 M_path_58 r19.2.2.2.2.1 E_steps_58 r19.2.2.2.2.2.1 E_taken_58 E_first_58 E_goals_58 E_marks_58 r19.2.2.2.2.2.2.1 r19.2.2.2.2.2.2.2.1 r19.2.2.2.2.2.2.2.2.1 r19.2.2.2.2.2.2.2.2.2)) (va_runV (As := []) (rest := []) ⟨hx, hb, hml, hown, hts⟩ (c_E_looks l D cI cJ cZ aT aT_heads_58 aT_places_58 aT_olders_58 aT_sizes_58 aT_withins_58 aT_newest aS aS_premises aS_premiseCounts aS_conclusions aS_order aM aM_images aM_path aE aE_goals aE_marks aE_looked aE_underway aE_met aE_takenHere _ T_count_58 nT_heads_58 T_heads_58 nT_places_58 T_places_58 nT_olders_58 T_olders_58 nT_withins_58 T_withins_58 T_newest_58 S_count S_premises S_premiseCounts S_conclusions S_order_58 M_images_58 E_level_58 E_steps_58 E_tries_58 E_taken_58 E_first_58 E_goals_58 E_marks_58 E_looked_58 E_underway_58 E_met_58 E_takenHere_58 r19 hr19) (bigV 0 hts k3_226 k3_228 ks_E_looks k1_7 k3_229 rfl rfl hd_E_looks ⟨Nat.le_of_ble_eq_true rfl, Nat.le_of_ble_eq_true rfl⟩) (wr_preV hK hP hD [0, 1, 2, 3, 5, 6, 7, 8, 9, 10, 11, 12, 13, 15, 16, 17, 18, 19, 20, 21] rfl (by decide) rfl 15 rfl rfl rfl) rfl rfl hl.1 rfl (lv_room (Nat.le_of_ble_eq_true rfl)) d_E_ends_95 ⟨by show _ ≤ PC nT_heads - PC o.2.2.1; omega, by show _ ≤ PS nT_heads - PS o.2.2.1; omega⟩) hP hD hS hA [0, 1, 2, 3, 5, 6, 7, 8, 9, 10, 11, 12, 13, 15, 16, 17, 18, 19, 20, 21] [4, 14] rfl rfl (by decide) (by decide) [2, 3, 4, 5, 0, 6, 7, 8, 9, 10, 11, 12, 13, 14, 1, 15, 16, 17, 18, 19, 20, 21] (by decide) rfl (fun H locs hP hD hS => ?_)
              refine lv_istore (lv' := [(4, .int r19.1), (6, .int x9), (0, .ref aE), (3, .int x3_58), (5, .int x5_58)]) hx hb d_E_ends_98 hl (by decide) rfl (fun ls hl => ?_)
              refine lv_goto (tgt := 139) hx hb d_E_ends_100 (by decide) ?_
              obtain ⟨x20, ex20⟩ : ∃ y : Int32, y = x5_58 + (1 : Int32) := ⟨_, rfl⟩
              refine lv_iinc (v := x20) (lv' := [(5, .int x20), (4, .int r19.1), (6, .int x9), (0, .ref aE), (3, .int x3_58)]) hx hb d_E_ends_139 hl (k := 4) rfl (by rw [ex20]; rfl) (by decide) rfl (fun ls hl => ?_)
              have hf := of_nm ex20 hf
              refine lv_goto (tgt := 58) hx hb d_E_ends_142 (by decide) ?_
              exact ih58 _ _ _ _ _ _ _ _ _ _ _ _ _ _ _ _ _ _ _ _ _ _ _ _ _ _ _ _ _ _ _ _ _ _ hG _ _ hP hD hS _ (lv_sub hl [3, 4, 1, 0] rfl) hf
  have hG : nT_heads ≤ nT_heads := Nat.le_refl _
  have hM : nT_heads ≤ o.2.2.1 := mono_E_ends hf
  have hC1 : PC o.2.2.1 ≤ PC nT_heads := PC_anti hM
  have hC2 : PC nT_heads ≤ PC nT_heads := PC_anti hG
  have hC3 : PS o.2.2.1 ≤ PS nT_heads := PS_anti hM
  have hC4 : PS nT_heads ≤ PS nT_heads := PS_anti hG
  refine W.widen (k := PC nT_heads - PC nT_heads) (n := PS nT_heads - PS nT_heads) (Nat.zero_le _) (Nat.zero_le _) ?_
  rw [f_E_ends] at hf
  refine lv_aload_n hx hb d_E_ends_0 rfl (lv_at hl 0 rfl) ?_
  refine lv_iload_n hx hb d_E_ends_1 rfl (lv_at hl 2 rfl) ?_
  refine lv_bipush (v := 100) hx hb d_E_ends_2 (by decide) ?_
  refine va_mmin hx hb (hml.trans hl.1.symm) hown (hts _ k3_218) (hts _ k3_6) (hts _ k1_15) (mth_min hts k3_7) (Nat.le_of_ble_eq_true rfl) (Nat.le_of_ble_eq_true rfl) (by show _ ≤ PC nT_heads - PC o.2.2.1; omega) (by show _ ≤ PS nT_heads - PS o.2.2.1; omega) d_E_ends_4 ?_
  refine lv_topi (fun x1 ex1 => ?_)
  have hf := of_nm ex1 hf
  refine va_put (D := D) (ci := 5) (v := .int x1) (ty := .int) (C := RR_E) (T := FF_E) (N := 14) hx hb hts kin_E TT_E tok_E nok_E hown hK.1 hP hD hS 15 rfl rfl 10 (by decide) (hts _ k1_145) (fun _ h9 => h9) rfl (by decide +kernel) rfl rfl (Nat.le_of_ble_eq_true rfl) d_E_ends_7 (fun H locs hP hD hS => ?_)
  have hP : va_P D vwCl (wv_86 cI cJ cZ aT aT_heads aT_places aT_olders aT_sizes aT_withins aT_newest aS aS_premises aS_premiseCounts aS_conclusions aS_order aM aM_images aM_path aE aE_goals aE_marks aE_looked aE_underway aE_met aE_takenHere T_count nT_heads T_heads nT_places T_places nT_olders T_olders nT_sizes T_sizes nT_withins T_withins T_newest S_count S_premises S_premiseCounts S_conclusions S_order M_images M_path E_level x1 E_tries E_taken E_first E_goals E_marks E_looked E_underway E_met E_takenHere) H := hP
  have hD : va_D A (wv_86 cI cJ cZ aT aT_heads aT_places aT_olders aT_sizes aT_withins aT_newest aS aS_premises aS_premiseCounts aS_conclusions aS_order aM aM_images aM_path aE aE_goals aE_marks aE_looked aE_underway aE_met aE_takenHere T_count nT_heads T_heads nT_places T_places nT_olders T_olders nT_sizes T_sizes nT_withins T_withins T_newest S_count S_premises S_premiseCounts S_conclusions S_order M_images M_path E_level x1 E_tries E_taken E_first E_goals E_marks E_looked E_underway E_met E_takenHere) := hD
  refine lv_aload_n hx hb d_E_ends_10 rfl (lv_at hl 0 rfl) ?_
  refine lv_iconst (v := -1) hx hb d_E_ends_11 (by decide) ?_
  refine va_put (D := D) (ci := 5) (v := .int (-1 : Int32)) (ty := .int) (C := RR_E) (T := FF_E) (N := 14) hx hb hts kin_E TT_E tok_E nok_E hown hK.1 hP hD hS 15 rfl rfl 9 (by decide) (hts _ k1_144) (fun _ h9 => h9) rfl (by decide +kernel) rfl rfl (Nat.le_of_ble_eq_true rfl) d_E_ends_12 (fun H locs hP hD hS => ?_)
  have hP : va_P D vwCl (wv_86 cI cJ cZ aT aT_heads aT_places aT_olders aT_sizes aT_withins aT_newest aS aS_premises aS_premiseCounts aS_conclusions aS_order aM aM_images aM_path aE aE_goals aE_marks aE_looked aE_underway aE_met aE_takenHere T_count nT_heads T_heads nT_places T_places nT_olders T_olders nT_sizes T_sizes nT_withins T_withins T_newest S_count S_premises S_premiseCounts S_conclusions S_order M_images M_path (-1 : Int32) x1 E_tries E_taken E_first E_goals E_marks E_looked E_underway E_met E_takenHere) H := hP
  have hD : va_D A (wv_86 cI cJ cZ aT aT_heads aT_places aT_olders aT_sizes aT_withins aT_newest aS aS_premises aS_premiseCounts aS_conclusions aS_order aM aM_images aM_path aE aE_goals aE_marks aE_looked aE_underway aE_met aE_takenHere T_count nT_heads T_heads nT_places T_places nT_olders T_olders nT_sizes T_sizes nT_withins T_withins T_newest S_count S_premises S_premiseCounts S_conclusions S_order M_images M_path (-1 : Int32) x1 E_tries E_taken E_first E_goals E_marks E_looked E_underway E_met E_takenHere) := hD
  refine lv_aload_n hx hb d_E_ends_15 rfl (lv_at hl 0 rfl) ?_
  refine lv_iconst (v := 0) hx hb d_E_ends_16 (by decide) ?_
  refine va_put (D := D) (ci := 5) (v := .int (0 : Int32)) (ty := .int) (C := RR_E) (T := FF_E) (N := 14) hx hb hts kin_E TT_E tok_E nok_E hown hK.1 hP hD hS 15 rfl rfl 11 (by decide) (hts _ k1_146) (fun _ h9 => h9) rfl (by decide +kernel) rfl rfl (Nat.le_of_ble_eq_true rfl) d_E_ends_17 (fun H locs hP hD hS => ?_)
  have hP : va_P D vwCl (wv_86 cI cJ cZ aT aT_heads aT_places aT_olders aT_sizes aT_withins aT_newest aS aS_premises aS_premiseCounts aS_conclusions aS_order aM aM_images aM_path aE aE_goals aE_marks aE_looked aE_underway aE_met aE_takenHere T_count nT_heads T_heads nT_places T_places nT_olders T_olders nT_sizes T_sizes nT_withins T_withins T_newest S_count S_premises S_premiseCounts S_conclusions S_order M_images M_path (-1 : Int32) x1 (0 : Int32) E_taken E_first E_goals E_marks E_looked E_underway E_met E_takenHere) H := hP
  have hD : va_D A (wv_86 cI cJ cZ aT aT_heads aT_places aT_olders aT_sizes aT_withins aT_newest aS aS_premises aS_premiseCounts aS_conclusions aS_order aM aM_images aM_path aE aE_goals aE_marks aE_looked aE_underway aE_met aE_takenHere T_count nT_heads T_heads nT_places T_places nT_olders T_olders nT_sizes T_sizes nT_withins T_withins T_newest S_count S_premises S_premiseCounts S_conclusions S_order M_images M_path (-1 : Int32) x1 (0 : Int32) E_taken E_first E_goals E_marks E_looked E_underway E_met E_takenHere) := hD
  refine lv_aload_n hx hb d_E_ends_20 rfl (lv_at hl 0 rfl) ?_
  refine lv_iconst (v := 0) hx hb d_E_ends_21 (by decide) ?_
  refine va_put (D := D) (ci := 5) (v := .int (0 : Int32)) (ty := .int) (C := RR_E) (T := FF_E) (N := 14) hx hb hts kin_E TT_E tok_E nok_E hown hK.1 hP hD hS 15 rfl rfl 12 (by decide) (hts _ k1_147) (fun _ h9 => h9) rfl (by decide +kernel) rfl rfl (Nat.le_of_ble_eq_true rfl) d_E_ends_22 (fun H locs hP hD hS => ?_)
  have hP : va_P D vwCl (wv_86 cI cJ cZ aT aT_heads aT_places aT_olders aT_sizes aT_withins aT_newest aS aS_premises aS_premiseCounts aS_conclusions aS_order aM aM_images aM_path aE aE_goals aE_marks aE_looked aE_underway aE_met aE_takenHere T_count nT_heads T_heads nT_places T_places nT_olders T_olders nT_sizes T_sizes nT_withins T_withins T_newest S_count S_premises S_premiseCounts S_conclusions S_order M_images M_path (-1 : Int32) x1 (0 : Int32) (0 : Int32) E_first E_goals E_marks E_looked E_underway E_met E_takenHere) H := hP
  have hD : va_D A (wv_86 cI cJ cZ aT aT_heads aT_places aT_olders aT_sizes aT_withins aT_newest aS aS_premises aS_premiseCounts aS_conclusions aS_order aM aM_images aM_path aE aE_goals aE_marks aE_looked aE_underway aE_met aE_takenHere T_count nT_heads T_heads nT_places T_places nT_olders T_olders nT_sizes T_sizes nT_withins T_withins T_newest S_count S_premises S_premiseCounts S_conclusions S_order M_images M_path (-1 : Int32) x1 (0 : Int32) (0 : Int32) E_first E_goals E_marks E_looked E_underway E_met E_takenHere) := hD
  refine lv_aload_n hx hb d_E_ends_25 rfl (lv_at hl 0 rfl) ?_
  refine lv_iconst (v := -1) hx hb d_E_ends_26 (by decide) ?_
  refine va_put (D := D) (ci := 5) (v := .int (-1 : Int32)) (ty := .int) (C := RR_E) (T := FF_E) (N := 14) hx hb hts kin_E TT_E tok_E nok_E hown hK.1 hP hD hS 15 rfl rfl 13 (by decide) (hts _ k1_148) (fun _ h9 => h9) rfl (by decide +kernel) rfl rfl (Nat.le_of_ble_eq_true rfl) d_E_ends_27 (fun H locs hP hD hS => ?_)
  have hP : va_P D vwCl (wv_86 cI cJ cZ aT aT_heads aT_places aT_olders aT_sizes aT_withins aT_newest aS aS_premises aS_premiseCounts aS_conclusions aS_order aM aM_images aM_path aE aE_goals aE_marks aE_looked aE_underway aE_met aE_takenHere T_count nT_heads T_heads nT_places T_places nT_olders T_olders nT_sizes T_sizes nT_withins T_withins T_newest S_count S_premises S_premiseCounts S_conclusions S_order M_images M_path (-1 : Int32) x1 (0 : Int32) (0 : Int32) (-1 : Int32) E_goals E_marks E_looked E_underway E_met E_takenHere) H := hP
  have hD : va_D A (wv_86 cI cJ cZ aT aT_heads aT_places aT_olders aT_sizes aT_withins aT_newest aS aS_premises aS_premiseCounts aS_conclusions aS_order aM aM_images aM_path aE aE_goals aE_marks aE_looked aE_underway aE_met aE_takenHere T_count nT_heads T_heads nT_places T_places nT_olders T_olders nT_sizes T_sizes nT_withins T_withins T_newest S_count S_premises S_premiseCounts S_conclusions S_order M_images M_path (-1 : Int32) x1 (0 : Int32) (0 : Int32) (-1 : Int32) E_goals E_marks E_looked E_underway E_met E_takenHere) := hD
  refine lv_aload_n hx hb d_E_ends_30 rfl (lv_at hl 0 rfl) ?_
  refine va_get (D := D) (ci := 5) (v := .ref aS) (C := RR_E) (T := FF_E) (N := 14) hx hb hts kin_E hown hK.1 hP 15 rfl rfl 1 (by decide) (hts _ k1_136) (fun _ h9 => h9) rfl d_E_ends_31 ?_
  obtain ⟨r2, hr2, hf⟩ := of_bd hf
  refine wr_call (ws' := (wv_86 cI cJ cZ aT aT_heads aT_places aT_olders aT_sizes aT_withins aT_newest aS aS_premises aS_premiseCounts aS_conclusions aS_order aM aM_images aM_path aE aE_goals aE_marks aE_looked aE_underway aE_met aE_takenHere T_count nT_heads T_heads nT_places T_places nT_olders T_olders nT_sizes T_sizes nT_withins T_withins T_newest S_count S_premises S_premiseCounts S_conclusions r2 M_images M_path (-1 : Int32) x1 (0 : Int32) (0 : Int32) (-1 : Int32) E_goals E_marks E_looked E_underway E_met E_takenHere)) (va_runV (As := []) (rest := []) ⟨hx, hb, hml, hown, hts⟩ (c_S_putInOrder l D cI cJ cZ aS aS_premises aS_premiseCounts aS_conclusions aS_order _ S_count S_premiseCounts S_order r2 hr2) (bigV 0 hts k3_219 k3_121 k3_122 k1_4 k3_123 rfl rfl hd_S_putInOrder ⟨Nat.le_of_ble_eq_true rfl, Nat.le_of_ble_eq_true rfl⟩) (wr_preV hK hP hD [7, 9, 11] rfl (by decide) rfl 7 rfl rfl rfl) rfl rfl hl.1 rfl (lv_room (Nat.le_of_ble_eq_true rfl)) d_E_ends_34 ⟨by show _ ≤ PC nT_heads - PC o.2.2.1; omega, by show _ ≤ PS nT_heads - PS o.2.2.1; omega⟩) hP hD hS hA [7, 9, 11] [0, 1, 2, 3, 4, 5, 6, 8, 10, 12, 13, 14, 15, 16, 17, 18, 19, 20, 21] rfl rfl (by decide) (by decide) [0, 1, 2, 3, 4, 5, 6, 19, 7, 20, 8, 21, 9, 10, 11, 12, 13, 14, 15, 16, 17, 18] (by decide) rfl (fun H locs hP hD hS => ?_)
  refine lv_aload_n hx hb d_E_ends_37 rfl (lv_at hl 0 rfl) ?_
  refine va_get (D := D) (ci := 5) (v := .ref aT) (C := RR_E) (T := FF_E) (N := 14) hx hb hts kin_E hown hK.1 hP 15 rfl rfl 0 (by decide) (hts _ k1_135) (fun _ h9 => h9) rfl d_E_ends_38 ?_
  obtain ⟨r3, hr3, hf⟩ := of_bd hf
  refine rd_call (va_runV (As := []) (rest := []) ⟨hx, hb, hml, hown, hts⟩ (c_T_count l D cI cJ cZ aT aT_heads aT_places aT_olders aT_sizes aT_withins aT_newest T_count r3 hr3) (bigV 0 hts k3_220 k2_126 k2_127 k1_2 k2_128 rfl rfl hd_T_count ⟨Nat.le_of_ble_eq_true rfl, Nat.le_of_ble_eq_true rfl⟩) (rd_preV hK hP [0] rfl 0 rfl rfl rfl) rfl rfl hl.1 rfl (lv_room (Nat.le_of_ble_eq_true rfl)) d_E_ends_41 ⟨by show _ ≤ PC nT_heads - PC o.2.2.1; omega, by show _ ≤ PS nT_heads - PS o.2.2.1; omega⟩) ?_
  refine lv_istore_n (lv' := [(3, .int r3), (0, .ref aE), (1, .int p0), (2, .int p1)]) hx hb d_E_ends_44 rfl hl (by decide) rfl (fun ls hl => ?_)
  refine lv_aload_n hx hb d_E_ends_45 rfl (lv_at hl 1 rfl) ?_
  refine lv_iload_n hx hb d_E_ends_46 rfl (lv_at hl 2 rfl) ?_
  refine lv_iload_n hx hb d_E_ends_47 rfl (lv_at hl 0 rfl) ?_
  obtain ⟨r4, hr4, hf⟩ := of_bd hf
  refine wr_call (ws' := (wv_86 cI cJ cZ aT aT_heads aT_places aT_olders aT_sizes aT_withins aT_newest aS aS_premises aS_premiseCounts aS_conclusions aS_order aM aM_images aM_path aE aE_goals aE_marks aE_looked aE_underway aE_met aE_takenHere T_count nT_heads T_heads nT_places T_places nT_olders T_olders nT_sizes T_sizes nT_withins T_withins T_newest S_count S_premises S_premiseCounts S_conclusions r2 M_images M_path r4.2.1 x1 (0 : Int32) (0 : Int32) (-1 : Int32) r4.2.2.1 r4.2.2.2.1 r4.2.2.2.2.1 r4.2.2.2.2.2 E_met E_takenHere)) (va_runV (As := [.int p0, .int r3]) (rest := []) ⟨hx, hb, hml, hown, hts⟩ (c_E_enter l D cI cJ cZ aT aS aM aE aE_goals aE_marks aE_looked aE_underway aE_met aE_takenHere _ (-1 : Int32) x1 (0 : Int32) (0 : Int32) (-1 : Int32) E_goals E_marks E_looked E_underway p0 r3 r4 hr4) (bigV 2 hts k3_221 k3_223 ks_E_enter k1_7 k3_224 rfl rfl hd_E_enter ⟨Nat.le_of_ble_eq_true rfl, Nat.le_of_ble_eq_true rfl⟩) (wr_preV hK hP hD [15, 16, 17, 18, 19] rfl (by decide) rfl 15 rfl rfl rfl) rfl rfl hl.1 rfl (lv_room (Nat.le_of_ble_eq_true rfl)) d_E_ends_48 ⟨by show _ ≤ PC nT_heads - PC o.2.2.1; omega, by show _ ≤ PS nT_heads - PS o.2.2.1; omega⟩) hP hD hS hA [15, 16, 17, 18, 19] [0, 1, 2, 3, 4, 5, 6, 7, 8, 9, 10, 11, 12, 13, 14, 20, 21] rfl rfl (by decide) (by decide) [0, 1, 2, 3, 4, 5, 6, 7, 8, 9, 10, 11, 12, 13, 14, 17, 18, 19, 20, 21, 15, 16] (by decide) rfl (fun H locs hP hD hS => ?_)
  refine lv_pop hx hb d_E_ends_51 rfl ?_
  refine lv_iconst (v := 1) hx hb d_E_ends_52 (by decide) ?_
  refine lv_istore (lv' := [(4, .int (1 : Int32)), (3, .int r3), (0, .ref aE), (1, .int p0), (2, .int p1)]) hx hb d_E_ends_53 hl (by decide) rfl (fun ls hl => ?_)
  refine lv_iconst (v := 0) hx hb d_E_ends_55 (by decide) ?_
  refine lv_istore (lv' := [(5, .int (0 : Int32)), (4, .int (1 : Int32)), (3, .int r3), (0, .ref aE), (1, .int p0), (2, .int p1)]) hx hb d_E_ends_56 hl (by decide) rfl (fun ls hl => ?_)
  exact hL58 FU _ _ _ _ _ _ _ _ _ _ _ _ _ _ _ _ _ _ _ _ _ _ _ _ _ _ _ _ _ _ _ _ _ _ hG _ _ hP hD hS _ (lv_sub hl [3, 2, 1, 0] rfl) hf
