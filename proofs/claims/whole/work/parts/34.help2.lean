abbrev b_L_follows : ByteArray := method_11_code
abbrev y_L_follows : MethodName := ⟨"ShapeSearchLaw", "follows", "(LShapeSearch;II[J)I"⟩
abbrev ws_L_follows : List Cond := .codeWith y_L_follows b_L_follows 5 (some .int) [(0, 17, 20, 13), (0, 17, 24, 15), (0, 17, 28, 48)] :: BG
theorem hd_L_follows : y_L_follows.cls ≠ "java/lang/invoke/MethodHandle" ∧ y_L_follows.cls ≠ "java/lang/invoke/VarHandle" ∧ (parseMethodDescriptor y_L_follows.desc).map (fun d => d.parameters.length) = some 4 := by decide +kernel
theorem d_L_follows_0 : decode b_L_follows 0 = .ok (.aload_n 3, 1) := by decide +kernel
theorem d_L_follows_1 : decode b_L_follows 1 = .ok (.iconst 0, 1) := by decide +kernel
theorem d_L_follows_2 : decode b_L_follows 2 = .ok (.aload_n 0, 1) := by decide +kernel
theorem d_L_follows_3 : decode b_L_follows 3 = .ok (.iload_n 1, 1) := by decide +kernel
theorem d_L_follows_4 : decode b_L_follows 4 = .ok (.iload_n 2, 1) := by decide +kernel
theorem d_L_follows_5 : decode b_L_follows 5 = .ok (.invokevirtual 44, 3) := by decide +kernel
theorem d_L_follows_8 : decode b_L_follows 8 = .ok (.ifCond .eq 7, 3) := by decide +kernel
theorem d_L_follows_11 : decode b_L_follows 11 = .ok (.lconst 1, 1) := by decide +kernel
theorem d_L_follows_12 : decode b_L_follows 12 = .ok (.goto 4, 3) := by decide +kernel
theorem d_L_follows_15 : decode b_L_follows 15 = .ok (.lconst 0, 1) := by decide +kernel
theorem d_L_follows_16 : decode b_L_follows 16 = .ok (.lastore, 1) := by decide +kernel
theorem d_L_follows_17 : decode b_L_follows 17 = .ok (.goto 15, 3) := by decide +kernel
theorem d_L_follows_20 : decode b_L_follows 20 = .ok (.astore 4, 2) := by decide +kernel
theorem d_L_follows_22 : decode b_L_follows 22 = .ok (.iconst 1, 1) := by decide +kernel
theorem d_L_follows_23 : decode b_L_follows 23 = .ok (.ireturn, 1) := by decide +kernel
theorem d_L_follows_24 : decode b_L_follows 24 = .ok (.astore 4, 2) := by decide +kernel
theorem d_L_follows_26 : decode b_L_follows 26 = .ok (.iconst 2, 1) := by decide +kernel
theorem d_L_follows_27 : decode b_L_follows 27 = .ok (.ireturn, 1) := by decide +kernel
theorem d_L_follows_28 : decode b_L_follows 28 = .ok (.astore 4, 2) := by decide +kernel
theorem d_L_follows_30 : decode b_L_follows 30 = .ok (.iconst 3, 1) := by decide +kernel
theorem d_L_follows_31 : decode b_L_follows 31 = .ok (.ireturn, 1) := by decide +kernel
theorem d_L_follows_32 : decode b_L_follows 32 = .ok (.iconst 0, 1) := by decide +kernel
theorem d_L_follows_33 : decode b_L_follows 33 = .ok (.ireturn, 1) := by decide +kernel
theorem k3_210 : Cond.methodLink "ShapeSearchLaw" 44 ⟨"ShapeSearch", "follows", "(II)Z"⟩ ∈ BG := List.mem_filter.mpr ⟨in_3 (List.mem_of_getElem? (i := 210) rfl), rfl⟩
theorem k3_213 : Cond.code ⟨"ShapeSearch", "follows", "(II)Z"⟩ prog_1_method_13_code 3 (some .boolean) ∈ BG := List.mem_filter.mpr ⟨in_3 (List.mem_of_getElem? (i := 213) rfl), rfl⟩
theorem k3_211 : Cond.instanceMethod ⟨"ShapeSearch", "follows", "(II)Z"⟩ ∈ BG := List.mem_filter.mpr ⟨in_3 (List.mem_of_getElem? (i := 211) rfl), rfl⟩
theorem k3_212 : Cond.selects "ShapeSearch" ⟨"ShapeSearch", "follows", "(II)Z"⟩ ⟨"ShapeSearch", "follows", "(II)Z"⟩ ∈ BG := List.mem_filter.mpr ⟨in_3 (List.mem_of_getElem? (i := 212) rfl), rfl⟩
theorem k3_209 : Cond.classLink "ShapeSearchLaw" 48 "java/lang/UnsupportedOperationException" ∈ BG := List.mem_filter.mpr ⟨in_3 (List.mem_of_getElem? (i := 209) rfl), rfl⟩
abbrev wv_104 (cI cJ cZ : ClassId) (aX aX_arities aT aT_heads aT_places aT_olders aT_sizes aT_withins aT_newest aS aS_premises aS_premiseCounts aS_conclusions aS_order aM aM_images aM_path aF aE aE_goals aE_marks aE_looked aE_underway aE_met aE_takenHere aH aO_out : Nat) (X_namesUsed : Int32) (T_count : Int32) (nT_heads : Nat) (T_heads : (Nat → Int32)) (nT_places : Nat) (T_places : (Nat → Int32)) (nT_olders : Nat) (T_olders : (Nat → Int32)) (nT_sizes : Nat) (T_sizes : (Nat → Int32)) (nT_withins : Nat) (T_withins : (Nat → Int64)) (T_newest : (Nat → Int32)) (S_count : Int32) (S_premises : (Nat → Int32)) (S_premiseCounts : (Nat → Int32)) (S_conclusions : (Nat → Int32)) (S_order : (Nat → Int32)) (M_images : (Nat → Int32)) (M_path : (Nat → Int32)) (E_level : Int32) (E_steps : Int32) (E_tries : Int32) (E_taken : Int32) (E_first : Int32) (E_goals : (Nat → Int32)) (E_marks : (Nat → Int32)) (E_looked : (Nat → Int32)) (E_underway : (Nat → Int32)) (E_met : (Nat → Int32)) (E_takenHere : (Nat → Int32)) (O_out : (Nat → Int64)) : va_W := [(aX, .inr (0, [.ref aT, .ref aX_arities, .int X_namesUsed, .ref aS, .ref aM, .ref aF, .ref aE, .ref aH])), (aT, .inr (1, [.ref aT_heads, .ref aT_places, .ref aT_olders, .ref aT_sizes, .ref aT_withins, .ref aT_newest, .int T_count])), (aT_heads, .inl (cI, nT_heads, .inl T_heads)), (aT_places, .inl (cI, nT_places, .inl T_places)), (aT_olders, .inl (cI, nT_olders, .inl T_olders)), (aT_sizes, .inl (cI, nT_sizes, .inl T_sizes)), (aT_withins, .inl (cJ, nT_withins, .inr (.inl T_withins))), (aT_newest, .inl (cI, 256, .inl T_newest)), (aS, .inr (2, [.ref aS_premises, .ref aS_premiseCounts, .ref aS_conclusions, .ref aS_order, .int S_count])), (aS_premises, .inl (cI, 120, .inl S_premises)), (aS_premiseCounts, .inl (cI, 30, .inl S_premiseCounts)), (aS_conclusions, .inl (cI, 30, .inl S_conclusions)), (aS_order, .inl (cI, 30, .inl S_order)), (aM, .inr (3, [.ref aT, .ref aM_images, .ref aM_path])), (aM_images, .inl (cI, 100, .inl M_images)), (aM_path, .inl (cI, 100, .inl M_path)), (aE, .inr (5, [.ref aT, .ref aS, .ref aM, .ref aE_goals, .ref aE_marks, .ref aE_looked, .ref aE_underway, .ref aE_met, .ref aE_takenHere, .int E_level, .int E_steps, .int E_tries, .int E_taken, .int E_first])), (aE_goals, .inl (cI, 100, .inl E_goals)), (aE_marks, .inl (cI, 100, .inl E_marks)), (aE_looked, .inl (cI, 100, .inl E_looked)), (aE_underway, .inl (cI, 100, .inl E_underway)), (aE_met, .inl (cI, 100, .inl E_met)), (aE_takenHere, .inl (cI, 100, .inl E_takenHere)), (aO_out, .inl (cJ, 1, .inr (.inl O_out)))]
def f_L_follows (T_count : Int32) (nT_heads : Nat) (T_heads : (Nat → Int32)) (nT_places : Nat) (T_places : (Nat → Int32)) (nT_olders : Nat) (T_olders : (Nat → Int32)) (nT_sizes : Nat) (T_sizes : (Nat → Int32)) (nT_withins : Nat) (T_withins : (Nat → Int64)) (T_newest : (Nat → Int32)) (S_count : Int32) (S_premises : (Nat → Int32)) (S_premiseCounts : (Nat → Int32)) (S_conclusions : (Nat → Int32)) (S_order : (Nat → Int32)) (M_images : (Nat → Int32)) (M_path : (Nat → Int32)) (E_level : Int32) (E_steps : Int32) (E_tries : Int32) (E_taken : Int32) (E_first : Int32) (E_goals : (Nat → Int32)) (E_marks : (Nat → Int32)) (E_looked : (Nat → Int32)) (E_underway : (Nat → Int32)) (E_met : (Nat → Int32)) (E_takenHere : (Nat → Int32)) (O_out : (Nat → Int64)) (p0 : Int32) (p1 : Int32) : Option (Int32 × Int32 × Nat × (Nat → Int32) × Nat × (Nat → Int32) × Nat × (Nat → Int32) × Nat × (Nat → Int32) × Nat × (Nat → Int64) × (Nat → Int32) × (Nat → Int32) × (Nat → Int32) × (Nat → Int32) × Int32 × Int32 × Int32 × Int32 × Int32 × (Nat → Int32) × (Nat → Int32) × (Nat → Int32) × (Nat → Int32) × (Nat → Int32) × (Nat → Int32) × (Nat → Int64)) :=
  (f_X_follows T_count nT_heads T_heads nT_places T_places nT_olders T_olders nT_sizes T_sizes nT_withins T_withins T_newest S_count S_premises S_premiseCounts S_conclusions S_order M_images M_path E_level E_steps E_tries E_taken E_first E_goals E_marks E_looked E_underway E_met E_takenHere p0 p1).bind fun r1 =>
  if r1.1 = 0 then
    if r1.2.1 = 0 then
      gd (ixb (0 : Int32) 1) <| nm (vp_updL O_out (0 : Int32).toNatClampNeg (0 : Int64)) fun g5 =>
      some ((0 : Int32), r1.2.2.1, r1.2.2.2.1, r1.2.2.2.2.1, r1.2.2.2.2.2.1, r1.2.2.2.2.2.2.1, r1.2.2.2.2.2.2.2.1, r1.2.2.2.2.2.2.2.2.1, r1.2.2.2.2.2.2.2.2.2.1, r1.2.2.2.2.2.2.2.2.2.2.1, r1.2.2.2.2.2.2.2.2.2.2.2.1, r1.2.2.2.2.2.2.2.2.2.2.2.2.1, r1.2.2.2.2.2.2.2.2.2.2.2.2.2.1, r1.2.2.2.2.2.2.2.2.2.2.2.2.2.2.1, r1.2.2.2.2.2.2.2.2.2.2.2.2.2.2.2.1, r1.2.2.2.2.2.2.2.2.2.2.2.2.2.2.2.2.1, r1.2.2.2.2.2.2.2.2.2.2.2.2.2.2.2.2.2.1, r1.2.2.2.2.2.2.2.2.2.2.2.2.2.2.2.2.2.2.1, r1.2.2.2.2.2.2.2.2.2.2.2.2.2.2.2.2.2.2.2.1, r1.2.2.2.2.2.2.2.2.2.2.2.2.2.2.2.2.2.2.2.2.1, r1.2.2.2.2.2.2.2.2.2.2.2.2.2.2.2.2.2.2.2.2.2.1, r1.2.2.2.2.2.2.2.2.2.2.2.2.2.2.2.2.2.2.2.2.2.2.1, r1.2.2.2.2.2.2.2.2.2.2.2.2.2.2.2.2.2.2.2.2.2.2.2.1, r1.2.2.2.2.2.2.2.2.2.2.2.2.2.2.2.2.2.2.2.2.2.2.2.2.1, r1.2.2.2.2.2.2.2.2.2.2.2.2.2.2.2.2.2.2.2.2.2.2.2.2.2.1, r1.2.2.2.2.2.2.2.2.2.2.2.2.2.2.2.2.2.2.2.2.2.2.2.2.2.2.1, r1.2.2.2.2.2.2.2.2.2.2.2.2.2.2.2.2.2.2.2.2.2.2.2.2.2.2.2, g5)
    else
      gd (ixb (0 : Int32) 1) <| nm (vp_updL O_out (0 : Int32).toNatClampNeg (1 : Int64)) fun g7 =>
      some ((0 : Int32), r1.2.2.1, r1.2.2.2.1, r1.2.2.2.2.1, r1.2.2.2.2.2.1, r1.2.2.2.2.2.2.1, r1.2.2.2.2.2.2.2.1, r1.2.2.2.2.2.2.2.2.1, r1.2.2.2.2.2.2.2.2.2.1, r1.2.2.2.2.2.2.2.2.2.2.1, r1.2.2.2.2.2.2.2.2.2.2.2.1, r1.2.2.2.2.2.2.2.2.2.2.2.2.1, r1.2.2.2.2.2.2.2.2.2.2.2.2.2.1, r1.2.2.2.2.2.2.2.2.2.2.2.2.2.2.1, r1.2.2.2.2.2.2.2.2.2.2.2.2.2.2.2.1, r1.2.2.2.2.2.2.2.2.2.2.2.2.2.2.2.2.1, r1.2.2.2.2.2.2.2.2.2.2.2.2.2.2.2.2.2.1, r1.2.2.2.2.2.2.2.2.2.2.2.2.2.2.2.2.2.2.1, r1.2.2.2.2.2.2.2.2.2.2.2.2.2.2.2.2.2.2.2.1, r1.2.2.2.2.2.2.2.2.2.2.2.2.2.2.2.2.2.2.2.2.1, r1.2.2.2.2.2.2.2.2.2.2.2.2.2.2.2.2.2.2.2.2.2.1, r1.2.2.2.2.2.2.2.2.2.2.2.2.2.2.2.2.2.2.2.2.2.2.1, r1.2.2.2.2.2.2.2.2.2.2.2.2.2.2.2.2.2.2.2.2.2.2.2.1, r1.2.2.2.2.2.2.2.2.2.2.2.2.2.2.2.2.2.2.2.2.2.2.2.2.1, r1.2.2.2.2.2.2.2.2.2.2.2.2.2.2.2.2.2.2.2.2.2.2.2.2.2.1, r1.2.2.2.2.2.2.2.2.2.2.2.2.2.2.2.2.2.2.2.2.2.2.2.2.2.2.1, r1.2.2.2.2.2.2.2.2.2.2.2.2.2.2.2.2.2.2.2.2.2.2.2.2.2.2.2, g7)
  else
    if r1.1 = 1 then some ((1 : Int32), r1.2.2.1, r1.2.2.2.1, r1.2.2.2.2.1, r1.2.2.2.2.2.1, r1.2.2.2.2.2.2.1, r1.2.2.2.2.2.2.2.1, r1.2.2.2.2.2.2.2.2.1, r1.2.2.2.2.2.2.2.2.2.1, r1.2.2.2.2.2.2.2.2.2.2.1, r1.2.2.2.2.2.2.2.2.2.2.2.1, r1.2.2.2.2.2.2.2.2.2.2.2.2.1, r1.2.2.2.2.2.2.2.2.2.2.2.2.2.1, r1.2.2.2.2.2.2.2.2.2.2.2.2.2.2.1, r1.2.2.2.2.2.2.2.2.2.2.2.2.2.2.2.1, r1.2.2.2.2.2.2.2.2.2.2.2.2.2.2.2.2.1, r1.2.2.2.2.2.2.2.2.2.2.2.2.2.2.2.2.2.1, r1.2.2.2.2.2.2.2.2.2.2.2.2.2.2.2.2.2.2.1, r1.2.2.2.2.2.2.2.2.2.2.2.2.2.2.2.2.2.2.2.1, r1.2.2.2.2.2.2.2.2.2.2.2.2.2.2.2.2.2.2.2.2.1, r1.2.2.2.2.2.2.2.2.2.2.2.2.2.2.2.2.2.2.2.2.2.1, r1.2.2.2.2.2.2.2.2.2.2.2.2.2.2.2.2.2.2.2.2.2.2.1, r1.2.2.2.2.2.2.2.2.2.2.2.2.2.2.2.2.2.2.2.2.2.2.2.1, r1.2.2.2.2.2.2.2.2.2.2.2.2.2.2.2.2.2.2.2.2.2.2.2.2.1, r1.2.2.2.2.2.2.2.2.2.2.2.2.2.2.2.2.2.2.2.2.2.2.2.2.2.1, r1.2.2.2.2.2.2.2.2.2.2.2.2.2.2.2.2.2.2.2.2.2.2.2.2.2.2.1, r1.2.2.2.2.2.2.2.2.2.2.2.2.2.2.2.2.2.2.2.2.2.2.2.2.2.2.2, O_out)
    else
    if r1.1 = 2 then some ((2 : Int32), r1.2.2.1, r1.2.2.2.1, r1.2.2.2.2.1, r1.2.2.2.2.2.1, r1.2.2.2.2.2.2.1, r1.2.2.2.2.2.2.2.1, r1.2.2.2.2.2.2.2.2.1, r1.2.2.2.2.2.2.2.2.2.1, r1.2.2.2.2.2.2.2.2.2.2.1, r1.2.2.2.2.2.2.2.2.2.2.2.1, r1.2.2.2.2.2.2.2.2.2.2.2.2.1, r1.2.2.2.2.2.2.2.2.2.2.2.2.2.1, r1.2.2.2.2.2.2.2.2.2.2.2.2.2.2.1, r1.2.2.2.2.2.2.2.2.2.2.2.2.2.2.2.1, r1.2.2.2.2.2.2.2.2.2.2.2.2.2.2.2.2.1, r1.2.2.2.2.2.2.2.2.2.2.2.2.2.2.2.2.2.1, r1.2.2.2.2.2.2.2.2.2.2.2.2.2.2.2.2.2.2.1, r1.2.2.2.2.2.2.2.2.2.2.2.2.2.2.2.2.2.2.2.1, r1.2.2.2.2.2.2.2.2.2.2.2.2.2.2.2.2.2.2.2.2.1, r1.2.2.2.2.2.2.2.2.2.2.2.2.2.2.2.2.2.2.2.2.2.1, r1.2.2.2.2.2.2.2.2.2.2.2.2.2.2.2.2.2.2.2.2.2.2.1, r1.2.2.2.2.2.2.2.2.2.2.2.2.2.2.2.2.2.2.2.2.2.2.2.1, r1.2.2.2.2.2.2.2.2.2.2.2.2.2.2.2.2.2.2.2.2.2.2.2.2.1, r1.2.2.2.2.2.2.2.2.2.2.2.2.2.2.2.2.2.2.2.2.2.2.2.2.2.1, r1.2.2.2.2.2.2.2.2.2.2.2.2.2.2.2.2.2.2.2.2.2.2.2.2.2.2.1, r1.2.2.2.2.2.2.2.2.2.2.2.2.2.2.2.2.2.2.2.2.2.2.2.2.2.2.2, O_out)
    else
    if r1.1 = 4 then some ((3 : Int32), r1.2.2.1, r1.2.2.2.1, r1.2.2.2.2.1, r1.2.2.2.2.2.1, r1.2.2.2.2.2.2.1, r1.2.2.2.2.2.2.2.1, r1.2.2.2.2.2.2.2.2.1, r1.2.2.2.2.2.2.2.2.2.1, r1.2.2.2.2.2.2.2.2.2.2.1, r1.2.2.2.2.2.2.2.2.2.2.2.1, r1.2.2.2.2.2.2.2.2.2.2.2.2.1, r1.2.2.2.2.2.2.2.2.2.2.2.2.2.1, r1.2.2.2.2.2.2.2.2.2.2.2.2.2.2.1, r1.2.2.2.2.2.2.2.2.2.2.2.2.2.2.2.1, r1.2.2.2.2.2.2.2.2.2.2.2.2.2.2.2.2.1, r1.2.2.2.2.2.2.2.2.2.2.2.2.2.2.2.2.2.1, r1.2.2.2.2.2.2.2.2.2.2.2.2.2.2.2.2.2.2.1, r1.2.2.2.2.2.2.2.2.2.2.2.2.2.2.2.2.2.2.2.1, r1.2.2.2.2.2.2.2.2.2.2.2.2.2.2.2.2.2.2.2.2.1, r1.2.2.2.2.2.2.2.2.2.2.2.2.2.2.2.2.2.2.2.2.2.1, r1.2.2.2.2.2.2.2.2.2.2.2.2.2.2.2.2.2.2.2.2.2.2.1, r1.2.2.2.2.2.2.2.2.2.2.2.2.2.2.2.2.2.2.2.2.2.2.2.1, r1.2.2.2.2.2.2.2.2.2.2.2.2.2.2.2.2.2.2.2.2.2.2.2.2.1, r1.2.2.2.2.2.2.2.2.2.2.2.2.2.2.2.2.2.2.2.2.2.2.2.2.2.1, r1.2.2.2.2.2.2.2.2.2.2.2.2.2.2.2.2.2.2.2.2.2.2.2.2.2.2.1, r1.2.2.2.2.2.2.2.2.2.2.2.2.2.2.2.2.2.2.2.2.2.2.2.2.2.2.2, O_out)
    else
    none
abbrev rm_L_follows (c s : Nat) : Room := { frames := 8, cells := c, slots := s, locals := 179 }
set_option maxHeartbeats 4000000 in
set_option maxRecDepth 100000 in
theorem c_L_follows (l : Launch) (D : va_G) (cI cJ cZ : ClassId) (aX aX_arities aT aT_heads aT_places aT_olders aT_sizes aT_withins aT_newest aS aS_premises aS_premiseCounts aS_conclusions aS_order aM aM_images aM_path aF aE aE_goals aE_marks aE_looked aE_underway aE_met aE_takenHere aH aO_out : Nat) (sz : Nat) (X_namesUsed : Int32) (T_count : Int32) (nT_heads : Nat) (T_heads : (Nat → Int32)) (nT_places : Nat) (T_places : (Nat → Int32)) (nT_olders : Nat) (T_olders : (Nat → Int32)) (nT_sizes : Nat) (T_sizes : (Nat → Int32)) (nT_withins : Nat) (T_withins : (Nat → Int64)) (T_newest : (Nat → Int32)) (S_count : Int32) (S_premises : (Nat → Int32)) (S_premiseCounts : (Nat → Int32)) (S_conclusions : (Nat → Int32)) (S_order : (Nat → Int32)) (M_images : (Nat → Int32)) (M_path : (Nat → Int32)) (E_level : Int32) (E_steps : Int32) (E_tries : Int32) (E_taken : Int32) (E_first : Int32) (E_goals : (Nat → Int32)) (E_marks : (Nat → Int32)) (E_looked : (Nat → Int32)) (E_underway : (Nat → Int32)) (E_met : (Nat → Int32)) (E_takenHere : (Nat → Int32)) (O_out : (Nat → Int64)) (p0 : Int32) (p1 : Int32) (aK : Nat) (cK : Cell) (hst : l.stackTraces = false) (o : Int32 × Int32 × Nat × (Nat → Int32) × Nat × (Nat → Int32) × Nat × (Nat → Int32) × Nat × (Nat → Int32) × Nat × (Nat → Int64) × (Nat → Int32) × (Nat → Int32) × (Nat → Int32) × (Nat → Int32) × Int32 × Int32 × Int32 × Int32 × Int32 × (Nat → Int32) × (Nat → Int32) × (Nat → Int32) × (Nat → Int32) × (Nat → Int32) × (Nat → Int32) × (Nat → Int64)) (hf : f_L_follows T_count nT_heads T_heads nT_places T_places nT_olders T_olders nT_sizes T_sizes nT_withins T_withins T_newest S_count S_premises S_premiseCounts S_conclusions S_order M_images M_path E_level E_steps E_tries E_taken E_first E_goals E_marks E_looked E_underway E_met E_takenHere O_out p0 p1 = some o) : Met l y_L_follows (ws_L_follows) (rm_L_follows (2 + (PC nT_heads - PC o.2.2.1)) (12 + (PS nT_heads - PS o.2.2.1))) (LPc D vwCl cI cJ cZ aK cK [.ref aX, .int p0, .int p1, .ref aO_out] (wv_104 cI cJ cZ aX aX_arities aT aT_heads aT_places aT_olders aT_sizes aT_withins aT_newest aS aS_premises aS_premiseCounts aS_conclusions aS_order aM aM_images aM_path aF aE aE_goals aE_marks aE_looked aE_underway aE_met aE_takenHere aH aO_out X_namesUsed T_count nT_heads T_heads nT_places T_places nT_olders T_olders nT_sizes T_sizes nT_withins T_withins T_newest S_count S_premises S_premiseCounts S_conclusions S_order M_images M_path E_level E_steps E_tries E_taken E_first E_goals E_marks E_looked E_underway E_met E_takenHere O_out) sz) (WQx D vwCl (some (.int o.1)) (fun as => (wv_104 cI cJ cZ aX aX_arities aT (as 0) (as 1) (as 2) (as 3) (as 4) aT_newest aS aS_premises aS_premiseCounts aS_conclusions aS_order aM aM_images aM_path aF aE aE_goals aE_marks aE_looked aE_underway aE_met aE_takenHere aH aO_out X_namesUsed o.2.1 o.2.2.1 o.2.2.2.1 o.2.2.2.2.1 o.2.2.2.2.2.1 o.2.2.2.2.2.2.1 o.2.2.2.2.2.2.2.1 o.2.2.2.2.2.2.2.2.1 o.2.2.2.2.2.2.2.2.2.1 o.2.2.2.2.2.2.2.2.2.2.1 o.2.2.2.2.2.2.2.2.2.2.2.1 o.2.2.2.2.2.2.2.2.2.2.2.2.1 S_count S_premises S_premiseCounts S_conclusions o.2.2.2.2.2.2.2.2.2.2.2.2.2.1 o.2.2.2.2.2.2.2.2.2.2.2.2.2.2.1 o.2.2.2.2.2.2.2.2.2.2.2.2.2.2.2.1 o.2.2.2.2.2.2.2.2.2.2.2.2.2.2.2.2.1 o.2.2.2.2.2.2.2.2.2.2.2.2.2.2.2.2.2.1 o.2.2.2.2.2.2.2.2.2.2.2.2.2.2.2.2.2.2.1 o.2.2.2.2.2.2.2.2.2.2.2.2.2.2.2.2.2.2.2.1 o.2.2.2.2.2.2.2.2.2.2.2.2.2.2.2.2.2.2.2.2.1 o.2.2.2.2.2.2.2.2.2.2.2.2.2.2.2.2.2.2.2.2.2.1 o.2.2.2.2.2.2.2.2.2.2.2.2.2.2.2.2.2.2.2.2.2.2.1 o.2.2.2.2.2.2.2.2.2.2.2.2.2.2.2.2.2.2.2.2.2.2.2.1 o.2.2.2.2.2.2.2.2.2.2.2.2.2.2.2.2.2.2.2.2.2.2.2.2.1 o.2.2.2.2.2.2.2.2.2.2.2.2.2.2.2.2.2.2.2.2.2.2.2.2.2.1 o.2.2.2.2.2.2.2.2.2.2.2.2.2.2.2.2.2.2.2.2.2.2.2.2.2.2.1 o.2.2.2.2.2.2.2.2.2.2.2.2.2.2.2.2.2.2.2.2.2.2.2.2.2.2.2)) (va_A (wv_104 cI cJ cZ aX aX_arities aT aT_heads aT_places aT_olders aT_sizes aT_withins aT_newest aS aS_premises aS_premiseCounts aS_conclusions aS_order aM aM_images aM_path aF aE aE_goals aE_marks aE_looked aE_underway aE_met aE_takenHere aH aO_out X_namesUsed T_count nT_heads T_heads nT_places T_places nT_olders T_olders nT_sizes T_sizes nT_withins T_withins T_newest S_count S_premises S_premiseCounts S_conclusions S_order M_images M_path E_level E_steps E_tries E_taken E_first E_goals E_marks E_looked E_underway E_met E_takenHere O_out) sz)) (2 + (PC nT_heads - PC o.2.2.1)) (12 + (PS nT_heads - PS o.2.2.1)) (va_A (wv_104 cI cJ cZ aX aX_arities aT aT_heads aT_places aT_olders aT_sizes aT_withins aT_newest aS aS_premises aS_premiseCounts aS_conclusions aS_order aM aM_images aM_path aF aE aE_goals aE_marks aE_looked aE_underway aE_met aE_takenHere aH aO_out X_namesUsed T_count nT_heads T_heads nT_places T_places nT_olders T_olders nT_sizes T_sizes nT_withins T_withins T_newest S_count S_premises S_premiseCounts S_conclusions S_order M_images M_path E_level E_steps E_tries E_taken E_first E_goals E_marks E_looked E_underway E_met E_takenHere O_out) sz) := by
  refine va_MetW (cc := b_L_follows) (maxL := 5) (ret := (some .int)) (hh := [(0, 17, 20, 13), (0, 17, 24, 15), (0, 17, 28, 48)]) (by decide) rfl ?_
  intro p e s m args below meth c s₁ B hml hv
  obtain ⟨⟨rfl, rfl, hP, hK, hD0, ⟨hcS0, hE, hSR⟩, hnA⟩, hNC⟩ := hv
  have hx := B.exec
  have hb := B.bytes
  have hr := B.returns
  have hts0 := atoms_spec (ws := (ws_L_follows)) B.pre
  have htab := tab_of B (hts0 _ List.mem_cons_self)
  have hts : ∀ w ∈ BG, w.before _ s = true := fun w h => hts0 w (List.mem_cons_of_mem _ h)
  have hown : s.vm.findClass "ShapeSearchLaw" = some m.cls := findClass_of_methodNamed B.named
  have hlocks := B.notSynchronized
  obtain ⟨tx0, L0, te0, tf0, htab⟩ := tab_cons htab
  obtain ⟨tx1, L1, te1, tf1, htab⟩ := tab_cons htab
  obtain ⟨tx2, L2, te2, tf2, htab⟩ := tab_cons htab
  have te9 := tab_nil htab
  have ht9 : c.exceptionTable.toList = [tx0, tx1, tx2] := by rw [te0, te1, te2, te9]
  have hD := hD0.self (sz := s.heap.size)
  have hA : ∀ q : Nat, s.heap.size ≤ q → va_A (wv_104 cI cJ cZ aX aX_arities aT aT_heads aT_places aT_olders aT_sizes aT_withins aT_newest aS aS_premises aS_premiseCounts aS_conclusions aS_order aM aM_images aM_path aF aE aE_goals aE_marks aE_looked aE_underway aE_met aE_takenHere aH aO_out X_namesUsed T_count nT_heads T_heads nT_places T_places nT_olders T_olders nT_sizes T_sizes nT_withins T_withins T_newest S_count S_premises S_premiseCounts S_conclusions S_order M_images M_path E_level E_steps E_tries E_taken E_first E_goals E_marks E_looked E_underway E_met E_takenHere O_out) s.heap.size q := fun q h => Or.inr h
  have hS : va_S (va_A (wv_104 cI cJ cZ aX aX_arities aT aT_heads aT_places aT_olders aT_sizes aT_withins aT_newest aS aS_premises aS_premiseCounts aS_conclusions aS_order aM aM_images aM_path aF aE aE_goals aE_marks aE_looked aE_underway aE_met aE_takenHere aH aO_out X_namesUsed T_count nT_heads T_heads nT_places T_places nT_olders T_olders nT_sizes T_sizes nT_withins T_withins T_newest S_count S_premises S_premiseCounts S_conclusions S_order M_images M_path E_level E_steps E_tries E_taken E_first E_goals E_marks E_looked E_underway E_met E_takenHere O_out) s.heap.size) s.heap s.heap [] := va_S.rf
  generalize va_A (wv_104 cI cJ cZ aX aX_arities aT aT_heads aT_places aT_olders aT_sizes aT_withins aT_newest aS aS_premises aS_premiseCounts aS_conclusions aS_order aM aM_images aM_path aF aE aE_goals aE_marks aE_looked aE_underway aE_met aE_takenHere aH aO_out X_namesUsed T_count nT_heads T_heads nT_places T_places nT_olders T_olders nT_sizes T_sizes nT_withins T_withins T_newest S_count S_premises S_premiseCounts S_conclusions S_order M_images M_path E_level E_steps E_tries E_taken E_first E_goals E_marks E_looked E_underway E_met E_takenHere O_out) s.heap.size = A at hD hA hS hnA ⊢
  have hl := lv_entry ([.ref aX, .int p0, .int p1, .ref aO_out]) (n := 5) (Nat.le_of_ble_eq_true rfl)
  rw [lg_entry_eq]
  generalize (lg_sl ([.ref aX, .int p0, .int p1, .ref aO_out]) ++ List.replicate (5 - (lg_sl ([.ref aX, .int p0, .int p1, .ref aO_out])).length) Slot.unset).toArray = ls at hl ⊢
  have hl : lv_has ls 5 [(0, .ref aX), (1, .int p0), (2, .int p1), (3, .ref aO_out)] := hl
  rw [f_L_follows] at hf
  refine lv_aload_n hx hb d_L_follows_0 rfl (lv_at hl 3 rfl) ?_
  refine lv_iconst (v := 0) hx hb d_L_follows_1 (by decide) ?_
  refine lv_aload_n hx hb d_L_follows_2 rfl (lv_at hl 0 rfl) ?_
  refine lv_iload_n hx hb d_L_follows_3 rfl (lv_at hl 1 rfl) ?_
  refine lv_iload_n hx hb d_L_follows_4 rfl (lv_at hl 2 rfl) ?_
  obtain ⟨r1, hr1, hf⟩ := of_bd hf
  have hoN : o.2.2.1 = r1.2.2.2.1 := by
    by_cases z0 : r1.1 = 0
    · have hf := ite_t z0 hf
      by_cases z1 : r1.2.1 = 0
      · have hf := ite_t z1 hf
        obtain ⟨_, hf⟩ := of_gd hf
        obtain rfl := Option.some.inj hf
        rfl
      · have hf := ite_f z1 hf
        obtain ⟨_, hf⟩ := of_gd hf
        obtain rfl := Option.some.inj hf
        rfl
    · have hf := ite_f z0 hf
      by_cases y1 : r1.1 = 1
      · have hf := ite_t y1 hf
        obtain rfl := Option.some.inj hf
        rfl
      have hf := ite_f y1 hf
      by_cases y2 : r1.1 = 2
      · have hf := ite_t y2 hf
        obtain rfl := Option.some.inj hf
        rfl
      have hf := ite_f y2 hf
      by_cases y4 : r1.1 = 4
      · have hf := ite_t y4 hf
        obtain rfl := Option.some.inj hf
        rfl
      have hf := ite_f y4 hf
      cases hf
  have hoC : PC o.2.2.1 = PC r1.2.2.2.1 := by rw [hoN]
  have hoS : PS o.2.2.1 = PS r1.2.2.2.1 := by rw [hoN]
  refine x_call (ws' := fun as2 => (wv_104 cI cJ cZ aX aX_arities aT (as2 0) (as2 1) (as2 2) (as2 3) (as2 4) aT_newest aS aS_premises aS_premiseCounts aS_conclusions aS_order aM aM_images aM_path aF aE aE_goals aE_marks aE_looked aE_underway aE_met aE_takenHere aH aO_out X_namesUsed r1.2.2.1 r1.2.2.2.1 r1.2.2.2.2.1 r1.2.2.2.2.2.1 r1.2.2.2.2.2.2.1 r1.2.2.2.2.2.2.2.1 r1.2.2.2.2.2.2.2.2.1 r1.2.2.2.2.2.2.2.2.2.1 r1.2.2.2.2.2.2.2.2.2.2.1 r1.2.2.2.2.2.2.2.2.2.2.2.1 r1.2.2.2.2.2.2.2.2.2.2.2.2.1 r1.2.2.2.2.2.2.2.2.2.2.2.2.2.1 S_count S_premises S_premiseCounts S_conclusions r1.2.2.2.2.2.2.2.2.2.2.2.2.2.2.1 r1.2.2.2.2.2.2.2.2.2.2.2.2.2.2.2.1 r1.2.2.2.2.2.2.2.2.2.2.2.2.2.2.2.2.1 r1.2.2.2.2.2.2.2.2.2.2.2.2.2.2.2.2.2.1 r1.2.2.2.2.2.2.2.2.2.2.2.2.2.2.2.2.2.2.1 r1.2.2.2.2.2.2.2.2.2.2.2.2.2.2.2.2.2.2.2.1 r1.2.2.2.2.2.2.2.2.2.2.2.2.2.2.2.2.2.2.2.2.1 r1.2.2.2.2.2.2.2.2.2.2.2.2.2.2.2.2.2.2.2.2.2.1 r1.2.2.2.2.2.2.2.2.2.2.2.2.2.2.2.2.2.2.2.2.2.2.1 r1.2.2.2.2.2.2.2.2.2.2.2.2.2.2.2.2.2.2.2.2.2.2.2.1 r1.2.2.2.2.2.2.2.2.2.2.2.2.2.2.2.2.2.2.2.2.2.2.2.2.1 r1.2.2.2.2.2.2.2.2.2.2.2.2.2.2.2.2.2.2.2.2.2.2.2.2.2.1 r1.2.2.2.2.2.2.2.2.2.2.2.2.2.2.2.2.2.2.2.2.2.2.2.2.2.2.1 r1.2.2.2.2.2.2.2.2.2.2.2.2.2.2.2.2.2.2.2.2.2.2.2.2.2.2.2 O_out)) (xrunV (As := [.int p0, .int p1]) (rest := [.int (0 : Int32), .ref aO_out]) ⟨hx, hb, hml, hown, hts⟩ (c_X_follows l D cI cJ cZ aX aX_arities aT aT_heads aT_places aT_olders aT_sizes aT_withins aT_newest aS aS_premises aS_premiseCounts aS_conclusions aS_order aM aM_images aM_path aF aE aE_goals aE_marks aE_looked aE_underway aE_met aE_takenHere aH _ X_namesUsed T_count nT_heads T_heads nT_places T_places nT_olders T_olders nT_sizes T_sizes nT_withins T_withins T_newest S_count S_premises S_premiseCounts S_conclusions S_order M_images M_path E_level E_steps E_tries E_taken E_first E_goals E_marks E_looked E_underway E_met E_takenHere p0 p1 aK cK hst r1 hr1) (bigV 2 hts k3_210 k3_211 k3_212 k1_1 k3_213 rfl rfl hd_X_follows ⟨Nat.le_of_ble_eq_true rfl, Nat.le_of_ble_eq_true rfl⟩) (x_preV hK hP hD hE hSR (keepS hS hcS0 hnA) hnA [0, 1, 2, 3, 4, 5, 6, 7, 8, 9, 10, 11, 12, 13, 14, 15, 16, 17, 18, 19, 20, 21, 22] rfl (by decide) rfl 0 rfl rfl rfl) rfl rfl hl.1 rfl (lv_room (Nat.le_of_ble_eq_true rfl)) d_L_follows_5 ⟨by show _ ≤ (2 + (PC nT_heads - PC o.2.2.1)); omega, by show _ ≤ (12 + (PS nT_heads - PS o.2.2.1)); omega⟩) hP hD hS hA [0, 1, 2, 3, 4, 5, 6, 7, 8, 9, 10, 11, 12, 13, 14, 15, 16, 17, 18, 19, 20, 21, 22] [23] rfl rfl (by decide) (by decide) [1, 2, 3, 4, 5, 6, 7, 8, 9, 10, 11, 12, 13, 14, 15, 16, 17, 18, 19, 20, 21, 22, 23, 0] (by decide) (fun _ => rfl) (fun hz as2 H locs hP hD hS => ?_) (fun hz as2 H locs q9 ce9 hP hD hS hc1 hc2 hc3 => ?_)
  · have hf := ite_t hz hf
    refine W.widen (k := 2 + (PC nT_heads - PC r1.2.2.2.1)) (n := 12 + (PS nT_heads - PS r1.2.2.2.1)) (by omega) (by omega) ?_
    refine lv_if_eq (tgt := 15) hx hb d_L_follows_8 (by decide) (fun c3 => ?_) (fun c3 => ?_)
    · have hf := ite_t c3 hf
      refine lv_lconst (v := 0) hx hb d_L_follows_15 (by decide) ?_
      obtain ⟨h4, hf⟩ := of_gd hf
      obtain ⟨g5, eg5⟩ : ∃ y : Nat → Int64, y = vp_updL O_out (0 : Int32).toNatClampNeg (0 : Int64) := ⟨_, rfl⟩
      have hf := of_nm eg5 hf
      refine va_last hx hb hK.1 hP hD hS 23 1 rfl rfl (ixb_in h4) d_L_follows_16 (fun H locs hP hD hS => ?_)
      rw [← eg5] at hP hD
      have hP : va_P D vwCl (wv_104 cI cJ cZ aX aX_arities aT (as2 0) (as2 1) (as2 2) (as2 3) (as2 4) aT_newest aS aS_premises aS_premiseCounts aS_conclusions aS_order aM aM_images aM_path aF aE aE_goals aE_marks aE_looked aE_underway aE_met aE_takenHere aH aO_out X_namesUsed r1.2.2.1 r1.2.2.2.1 r1.2.2.2.2.1 r1.2.2.2.2.2.1 r1.2.2.2.2.2.2.1 r1.2.2.2.2.2.2.2.1 r1.2.2.2.2.2.2.2.2.1 r1.2.2.2.2.2.2.2.2.2.1 r1.2.2.2.2.2.2.2.2.2.2.1 r1.2.2.2.2.2.2.2.2.2.2.2.1 r1.2.2.2.2.2.2.2.2.2.2.2.2.1 r1.2.2.2.2.2.2.2.2.2.2.2.2.2.1 S_count S_premises S_premiseCounts S_conclusions r1.2.2.2.2.2.2.2.2.2.2.2.2.2.2.1 r1.2.2.2.2.2.2.2.2.2.2.2.2.2.2.2.1 r1.2.2.2.2.2.2.2.2.2.2.2.2.2.2.2.2.1 r1.2.2.2.2.2.2.2.2.2.2.2.2.2.2.2.2.2.1 r1.2.2.2.2.2.2.2.2.2.2.2.2.2.2.2.2.2.2.1 r1.2.2.2.2.2.2.2.2.2.2.2.2.2.2.2.2.2.2.2.1 r1.2.2.2.2.2.2.2.2.2.2.2.2.2.2.2.2.2.2.2.2.1 r1.2.2.2.2.2.2.2.2.2.2.2.2.2.2.2.2.2.2.2.2.2.1 r1.2.2.2.2.2.2.2.2.2.2.2.2.2.2.2.2.2.2.2.2.2.2.1 r1.2.2.2.2.2.2.2.2.2.2.2.2.2.2.2.2.2.2.2.2.2.2.2.1 r1.2.2.2.2.2.2.2.2.2.2.2.2.2.2.2.2.2.2.2.2.2.2.2.2.1 r1.2.2.2.2.2.2.2.2.2.2.2.2.2.2.2.2.2.2.2.2.2.2.2.2.2.1 r1.2.2.2.2.2.2.2.2.2.2.2.2.2.2.2.2.2.2.2.2.2.2.2.2.2.2.1 r1.2.2.2.2.2.2.2.2.2.2.2.2.2.2.2.2.2.2.2.2.2.2.2.2.2.2.2 g5) H := hP
      have hD : va_D A (wv_104 cI cJ cZ aX aX_arities aT (as2 0) (as2 1) (as2 2) (as2 3) (as2 4) aT_newest aS aS_premises aS_premiseCounts aS_conclusions aS_order aM aM_images aM_path aF aE aE_goals aE_marks aE_looked aE_underway aE_met aE_takenHere aH aO_out X_namesUsed r1.2.2.1 r1.2.2.2.1 r1.2.2.2.2.1 r1.2.2.2.2.2.1 r1.2.2.2.2.2.2.1 r1.2.2.2.2.2.2.2.1 r1.2.2.2.2.2.2.2.2.1 r1.2.2.2.2.2.2.2.2.2.1 r1.2.2.2.2.2.2.2.2.2.2.1 r1.2.2.2.2.2.2.2.2.2.2.2.1 r1.2.2.2.2.2.2.2.2.2.2.2.2.1 r1.2.2.2.2.2.2.2.2.2.2.2.2.2.1 S_count S_premises S_premiseCounts S_conclusions r1.2.2.2.2.2.2.2.2.2.2.2.2.2.2.1 r1.2.2.2.2.2.2.2.2.2.2.2.2.2.2.2.1 r1.2.2.2.2.2.2.2.2.2.2.2.2.2.2.2.2.1 r1.2.2.2.2.2.2.2.2.2.2.2.2.2.2.2.2.2.1 r1.2.2.2.2.2.2.2.2.2.2.2.2.2.2.2.2.2.2.1 r1.2.2.2.2.2.2.2.2.2.2.2.2.2.2.2.2.2.2.2.1 r1.2.2.2.2.2.2.2.2.2.2.2.2.2.2.2.2.2.2.2.2.1 r1.2.2.2.2.2.2.2.2.2.2.2.2.2.2.2.2.2.2.2.2.2.1 r1.2.2.2.2.2.2.2.2.2.2.2.2.2.2.2.2.2.2.2.2.2.2.1 r1.2.2.2.2.2.2.2.2.2.2.2.2.2.2.2.2.2.2.2.2.2.2.2.1 r1.2.2.2.2.2.2.2.2.2.2.2.2.2.2.2.2.2.2.2.2.2.2.2.2.1 r1.2.2.2.2.2.2.2.2.2.2.2.2.2.2.2.2.2.2.2.2.2.2.2.2.2.1 r1.2.2.2.2.2.2.2.2.2.2.2.2.2.2.2.2.2.2.2.2.2.2.2.2.2.2.1 r1.2.2.2.2.2.2.2.2.2.2.2.2.2.2.2.2.2.2.2.2.2.2.2.2.2.2.2 g5) := hD
      refine lv_goto (tgt := 32) hx hb d_L_follows_17 (by decide) ?_
      refine lv_iconst (v := 0) hx hb d_L_follows_32 (by decide) ?_
      obtain rfl := Option.some.inj hf
      refine W.widen (k := 2 + (PC nT_heads - PC r1.2.2.2.1)) (n := 12 + (PS nT_heads - PS r1.2.2.2.1)) (by omega) (by omega) ?_
      exact W.iret (v := (0 : Int32)) hx hb hr (fun t ht hW => ⟨rfl, fun i => ([(as2 0), (as2 1), (as2 2), (as2 3), (as2 4)] : List Nat).getD i 0, by rw [ht]; exact hP, hD, hS.F ht⟩) hS.2.2 d_L_follows_33
    · have hf := ite_f c3 hf
      refine lv_lconst (v := 1) hx hb d_L_follows_11 (by decide) ?_
      refine lv_goto (tgt := 16) hx hb d_L_follows_12 (by decide) ?_
      obtain ⟨h6, hf⟩ := of_gd hf
      obtain ⟨g7, eg7⟩ : ∃ y : Nat → Int64, y = vp_updL O_out (0 : Int32).toNatClampNeg (1 : Int64) := ⟨_, rfl⟩
      have hf := of_nm eg7 hf
      refine va_last hx hb hK.1 hP hD hS 23 1 rfl rfl (ixb_in h6) d_L_follows_16 (fun H locs hP hD hS => ?_)
      rw [← eg7] at hP hD
      have hP : va_P D vwCl (wv_104 cI cJ cZ aX aX_arities aT (as2 0) (as2 1) (as2 2) (as2 3) (as2 4) aT_newest aS aS_premises aS_premiseCounts aS_conclusions aS_order aM aM_images aM_path aF aE aE_goals aE_marks aE_looked aE_underway aE_met aE_takenHere aH aO_out X_namesUsed r1.2.2.1 r1.2.2.2.1 r1.2.2.2.2.1 r1.2.2.2.2.2.1 r1.2.2.2.2.2.2.1 r1.2.2.2.2.2.2.2.1 r1.2.2.2.2.2.2.2.2.1 r1.2.2.2.2.2.2.2.2.2.1 r1.2.2.2.2.2.2.2.2.2.2.1 r1.2.2.2.2.2.2.2.2.2.2.2.1 r1.2.2.2.2.2.2.2.2.2.2.2.2.1 r1.2.2.2.2.2.2.2.2.2.2.2.2.2.1 S_count S_premises S_premiseCounts S_conclusions r1.2.2.2.2.2.2.2.2.2.2.2.2.2.2.1 r1.2.2.2.2.2.2.2.2.2.2.2.2.2.2.2.1 r1.2.2.2.2.2.2.2.2.2.2.2.2.2.2.2.2.1 r1.2.2.2.2.2.2.2.2.2.2.2.2.2.2.2.2.2.1 r1.2.2.2.2.2.2.2.2.2.2.2.2.2.2.2.2.2.2.1 r1.2.2.2.2.2.2.2.2.2.2.2.2.2.2.2.2.2.2.2.1 r1.2.2.2.2.2.2.2.2.2.2.2.2.2.2.2.2.2.2.2.2.1 r1.2.2.2.2.2.2.2.2.2.2.2.2.2.2.2.2.2.2.2.2.2.1 r1.2.2.2.2.2.2.2.2.2.2.2.2.2.2.2.2.2.2.2.2.2.2.1 r1.2.2.2.2.2.2.2.2.2.2.2.2.2.2.2.2.2.2.2.2.2.2.2.1 r1.2.2.2.2.2.2.2.2.2.2.2.2.2.2.2.2.2.2.2.2.2.2.2.2.1 r1.2.2.2.2.2.2.2.2.2.2.2.2.2.2.2.2.2.2.2.2.2.2.2.2.2.1 r1.2.2.2.2.2.2.2.2.2.2.2.2.2.2.2.2.2.2.2.2.2.2.2.2.2.2.1 r1.2.2.2.2.2.2.2.2.2.2.2.2.2.2.2.2.2.2.2.2.2.2.2.2.2.2.2 g7) H := hP
      have hD : va_D A (wv_104 cI cJ cZ aX aX_arities aT (as2 0) (as2 1) (as2 2) (as2 3) (as2 4) aT_newest aS aS_premises aS_premiseCounts aS_conclusions aS_order aM aM_images aM_path aF aE aE_goals aE_marks aE_looked aE_underway aE_met aE_takenHere aH aO_out X_namesUsed r1.2.2.1 r1.2.2.2.1 r1.2.2.2.2.1 r1.2.2.2.2.2.1 r1.2.2.2.2.2.2.1 r1.2.2.2.2.2.2.2.1 r1.2.2.2.2.2.2.2.2.1 r1.2.2.2.2.2.2.2.2.2.1 r1.2.2.2.2.2.2.2.2.2.2.1 r1.2.2.2.2.2.2.2.2.2.2.2.1 r1.2.2.2.2.2.2.2.2.2.2.2.2.1 r1.2.2.2.2.2.2.2.2.2.2.2.2.2.1 S_count S_premises S_premiseCounts S_conclusions r1.2.2.2.2.2.2.2.2.2.2.2.2.2.2.1 r1.2.2.2.2.2.2.2.2.2.2.2.2.2.2.2.1 r1.2.2.2.2.2.2.2.2.2.2.2.2.2.2.2.2.1 r1.2.2.2.2.2.2.2.2.2.2.2.2.2.2.2.2.2.1 r1.2.2.2.2.2.2.2.2.2.2.2.2.2.2.2.2.2.2.1 r1.2.2.2.2.2.2.2.2.2.2.2.2.2.2.2.2.2.2.2.1 r1.2.2.2.2.2.2.2.2.2.2.2.2.2.2.2.2.2.2.2.2.1 r1.2.2.2.2.2.2.2.2.2.2.2.2.2.2.2.2.2.2.2.2.2.1 r1.2.2.2.2.2.2.2.2.2.2.2.2.2.2.2.2.2.2.2.2.2.2.1 r1.2.2.2.2.2.2.2.2.2.2.2.2.2.2.2.2.2.2.2.2.2.2.2.1 r1.2.2.2.2.2.2.2.2.2.2.2.2.2.2.2.2.2.2.2.2.2.2.2.2.1 r1.2.2.2.2.2.2.2.2.2.2.2.2.2.2.2.2.2.2.2.2.2.2.2.2.2.1 r1.2.2.2.2.2.2.2.2.2.2.2.2.2.2.2.2.2.2.2.2.2.2.2.2.2.2.1 r1.2.2.2.2.2.2.2.2.2.2.2.2.2.2.2.2.2.2.2.2.2.2.2.2.2.2.2 g7) := hD
      refine lv_goto (tgt := 32) hx hb d_L_follows_17 (by decide) ?_
      refine lv_iconst (v := 0) hx hb d_L_follows_32 (by decide) ?_
      obtain rfl := Option.some.inj hf
      refine W.widen (k := 2 + (PC nT_heads - PC r1.2.2.2.1)) (n := 12 + (PS nT_heads - PS r1.2.2.2.1)) (by omega) (by omega) ?_
      exact W.iret (v := (0 : Int32)) hx hb hr (fun t ht hW => ⟨rfl, fun i => ([(as2 0), (as2 1), (as2 2), (as2 3), (as2 4)] : List Nat).getD i 0, by rw [ht]; exact hP, hD, hS.F ht⟩) hS.2.2 d_L_follows_33
  · have hf := ite_f hz hf
    by_cases z0 : r1.1 = 1
    · have hf := ite_t z0 hf
      obtain rfl := Option.some.inj hf
      rw [z0] at hc3
      refine wx_catch [] tx0 [tx1, tx2] ht9 (fun pl hpl y hy => by cases hy) (tab_cov tf0 (by decide) (by decide)) (fun pl hpl => row_yes hpl hown (by rw [(tab_pc tf0).2]; decide) (by rw [(tab_pc tf0).2]; exact hts _ k2_140) (hE s (State.WarmedH.refl s) hcS0 #[] (.castable (exn 1) (exn 1)) (by decide)) hc3) hc1 hc2 hc3 ?_
      rw [(tab_pc tf0).1]
      refine lv_astore (lv' := [(4, .ref q9), (0, .ref aX), (1, .int p0), (2, .int p1), (3, .ref aO_out)]) hx hb d_L_follows_20 hl (by decide) rfl (fun ls hl => ?_)
      refine lv_iconst (v := 1) hx hb d_L_follows_22 (by decide) ?_
      refine W.widen (k := 2 + (PC nT_heads - PC r1.2.2.2.1)) (n := 12 + (PS nT_heads - PS r1.2.2.2.1)) (by omega) (by omega) ?_
      exact W.iret (v := 1) hx hb hr (fun t ht hW => ⟨rfl, fun i => ([(as2 0), (as2 1), (as2 2), (as2 3), (as2 4)] : List Nat).getD i 0, by rw [ht]; exact hP, hD, hS.F ht⟩) hS.2.2 d_L_follows_23
    have hf := ite_f z0 hf
    by_cases z1 : r1.1 = 2
    · have hf := ite_t z1 hf
      obtain rfl := Option.some.inj hf
      rw [z1] at hc3
      refine wx_catch [tx0] tx1 [tx2] ht9 (fun pl hpl => List.forall_mem_cons.mpr ⟨⟨tab_cov tf0 (by decide) (by decide), row_no hpl hown (by rw [(tab_pc tf0).2]; decide) (by rw [(tab_pc tf0).2]; exact hts _ k2_140) (hNC 2 1 (by decide) (by decide) (by decide)) hc3⟩, fun _ h => absurd h List.not_mem_nil⟩) (tab_cov tf1 (by decide) (by decide)) (fun pl hpl => row_yes hpl hown (by rw [(tab_pc tf1).2]; decide) (by rw [(tab_pc tf1).2]; exact hts _ k2_141) (hE s (State.WarmedH.refl s) hcS0 #[] (.castable (exn 2) (exn 2)) (by decide)) hc3) hc1 hc2 hc3 ?_
      rw [(tab_pc tf1).1]
      refine lv_astore (lv' := [(4, .ref q9), (0, .ref aX), (1, .int p0), (2, .int p1), (3, .ref aO_out)]) hx hb d_L_follows_24 hl (by decide) rfl (fun ls hl => ?_)
      refine lv_iconst (v := 2) hx hb d_L_follows_26 (by decide) ?_
      refine W.widen (k := 2 + (PC nT_heads - PC r1.2.2.2.1)) (n := 12 + (PS nT_heads - PS r1.2.2.2.1)) (by omega) (by omega) ?_
      exact W.iret (v := 2) hx hb hr (fun t ht hW => ⟨rfl, fun i => ([(as2 0), (as2 1), (as2 2), (as2 3), (as2 4)] : List Nat).getD i 0, by rw [ht]; exact hP, hD, hS.F ht⟩) hS.2.2 d_L_follows_27
    have hf := ite_f z1 hf
    by_cases z2 : r1.1 = 4
    · have hf := ite_t z2 hf
      obtain rfl := Option.some.inj hf
      rw [z2] at hc3
      refine wx_catch [tx0, tx1] tx2 [] ht9 (fun pl hpl => List.forall_mem_cons.mpr ⟨⟨tab_cov tf0 (by decide) (by decide), row_no hpl hown (by rw [(tab_pc tf0).2]; decide) (by rw [(tab_pc tf0).2]; exact hts _ k2_140) (hNC 4 1 (by decide) (by decide) (by decide)) hc3⟩, List.forall_mem_cons.mpr ⟨⟨tab_cov tf1 (by decide) (by decide), row_no hpl hown (by rw [(tab_pc tf1).2]; decide) (by rw [(tab_pc tf1).2]; exact hts _ k2_141) (hNC 4 2 (by decide) (by decide) (by decide)) hc3⟩, fun _ h => absurd h List.not_mem_nil⟩⟩) (tab_cov tf2 (by decide) (by decide)) (fun pl hpl => row_yes hpl hown (by rw [(tab_pc tf2).2]; decide) (by rw [(tab_pc tf2).2]; exact hts _ k3_209) (hE s (State.WarmedH.refl s) hcS0 #[] (.castable (exn 4) (exn 4)) (by decide)) hc3) hc1 hc2 hc3 ?_
      rw [(tab_pc tf2).1]
      refine lv_astore (lv' := [(4, .ref q9), (0, .ref aX), (1, .int p0), (2, .int p1), (3, .ref aO_out)]) hx hb d_L_follows_28 hl (by decide) rfl (fun ls hl => ?_)
      refine lv_iconst (v := 3) hx hb d_L_follows_30 (by decide) ?_
      refine W.widen (k := 2 + (PC nT_heads - PC r1.2.2.2.1)) (n := 12 + (PS nT_heads - PS r1.2.2.2.1)) (by omega) (by omega) ?_
      exact W.iret (v := 3) hx hb hr (fun t ht hW => ⟨rfl, fun i => ([(as2 0), (as2 1), (as2 2), (as2 3), (as2 4)] : List Nat).getD i 0, by rw [ht]; exact hP, hD, hS.F ht⟩) hS.2.2 d_L_follows_31
    have hf := ite_f z2 hf
    cases hf
