abbrev b_X_checkGoal : ByteArray := prog_1_method_19_code
abbrev y_X_checkGoal : MethodName := ⟨"ShapeSearch", "checkGoal", "(I)V"⟩
abbrev ws_X_checkGoal : List Cond := .code y_X_checkGoal b_X_checkGoal 2 (none : Option Jvm.ClassFile.FieldType) :: BG
theorem hd_X_checkGoal : y_X_checkGoal.cls ≠ "java/lang/invoke/MethodHandle" ∧ y_X_checkGoal.cls ≠ "java/lang/invoke/VarHandle" ∧ (parseMethodDescriptor y_X_checkGoal.desc).map (fun d => d.parameters.length) = some 1 := by decide +kernel
theorem d_X_checkGoal_0 : decode b_X_checkGoal 0 = .ok (.aload_n 0, 1) := by decide +kernel
theorem d_X_checkGoal_1 : decode b_X_checkGoal 1 = .ok (.getfield 12, 3) := by decide +kernel
theorem d_X_checkGoal_4 : decode b_X_checkGoal 4 = .ok (.iload_n 1, 1) := by decide +kernel
theorem d_X_checkGoal_5 : decode b_X_checkGoal 5 = .ok (.invokevirtual 102, 3) := by decide +kernel
theorem d_X_checkGoal_8 : decode b_X_checkGoal 8 = .ok (.ifCond .ne 13, 3) := by decide +kernel
theorem d_X_checkGoal_11 : decode b_X_checkGoal 11 = .ok (.new 79, 3) := by decide +kernel
theorem d_X_checkGoal_14 : decode b_X_checkGoal 14 = .ok (.dup, 1) := by decide +kernel
theorem d_X_checkGoal_15 : decode b_X_checkGoal 15 = .ok (.ldc 117, 2) := by decide +kernel
theorem d_X_checkGoal_17 : decode b_X_checkGoal 17 = .ok (.invokespecial 83, 3) := by decide +kernel
theorem d_X_checkGoal_20 : decode b_X_checkGoal 20 = .ok (.athrow, 1) := by decide +kernel
theorem d_X_checkGoal_21 : decode b_X_checkGoal 21 = .ok (.aload_n 0, 1) := by decide +kernel
theorem d_X_checkGoal_22 : decode b_X_checkGoal 22 = .ok (.getfield 12, 3) := by decide +kernel
theorem d_X_checkGoal_25 : decode b_X_checkGoal 25 = .ok (.iload_n 1, 1) := by decide +kernel
theorem d_X_checkGoal_26 : decode b_X_checkGoal 26 = .ok (.ldc2_w 122, 3) := by decide +kernel
theorem d_X_checkGoal_29 : decode b_X_checkGoal 29 = .ok (.invokevirtual 124, 3) := by decide +kernel
theorem d_X_checkGoal_32 : decode b_X_checkGoal 32 = .ok (.ifCond .eq 14, 3) := by decide +kernel
theorem d_X_checkGoal_35 : decode b_X_checkGoal 35 = .ok (.new 86, 3) := by decide +kernel
theorem d_X_checkGoal_38 : decode b_X_checkGoal 38 = .ok (.dup, 1) := by decide +kernel
theorem d_X_checkGoal_39 : decode b_X_checkGoal 39 = .ok (.ldc_w 263, 3) := by decide +kernel
theorem d_X_checkGoal_42 : decode b_X_checkGoal 42 = .ok (.invokespecial 90, 3) := by decide +kernel
theorem d_X_checkGoal_45 : decode b_X_checkGoal 45 = .ok (.athrow, 1) := by decide +kernel
theorem d_X_checkGoal_46 : decode b_X_checkGoal 46 = .ok (.return_, 1) := by decide +kernel
abbrev b_X_leaf : ByteArray := prog_1_method_3_code
abbrev y_X_leaf : MethodName := ⟨"ShapeSearch", "leaf", "(IZ)I"⟩
abbrev ws_X_leaf : List Cond := .code y_X_leaf b_X_leaf 5 (some .int) :: BG
theorem hd_X_leaf : y_X_leaf.cls ≠ "java/lang/invoke/MethodHandle" ∧ y_X_leaf.cls ≠ "java/lang/invoke/VarHandle" ∧ (parseMethodDescriptor y_X_leaf.desc).map (fun d => d.parameters.length) = some 2 := by decide +kernel
theorem d_X_leaf_0 : decode b_X_leaf 0 = .ok (.iload_n 1, 1) := by decide +kernel
theorem d_X_leaf_1 : decode b_X_leaf 1 = .ok (.ifCond .lt 17, 3) := by decide +kernel
theorem d_X_leaf_4 : decode b_X_leaf 4 = .ok (.iload_n 1, 1) := by decide +kernel
theorem d_X_leaf_5 : decode b_X_leaf 5 = .ok (.iload_n 2, 1) := by decide +kernel
theorem d_X_leaf_6 : decode b_X_leaf 6 = .ok (.ifCond .eq 7, 3) := by decide +kernel
theorem d_X_leaf_9 : decode b_X_leaf 9 = .ok (.iconst 4, 1) := by decide +kernel
theorem d_X_leaf_10 : decode b_X_leaf 10 = .ok (.goto 5, 3) := by decide +kernel
theorem d_X_leaf_13 : decode b_X_leaf 13 = .ok (.bipush 8, 2) := by decide +kernel
theorem d_X_leaf_15 : decode b_X_leaf 15 = .ok (.if_icmp .lt 13, 3) := by decide +kernel
theorem d_X_leaf_18 : decode b_X_leaf 18 = .ok (.new 79, 3) := by decide +kernel
theorem d_X_leaf_21 : decode b_X_leaf 21 = .ok (.dup, 1) := by decide +kernel
theorem d_X_leaf_22 : decode b_X_leaf 22 = .ok (.ldc 100, 2) := by decide +kernel
theorem d_X_leaf_24 : decode b_X_leaf 24 = .ok (.invokespecial 83, 3) := by decide +kernel
theorem d_X_leaf_27 : decode b_X_leaf 27 = .ok (.athrow, 1) := by decide +kernel
theorem d_X_leaf_28 : decode b_X_leaf 28 = .ok (.iload_n 2, 1) := by decide +kernel
theorem d_X_leaf_29 : decode b_X_leaf 29 = .ok (.ifCond .eq 8, 3) := by decide +kernel
theorem d_X_leaf_32 : decode b_X_leaf 32 = .ok (.bipush 38, 2) := by decide +kernel
theorem d_X_leaf_34 : decode b_X_leaf 34 = .ok (.goto 5, 3) := by decide +kernel
theorem d_X_leaf_37 : decode b_X_leaf 37 = .ok (.bipush 30, 2) := by decide +kernel
theorem d_X_leaf_39 : decode b_X_leaf 39 = .ok (.iload_n 1, 1) := by decide +kernel
theorem d_X_leaf_40 : decode b_X_leaf 40 = .ok (.iadd, 1) := by decide +kernel
theorem d_X_leaf_41 : decode b_X_leaf 41 = .ok (.istore_n 3, 1) := by decide +kernel
theorem d_X_leaf_42 : decode b_X_leaf 42 = .ok (.aload_n 0, 1) := by decide +kernel
theorem d_X_leaf_43 : decode b_X_leaf 43 = .ok (.getfield 12, 3) := by decide +kernel
theorem d_X_leaf_46 : decode b_X_leaf 46 = .ok (.iload_n 3, 1) := by decide +kernel
theorem d_X_leaf_47 : decode b_X_leaf 47 = .ok (.iconst (-1), 1) := by decide +kernel
theorem d_X_leaf_48 : decode b_X_leaf 48 = .ok (.iconst (-1), 1) := by decide +kernel
theorem d_X_leaf_49 : decode b_X_leaf 49 = .ok (.iconst (-1), 1) := by decide +kernel
theorem d_X_leaf_50 : decode b_X_leaf 50 = .ok (.bipush 100, 2) := by decide +kernel
theorem d_X_leaf_52 : decode b_X_leaf 52 = .ok (.invokevirtual 91, 3) := by decide +kernel
theorem d_X_leaf_55 : decode b_X_leaf 55 = .ok (.istore 4, 2) := by decide +kernel
theorem d_X_leaf_57 : decode b_X_leaf 57 = .ok (.iload 4, 2) := by decide +kernel
theorem d_X_leaf_59 : decode b_X_leaf 59 = .ok (.iconst (-1), 1) := by decide +kernel
theorem d_X_leaf_60 : decode b_X_leaf 60 = .ok (.if_icmp .ne 13, 3) := by decide +kernel
theorem d_X_leaf_63 : decode b_X_leaf 63 = .ok (.new 95, 3) := by decide +kernel
theorem d_X_leaf_66 : decode b_X_leaf 66 = .ok (.dup, 1) := by decide +kernel
theorem d_X_leaf_67 : decode b_X_leaf 67 = .ok (.ldc 97, 2) := by decide +kernel
theorem d_X_leaf_69 : decode b_X_leaf 69 = .ok (.invokespecial 99, 3) := by decide +kernel
theorem d_X_leaf_72 : decode b_X_leaf 72 = .ok (.athrow, 1) := by decide +kernel
theorem d_X_leaf_73 : decode b_X_leaf 73 = .ok (.iload 4, 2) := by decide +kernel
theorem d_X_leaf_75 : decode b_X_leaf 75 = .ok (.ireturn, 1) := by decide +kernel
abbrev b_X_twin : ByteArray := prog_1_method_12_code
abbrev y_X_twin : MethodName := ⟨"ShapeSearch", "twin", "(I)I"⟩
abbrev ws_X_twin : List Cond := .code y_X_twin b_X_twin 3 (some .int) :: BG
theorem hd_X_twin : y_X_twin.cls ≠ "java/lang/invoke/MethodHandle" ∧ y_X_twin.cls ≠ "java/lang/invoke/VarHandle" ∧ (parseMethodDescriptor y_X_twin.desc).map (fun d => d.parameters.length) = some 1 := by decide +kernel
theorem d_X_twin_0 : decode b_X_twin 0 = .ok (.iload_n 1, 1) := by decide +kernel
theorem d_X_twin_1 : decode b_X_twin 1 = .ok (.ifCond .lt 14, 3) := by decide +kernel
theorem d_X_twin_4 : decode b_X_twin 4 = .ok (.iload_n 1, 1) := by decide +kernel
theorem d_X_twin_5 : decode b_X_twin 5 = .ok (.aload_n 0, 1) := by decide +kernel
theorem d_X_twin_6 : decode b_X_twin 6 = .ok (.getfield 33, 3) := by decide +kernel
theorem d_X_twin_9 : decode b_X_twin 9 = .ok (.invokevirtual 150, 3) := by decide +kernel
theorem d_X_twin_12 : decode b_X_twin 12 = .ok (.if_icmp .lt 13, 3) := by decide +kernel
theorem d_X_twin_15 : decode b_X_twin 15 = .ok (.new 79, 3) := by decide +kernel
theorem d_X_twin_18 : decode b_X_twin 18 = .ok (.dup, 1) := by decide +kernel
theorem d_X_twin_19 : decode b_X_twin 19 = .ok (.ldc 239, 2) := by decide +kernel
theorem d_X_twin_21 : decode b_X_twin 21 = .ok (.invokespecial 83, 3) := by decide +kernel
theorem d_X_twin_24 : decode b_X_twin 24 = .ok (.athrow, 1) := by decide +kernel
theorem d_X_twin_25 : decode b_X_twin 25 = .ok (.iconst 0, 1) := by decide +kernel
theorem d_X_twin_26 : decode b_X_twin 26 = .ok (.istore_n 2, 1) := by decide +kernel
theorem d_X_twin_27 : decode b_X_twin 27 = .ok (.iload_n 2, 1) := by decide +kernel
theorem d_X_twin_28 : decode b_X_twin 28 = .ok (.iload_n 1, 1) := by decide +kernel
theorem d_X_twin_29 : decode b_X_twin 29 = .ok (.if_icmp .ge 43, 3) := by decide +kernel
theorem d_X_twin_32 : decode b_X_twin 32 = .ok (.aload_n 0, 1) := by decide +kernel
theorem d_X_twin_33 : decode b_X_twin 33 = .ok (.getfield 42, 3) := by decide +kernel
theorem d_X_twin_36 : decode b_X_twin 36 = .ok (.aload_n 0, 1) := by decide +kernel
theorem d_X_twin_37 : decode b_X_twin 37 = .ok (.getfield 33, 3) := by decide +kernel
theorem d_X_twin_40 : decode b_X_twin 40 = .ok (.iload_n 2, 1) := by decide +kernel
theorem d_X_twin_41 : decode b_X_twin 41 = .ok (.iload_n 1, 1) := by decide +kernel
theorem d_X_twin_42 : decode b_X_twin 42 = .ok (.invokevirtual 241, 3) := by decide +kernel
theorem d_X_twin_45 : decode b_X_twin 45 = .ok (.ifCond .eq 21, 3) := by decide +kernel
theorem d_X_twin_48 : decode b_X_twin 48 = .ok (.aload_n 0, 1) := by decide +kernel
theorem d_X_twin_49 : decode b_X_twin 49 = .ok (.getfield 42, 3) := by decide +kernel
theorem d_X_twin_52 : decode b_X_twin 52 = .ok (.aload_n 0, 1) := by decide +kernel
theorem d_X_twin_53 : decode b_X_twin 53 = .ok (.getfield 33, 3) := by decide +kernel
theorem d_X_twin_56 : decode b_X_twin 56 = .ok (.iload_n 1, 1) := by decide +kernel
theorem d_X_twin_57 : decode b_X_twin 57 = .ok (.iload_n 2, 1) := by decide +kernel
theorem d_X_twin_58 : decode b_X_twin 58 = .ok (.invokevirtual 241, 3) := by decide +kernel
theorem d_X_twin_61 : decode b_X_twin 61 = .ok (.ifCond .eq 5, 3) := by decide +kernel
theorem d_X_twin_64 : decode b_X_twin 64 = .ok (.iload_n 2, 1) := by decide +kernel
theorem d_X_twin_65 : decode b_X_twin 65 = .ok (.ireturn, 1) := by decide +kernel
theorem d_X_twin_66 : decode b_X_twin 66 = .ok (.iinc 2 1, 3) := by decide +kernel
theorem d_X_twin_69 : decode b_X_twin 69 = .ok (.goto (-42), 3) := by decide +kernel
theorem d_X_twin_72 : decode b_X_twin 72 = .ok (.iconst (-1), 1) := by decide +kernel
theorem d_X_twin_73 : decode b_X_twin 73 = .ok (.ireturn, 1) := by decide +kernel
theorem k2_223 : Cond.classLink "ShapeSearch" 86 "java/lang/IllegalArgumentException" ∈ BG := List.mem_filter.mpr ⟨in_2 (List.mem_of_getElem? (i := 223) rfl), rfl⟩
theorem k1_14 : Cond.initialized "java/lang/IllegalArgumentException" ∈ BG := List.mem_filter.mpr ⟨in_1 (List.mem_of_getElem? (i := 14) rfl), rfl⟩
theorem k2_224 : Cond.instantiable "java/lang/IllegalArgumentException" 6 ∈ BG := List.mem_filter.mpr ⟨in_2 (List.mem_of_getElem? (i := 224) rfl), rfl⟩
theorem k2_154 : Cond.classLink "ShapeSearch" 79 "java/lang/IndexOutOfBoundsException" ∈ BG := List.mem_filter.mpr ⟨in_2 (List.mem_of_getElem? (i := 154) rfl), rfl⟩
theorem k1_13 : Cond.initialized "java/lang/IndexOutOfBoundsException" ∈ BG := List.mem_filter.mpr ⟨in_1 (List.mem_of_getElem? (i := 13) rfl), rfl⟩
theorem k2_155 : Cond.instantiable "java/lang/IndexOutOfBoundsException" 6 ∈ BG := List.mem_filter.mpr ⟨in_2 (List.mem_of_getElem? (i := 155) rfl), rfl⟩
theorem k2_239 : Cond.methodLink "ShapeSearch" 91 ⟨"ShapeSearch$Terms", "make", "(IIIII)I"⟩ ∈ BG := List.mem_filter.mpr ⟨in_2 (List.mem_of_getElem? (i := 239) rfl), rfl⟩
theorem k3_12 : Cond.classLink "ShapeSearch" 95 "java/lang/IllegalStateException" ∈ BG := List.mem_filter.mpr ⟨in_3 (List.mem_of_getElem? (i := 12) rfl), rfl⟩
theorem k1_16 : Cond.initialized "java/lang/IllegalStateException" ∈ BG := List.mem_filter.mpr ⟨in_1 (List.mem_of_getElem? (i := 16) rfl), rfl⟩
theorem k3_13 : Cond.instantiable "java/lang/IllegalStateException" 6 ∈ BG := List.mem_filter.mpr ⟨in_3 (List.mem_of_getElem? (i := 13) rfl), rfl⟩
theorem k3_198 : Cond.methodLink "ShapeSearch" 241 ⟨"ShapeSearch$Matcher", "covers", "(LShapeSearch$Statements;II)Z"⟩ ∈ BG := List.mem_filter.mpr ⟨in_3 (List.mem_of_getElem? (i := 198) rfl), rfl⟩
theorem k3_201 : Cond.code ⟨"ShapeSearch$Matcher", "covers", "(LShapeSearch$Statements;II)Z"⟩ prog_4_method_3_code 7 (some .boolean) ∈ BG := List.mem_filter.mpr ⟨in_3 (List.mem_of_getElem? (i := 201) rfl), rfl⟩
theorem k3_199 : Cond.instanceMethod ⟨"ShapeSearch$Matcher", "covers", "(LShapeSearch$Statements;II)Z"⟩ ∈ BG := List.mem_filter.mpr ⟨in_3 (List.mem_of_getElem? (i := 199) rfl), rfl⟩
theorem k3_200 : Cond.selects "ShapeSearch$Matcher" ⟨"ShapeSearch$Matcher", "covers", "(LShapeSearch$Statements;II)Z"⟩ ⟨"ShapeSearch$Matcher", "covers", "(LShapeSearch$Statements;II)Z"⟩ ∈ BG := List.mem_filter.mpr ⟨in_3 (List.mem_of_getElem? (i := 200) rfl), rfl⟩
abbrev wv_87 (cI cJ cZ : ClassId) (aX aX_arities aT aT_heads aT_places aT_olders aT_sizes aT_withins aT_newest aS aM aF aE aH : Nat) (X_namesUsed : Int32) (T_count : Int32) (nT_heads : Nat) (T_heads : (Nat → Int32)) (nT_places : Nat) (T_places : (Nat → Int32)) (nT_olders : Nat) (T_olders : (Nat → Int32)) (nT_sizes : Nat) (T_sizes : (Nat → Int32)) (nT_withins : Nat) (T_withins : (Nat → Int64)) (T_newest : (Nat → Int32)) : va_W := [(aX, .inr (0, [.ref aT, .ref aX_arities, .int X_namesUsed, .ref aS, .ref aM, .ref aF, .ref aE, .ref aH])), (aT, .inr (1, [.ref aT_heads, .ref aT_places, .ref aT_olders, .ref aT_sizes, .ref aT_withins, .ref aT_newest, .int T_count])), (aT_heads, .inl (cI, nT_heads, .inl T_heads)), (aT_places, .inl (cI, nT_places, .inl T_places)), (aT_olders, .inl (cI, nT_olders, .inl T_olders)), (aT_sizes, .inl (cI, nT_sizes, .inl T_sizes)), (aT_withins, .inl (cJ, nT_withins, .inr (.inl T_withins))), (aT_newest, .inl (cI, 256, .inl T_newest))]
abbrev wv_88 (cI cJ cZ : ClassId) (aX aX_arities aT aT_heads aT_places aT_olders aT_sizes aT_withins aT_newest aS aS_premises aS_premiseCounts aS_conclusions aS_order aM aM_images aM_path aF aE aH : Nat) (X_namesUsed : Int32) (T_count : Int32) (nT_heads : Nat) (T_heads : (Nat → Int32)) (nT_places : Nat) (T_places : (Nat → Int32)) (nT_withins : Nat) (T_withins : (Nat → Int64)) (S_count : Int32) (S_premises : (Nat → Int32)) (S_premiseCounts : (Nat → Int32)) (S_conclusions : (Nat → Int32)) (M_images : (Nat → Int32)) : va_W := [(aX, .inr (0, [.ref aT, .ref aX_arities, .int X_namesUsed, .ref aS, .ref aM, .ref aF, .ref aE, .ref aH])), (aT, .inr (1, [.ref aT_heads, .ref aT_places, .ref aT_olders, .ref aT_sizes, .ref aT_withins, .ref aT_newest, .int T_count])), (aT_heads, .inl (cI, nT_heads, .inl T_heads)), (aT_places, .inl (cI, nT_places, .inl T_places)), (aT_withins, .inl (cJ, nT_withins, .inr (.inl T_withins))), (aS, .inr (2, [.ref aS_premises, .ref aS_premiseCounts, .ref aS_conclusions, .ref aS_order, .int S_count])), (aS_premises, .inl (cI, 120, .inl S_premises)), (aS_premiseCounts, .inl (cI, 30, .inl S_premiseCounts)), (aS_conclusions, .inl (cI, 30, .inl S_conclusions)), (aM, .inr (3, [.ref aT, .ref aM_images, .ref aM_path])), (aM_images, .inl (cI, 100, .inl M_images))]
def f_X_checkGoal (T_count : Int32) (nT_withins : Nat) (T_withins : (Nat → Int64)) (p0 : Int32) : Option (Nat) :=
  (f_T_has T_count p0).bind fun r1 =>
  if r1 = 0 then
    some 1
  else
    (f_T_holds T_count nT_withins T_withins p0 (4123168604160 : Int64)).bind fun r3 =>
    if r3 = 0 then
      some 0
    else
      some 2
abbrev rm_X_checkGoal : Room := { frames := 6, cells := 1, slots := 6, locals := 90 }
set_option maxHeartbeats 4000000 in
set_option maxRecDepth 100000 in
theorem c_X_checkGoal (l : Launch) (D : va_G) (cI cJ cZ : ClassId) (aX aX_arities aT aT_heads aT_places aT_olders aT_sizes aT_withins aT_newest aS aM aF aE aH : Nat) (sz : Nat) (X_namesUsed : Int32) (T_count : Int32) (nT_withins : Nat) (T_withins : (Nat → Int64)) (p0 : Int32) (aK : Nat) (cK : Cell) (hst : l.stackTraces = false) (o : Nat) (hf : f_X_checkGoal T_count nT_withins T_withins p0 = some o) : XMet l y_X_checkGoal (ws_X_checkGoal) rm_X_checkGoal (XPc D vwCl cI cJ cZ aK cK [.ref aX, .int p0] (wv_71 cI cJ cZ aX aX_arities aT aT_heads aT_places aT_olders aT_sizes aT_withins aT_newest aS aM aF aE aH X_namesUsed T_count nT_withins T_withins) sz) (QN D vwCl o none (fun as => (wv_71 cI cJ cZ aX aX_arities aT aT_heads aT_places aT_olders aT_sizes aT_withins aT_newest aS aM aF aE aH X_namesUsed T_count nT_withins T_withins)) (va_A (wv_71 cI cJ cZ aX aX_arities aT aT_heads aT_places aT_olders aT_sizes aT_withins aT_newest aS aM aF aE aH X_namesUsed T_count nT_withins T_withins) sz)) (QT D vwCl o (fun as => (wv_71 cI cJ cZ aX aX_arities aT aT_heads aT_places aT_olders aT_sizes aT_withins aT_newest aS aM aF aE aH X_namesUsed T_count nT_withins T_withins)) (va_A (wv_71 cI cJ cZ aX aX_arities aT aT_heads aT_places aT_olders aT_sizes aT_withins aT_newest aS aM aF aE aH X_namesUsed T_count nT_withins T_withins) sz)) 1 6 (va_A (wv_71 cI cJ cZ aX aX_arities aT aT_heads aT_places aT_olders aT_sizes aT_withins aT_newest aS aM aF aE aH X_namesUsed T_count nT_withins T_withins) sz) := by
  refine XMet.ofW (cc := b_X_checkGoal) (maxL := 2) (ret := none) (by decide) rfl ?_
  intro p e s m args below meth c s₁ B hml hno hv
  obtain ⟨rfl, rfl, hP, hK, hD0, ⟨hcS0, hE, hSR⟩, hnA⟩ := hv
  have hx := B.exec
  have hb := B.bytes
  have hr := B.returns
  have hts : ∀ w ∈ BG, w.before _ s = true := fun w h => atoms_spec (ws := (ws_X_checkGoal)) B.pre w (List.mem_cons_of_mem _ h)
  have hown : s.vm.findClass RR_X = some m.cls := findClass_of_methodNamed B.named
  have hlocks := B.notSynchronized
  have hD := hD0.self (sz := s.heap.size)
  have hA : ∀ q : Nat, s.heap.size ≤ q → va_A (wv_71 cI cJ cZ aX aX_arities aT aT_heads aT_places aT_olders aT_sizes aT_withins aT_newest aS aM aF aE aH X_namesUsed T_count nT_withins T_withins) s.heap.size q := fun q h => Or.inr h
  have hS : va_S (va_A (wv_71 cI cJ cZ aX aX_arities aT aT_heads aT_places aT_olders aT_sizes aT_withins aT_newest aS aM aF aE aH X_namesUsed T_count nT_withins T_withins) s.heap.size) s.heap s.heap [] := va_S.rf
  generalize va_A (wv_71 cI cJ cZ aX aX_arities aT aT_heads aT_places aT_olders aT_sizes aT_withins aT_newest aS aM aF aE aH X_namesUsed T_count nT_withins T_withins) s.heap.size = A at hD hA hS hnA ⊢
  have hl := lv_entry ([.ref aX, .int p0]) (n := 2) (Nat.le_of_ble_eq_true rfl)
  rw [lg_entry_eq]
  generalize (lg_sl ([.ref aX, .int p0]) ++ List.replicate (2 - (lg_sl ([.ref aX, .int p0])).length) Slot.unset).toArray = ls at hl ⊢
  have hl : lv_has ls 2 [(0, .ref aX), (1, .int p0)] := hl
  rw [f_X_checkGoal] at hf
  refine lv_aload_n hx hb d_X_checkGoal_0 rfl (lv_at hl 0 rfl) ?_
  refine va_get (D := D) (ci := 0) (v := .ref aT) (C := RR_X) (T := FF_X) (N := 8) hx hb hts kin_X hown hK.1 hP 0 rfl rfl 0 (by decide) (hts _ k1_203) (fun _ h9 => h9) rfl d_X_checkGoal_1 ?_
  refine lv_iload_n hx hb d_X_checkGoal_4 rfl (lv_at hl 1 rfl) ?_
  obtain ⟨r1, hr1, hf⟩ := of_bd hf
  refine rd_call (va_runV (As := [.int p0]) (rest := []) ⟨hx, hb, hml, hown, hts⟩ (c_T_has l D cI cJ cZ aT aT_heads aT_places aT_olders aT_sizes aT_withins aT_newest T_count p0 r1 hr1) (bigV 1 hts k1_232 k1_233 k1_234 k1_2 k1_235 rfl rfl hd_T_has ⟨Nat.le_of_ble_eq_true rfl, Nat.le_of_ble_eq_true rfl⟩) (rd_preV hK hP [1] rfl 1 rfl rfl rfl) rfl rfl hl.1 rfl (lv_room (Nat.le_of_ble_eq_true rfl)) d_X_checkGoal_5 ⟨Nat.le_of_ble_eq_true rfl, Nat.le_of_ble_eq_true rfl⟩) ?_
  refine lv_if_ne (tgt := 21) hx hb d_X_checkGoal_8 (by decide) (fun c2 => ?_) (fun c2 => ?_)
  · have hf := ite_f c2 hf
    refine lv_aload_n hx hb d_X_checkGoal_21 rfl (lv_at hl 0 rfl) ?_
    refine va_get (D := D) (ci := 0) (v := .ref aT) (C := RR_X) (T := FF_X) (N := 8) hx hb hts kin_X hown hK.1 hP 0 rfl rfl 0 (by decide) (hts _ k1_203) (fun _ h9 => h9) rfl d_X_checkGoal_22 ?_
    refine lv_iload_n hx hb d_X_checkGoal_25 rfl (lv_at hl 1 rfl) ?_
    refine lv_ldc2 (v := 4123168604160) hx hb hown (hts _ k2_57) d_X_checkGoal_26 ?_
    obtain ⟨r3, hr3, hf⟩ := of_bd hf
    refine rd_call (va_runV (As := [.int p0, .long (4123168604160 : Int64)]) (rest := []) ⟨hx, hb, hml, hown, hts⟩ (c_T_holds l D cI cJ cZ aT aT_heads aT_places aT_olders aT_sizes aT_withins aT_newest T_count nT_withins T_withins p0 (4123168604160 : Int64) r3 hr3) (bigV 2 hts k3_48 k2_77 k2_78 k1_2 k2_79 rfl rfl hd_T_holds ⟨Nat.le_of_ble_eq_true rfl, Nat.le_of_ble_eq_true rfl⟩) (rd_preV hK hP [1, 2] rfl 1 rfl rfl rfl) rfl rfl hl.1 rfl (lv_room (Nat.le_of_ble_eq_true rfl)) d_X_checkGoal_29 ⟨Nat.le_of_ble_eq_true rfl, Nat.le_of_ble_eq_true rfl⟩) ?_
    refine lv_if_eq (tgt := 46) hx hb d_X_checkGoal_32 (by decide) (fun c4 => ?_) (fun c4 => ?_)
    · have hf := ite_t c4 hf
      obtain rfl := Option.some.inj hf
      refine W.widen (k := 1) (n := 6) (by omega) (by omega) (xm_ret ?_)
      exact W.vret hx hb hr (fun t ht hW => ⟨_, rfl, rfl, rfl, fun _ => 0, by rw [ht]; exact hP, hD, hS.F ht⟩) hS.2.2 d_X_checkGoal_46
    · have hf := ite_f c4 hf
      obtain rfl := Option.some.inj hf
      obtain ⟨sa5, hsa5⟩ := hSR (263, "a hole stands in the goal") (by decide)
      exact xthrow hx hb hst (names := ["java/lang/RuntimeException", "java/lang/Exception"]) hown (by decide) (by decide) hts k2_223 k1_14 k2_224 at_2 hsa5 hE (keepS hS hcS0 hnA) (hl.1.trans hml.symm) d_X_checkGoal_35 d_X_checkGoal_38 (Or.inr ⟨d_X_checkGoal_39, rfl⟩) d_X_checkGoal_42 d_X_checkGoal_45 hno (Nat.le_of_ble_eq_true rfl) (Nat.le_of_ble_eq_true rfl) (Nat.le_of_ble_eq_true rfl) (Nat.le_of_ble_eq_true rfl) hlocks (fun t h1 h2 => qt_of (Nat.succ_ne_zero 1) rfl (fun _ => 0) hP hD hS h1 h2) hS.2.2 (Nat.le_of_ble_eq_true rfl) (Nat.le_of_ble_eq_true rfl)
  · have hf := ite_t c2 hf
    obtain rfl := Option.some.inj hf
    obtain ⟨sa6, hsa6⟩ := hSR (117, "no such term") (by decide)
    exact xthrow hx hb hst (names := ["java/lang/RuntimeException", "java/lang/Exception"]) hown (by decide) (by decide) hts k2_154 k1_13 k2_155 at_1 hsa6 hE (keepS hS hcS0 hnA) (hl.1.trans hml.symm) d_X_checkGoal_11 d_X_checkGoal_14 (Or.inl ⟨d_X_checkGoal_15, rfl⟩) d_X_checkGoal_17 d_X_checkGoal_20 hno (Nat.le_of_ble_eq_true rfl) (Nat.le_of_ble_eq_true rfl) (Nat.le_of_ble_eq_true rfl) (Nat.le_of_ble_eq_true rfl) hlocks (fun t h1 h2 => qt_of (Nat.succ_ne_zero 0) rfl (fun _ => 0) hP hD hS h1 h2) hS.2.2 (Nat.le_of_ble_eq_true rfl) (Nat.le_of_ble_eq_true rfl)
def f_X_leaf_B39 (nT_heads : Nat) (nT_places : Nat) (nT_olders : Nat) (nT_sizes : Nat) (nT_withins : Nat) (T_count_39 : Int32) (T_heads_39 : (Nat → Int32)) (T_places_39 : (Nat → Int32)) (T_olders_39 : (Nat → Int32)) (T_sizes_39 : (Nat → Int32)) (T_withins_39 : (Nat → Int64)) (T_newest_39 : (Nat → Int32)) (x1_39 : Int32) (s0_39 : Int32) : Option (Nat × Int32 × Int32 × (Nat → Int32) × (Nat → Int32) × (Nat → Int32) × (Nat → Int32) × (Nat → Int64) × (Nat → Int32)) :=
  nm (s0_39 + x1_39) fun x7 =>
  (f_T_make T_count_39 nT_heads T_heads_39 nT_places T_places_39 nT_olders T_olders_39 nT_sizes T_sizes_39 nT_withins T_withins_39 T_newest_39 x7 (-1 : Int32) (-1 : Int32) (-1 : Int32) (100 : Int32)).bind fun r8 =>
  if r8.1 = (-1 : Int32) then
    some (3, (0 : Int32), r8.2.1, r8.2.2.1, r8.2.2.2.1, r8.2.2.2.2.1, r8.2.2.2.2.2.1, r8.2.2.2.2.2.2.1, r8.2.2.2.2.2.2.2)
  else
    some (0, r8.1, r8.2.1, r8.2.2.1, r8.2.2.2.1, r8.2.2.2.2.1, r8.2.2.2.2.2.1, r8.2.2.2.2.2.2.1, r8.2.2.2.2.2.2.2)
def f_X_leaf_B15 (nT_heads : Nat) (nT_places : Nat) (nT_olders : Nat) (nT_sizes : Nat) (nT_withins : Nat) (T_count_15 : Int32) (T_heads_15 : (Nat → Int32)) (T_places_15 : (Nat → Int32)) (T_olders_15 : (Nat → Int32)) (T_sizes_15 : (Nat → Int32)) (T_withins_15 : (Nat → Int64)) (T_newest_15 : (Nat → Int32)) (x1_15 : Int32) (x2_15 : Int32) (s0_15 : Int32) (s1_15 : Int32) : Option (Nat × Int32 × Int32 × (Nat → Int32) × (Nat → Int32) × (Nat → Int32) × (Nat → Int32) × (Nat → Int64) × (Nat → Int32)) :=
  if s0_15 < s1_15 then
    if x2_15 = 0 then
      f_X_leaf_B39 nT_heads nT_places nT_olders nT_sizes nT_withins T_count_15 T_heads_15 T_places_15 T_olders_15 T_sizes_15 T_withins_15 T_newest_15 x1_15 (30 : Int32)
    else
      f_X_leaf_B39 nT_heads nT_places nT_olders nT_sizes nT_withins T_count_15 T_heads_15 T_places_15 T_olders_15 T_sizes_15 T_withins_15 T_newest_15 x1_15 (38 : Int32)
  else
    some (1, (0 : Int32), T_count_15, T_heads_15, T_places_15, T_olders_15, T_sizes_15, T_withins_15, T_newest_15)
def f_X_leaf (T_count : Int32) (nT_heads : Nat) (T_heads : (Nat → Int32)) (nT_places : Nat) (T_places : (Nat → Int32)) (nT_olders : Nat) (T_olders : (Nat → Int32)) (nT_sizes : Nat) (T_sizes : (Nat → Int32)) (nT_withins : Nat) (T_withins : (Nat → Int64)) (T_newest : (Nat → Int32)) (p0 : Int32) (p1 : Int32) : Option (Nat × Int32 × Int32 × (Nat → Int32) × (Nat → Int32) × (Nat → Int32) × (Nat → Int32) × (Nat → Int64) × (Nat → Int32)) :=
  if p0 < 0 then
    some (1, (0 : Int32), T_count, T_heads, T_places, T_olders, T_sizes, T_withins, T_newest)
  else
    if p1 = 0 then
      f_X_leaf_B15 nT_heads nT_places nT_olders nT_sizes nT_withins T_count T_heads T_places T_olders T_sizes T_withins T_newest p0 p1 p0 (8 : Int32)
    else
      f_X_leaf_B15 nT_heads nT_places nT_olders nT_sizes nT_withins T_count T_heads T_places T_olders T_sizes T_withins T_newest p0 p1 p0 (4 : Int32)
abbrev rm_X_leaf : Room := { frames := 6, cells := 1, slots := 6, locals := 90 }
set_option maxHeartbeats 4000000 in
set_option maxRecDepth 100000 in
theorem c_X_leaf (l : Launch) (D : va_G) (cI cJ cZ : ClassId) (aX aX_arities aT aT_heads aT_places aT_olders aT_sizes aT_withins aT_newest aS aM aF aE aH : Nat) (sz : Nat) (X_namesUsed : Int32) (T_count : Int32) (nT_heads : Nat) (T_heads : (Nat → Int32)) (nT_places : Nat) (T_places : (Nat → Int32)) (nT_olders : Nat) (T_olders : (Nat → Int32)) (nT_sizes : Nat) (T_sizes : (Nat → Int32)) (nT_withins : Nat) (T_withins : (Nat → Int64)) (T_newest : (Nat → Int32)) (p0 : Int32) (p1 : Int32) (aK : Nat) (cK : Cell) (hst : l.stackTraces = false) (o : Nat × Int32 × Int32 × (Nat → Int32) × (Nat → Int32) × (Nat → Int32) × (Nat → Int32) × (Nat → Int64) × (Nat → Int32)) (hf : f_X_leaf T_count nT_heads T_heads nT_places T_places nT_olders T_olders nT_sizes T_sizes nT_withins T_withins T_newest p0 p1 = some o) : XMet l y_X_leaf (ws_X_leaf) rm_X_leaf (XPc D vwCl cI cJ cZ aK cK [.ref aX, .int p0, .int p1] (wv_87 cI cJ cZ aX aX_arities aT aT_heads aT_places aT_olders aT_sizes aT_withins aT_newest aS aM aF aE aH X_namesUsed T_count nT_heads T_heads nT_places T_places nT_olders T_olders nT_sizes T_sizes nT_withins T_withins T_newest) sz) (QN D vwCl o.1 (some (.int o.2.1)) (fun as => (wv_87 cI cJ cZ aX aX_arities aT aT_heads aT_places aT_olders aT_sizes aT_withins aT_newest aS aM aF aE aH X_namesUsed o.2.2.1 nT_heads o.2.2.2.1 nT_places o.2.2.2.2.1 nT_olders o.2.2.2.2.2.1 nT_sizes o.2.2.2.2.2.2.1 nT_withins o.2.2.2.2.2.2.2.1 o.2.2.2.2.2.2.2.2)) (va_A (wv_87 cI cJ cZ aX aX_arities aT aT_heads aT_places aT_olders aT_sizes aT_withins aT_newest aS aM aF aE aH X_namesUsed T_count nT_heads T_heads nT_places T_places nT_olders T_olders nT_sizes T_sizes nT_withins T_withins T_newest) sz)) (QT D vwCl o.1 (fun as => (wv_87 cI cJ cZ aX aX_arities aT aT_heads aT_places aT_olders aT_sizes aT_withins aT_newest aS aM aF aE aH X_namesUsed o.2.2.1 nT_heads o.2.2.2.1 nT_places o.2.2.2.2.1 nT_olders o.2.2.2.2.2.1 nT_sizes o.2.2.2.2.2.2.1 nT_withins o.2.2.2.2.2.2.2.1 o.2.2.2.2.2.2.2.2)) (va_A (wv_87 cI cJ cZ aX aX_arities aT aT_heads aT_places aT_olders aT_sizes aT_withins aT_newest aS aM aF aE aH X_namesUsed T_count nT_heads T_heads nT_places T_places nT_olders T_olders nT_sizes T_sizes nT_withins T_withins T_newest) sz)) 1 6 (va_A (wv_87 cI cJ cZ aX aX_arities aT aT_heads aT_places aT_olders aT_sizes aT_withins aT_newest aS aM aF aE aH X_namesUsed T_count nT_heads T_heads nT_places T_places nT_olders T_olders nT_sizes T_sizes nT_withins T_withins T_newest) sz) := by
  refine XMet.ofW (cc := b_X_leaf) (maxL := 5) (ret := (some .int)) (by decide) rfl ?_
  intro p e s m args below meth c s₁ B hml hno hv
  obtain ⟨rfl, rfl, hP, hK, hD0, ⟨hcS0, hE, hSR⟩, hnA⟩ := hv
  have hx := B.exec
  have hb := B.bytes
  have hr := B.returns
  have hts : ∀ w ∈ BG, w.before _ s = true := fun w h => atoms_spec (ws := (ws_X_leaf)) B.pre w (List.mem_cons_of_mem _ h)
  have hown : s.vm.findClass RR_X = some m.cls := findClass_of_methodNamed B.named
  have hlocks := B.notSynchronized
  have hD := hD0.self (sz := s.heap.size)
  have hA : ∀ q : Nat, s.heap.size ≤ q → va_A (wv_87 cI cJ cZ aX aX_arities aT aT_heads aT_places aT_olders aT_sizes aT_withins aT_newest aS aM aF aE aH X_namesUsed T_count nT_heads T_heads nT_places T_places nT_olders T_olders nT_sizes T_sizes nT_withins T_withins T_newest) s.heap.size q := fun q h => Or.inr h
  have hS : va_S (va_A (wv_87 cI cJ cZ aX aX_arities aT aT_heads aT_places aT_olders aT_sizes aT_withins aT_newest aS aM aF aE aH X_namesUsed T_count nT_heads T_heads nT_places T_places nT_olders T_olders nT_sizes T_sizes nT_withins T_withins T_newest) s.heap.size) s.heap s.heap [] := va_S.rf
  generalize va_A (wv_87 cI cJ cZ aX aX_arities aT aT_heads aT_places aT_olders aT_sizes aT_withins aT_newest aS aM aF aE aH X_namesUsed T_count nT_heads T_heads nT_places T_places nT_olders T_olders nT_sizes T_sizes nT_withins T_withins T_newest) s.heap.size = A at hD hA hS hnA ⊢
  have hl := lv_entry ([.ref aX, .int p0, .int p1]) (n := 5) (Nat.le_of_ble_eq_true rfl)
  rw [lg_entry_eq]
  generalize (lg_sl ([.ref aX, .int p0, .int p1]) ++ List.replicate (5 - (lg_sl ([.ref aX, .int p0, .int p1])).length) Slot.unset).toArray = ls at hl ⊢
  have hl : lv_has ls 5 [(0, .ref aX), (1, .int p0), (2, .int p1)] := hl
  have hB39 : ∀ (T_count_39 : Int32) (T_heads_39 : (Nat → Int32)) (T_places_39 : (Nat → Int32)) (T_olders_39 : (Nat → Int32)) (T_sizes_39 : (Nat → Int32)) (T_withins_39 : (Nat → Int64)) (T_newest_39 : (Nat → Int32)) (x1_39 : Int32) (s0_39 : Int32), ∀ (H : Heap) (locs : List Loc), va_P D vwCl (wv_87 cI cJ cZ aX aX_arities aT aT_heads aT_places aT_olders aT_sizes aT_withins aT_newest aS aM aF aE aH X_namesUsed T_count_39 nT_heads T_heads_39 nT_places T_places_39 nT_olders T_olders_39 nT_sizes T_sizes_39 nT_withins T_withins_39 T_newest_39) H → va_D A (wv_87 cI cJ cZ aX aX_arities aT aT_heads aT_places aT_olders aT_sizes aT_withins aT_newest aS aM aF aE aH X_namesUsed T_count_39 nT_heads T_heads_39 nT_places T_places_39 nT_olders T_olders_39 nT_sizes T_sizes_39 nT_withins T_withins_39 T_newest_39) → va_S A s.heap H locs → ∀ (ls : Array Slot), lv_has ls 5 [(0, .ref aX), (1, .int x1_39)] → f_X_leaf_B39 nT_heads nT_places nT_olders nT_sizes nT_withins T_count_39 T_heads_39 T_places_39 T_olders_39 T_sizes_39 T_withins_39 T_newest_39 x1_39 s0_39 = some o → W p l e (headSpec (ws_X_leaf) rm_X_leaf).room s m ([.ref aX, .int p0, .int p1] : List Value).toArray below meth c H locs 0 0 (XM below (QN D vwCl o.1 (some (.int o.2.1)) (fun as => (wv_87 cI cJ cZ aX aX_arities aT aT_heads aT_places aT_olders aT_sizes aT_withins aT_newest aS aM aF aE aH X_namesUsed o.2.2.1 nT_heads o.2.2.2.1 nT_places o.2.2.2.2.1 nT_olders o.2.2.2.2.2.1 nT_sizes o.2.2.2.2.2.2.1 nT_withins o.2.2.2.2.2.2.2.1 o.2.2.2.2.2.2.2.2)) A) (QT D vwCl o.1 (fun as => (wv_87 cI cJ cZ aX aX_arities aT aT_heads aT_places aT_olders aT_sizes aT_withins aT_newest aS aM aF aE aH X_namesUsed o.2.2.1 nT_heads o.2.2.2.1 nT_places o.2.2.2.2.1 nT_olders o.2.2.2.2.2.1 nT_sizes o.2.2.2.2.2.2.1 nT_withins o.2.2.2.2.2.2.2.1 o.2.2.2.2.2.2.2.2)) A) ([.ref aX, .int p0, .int p1] : List Value).toArray s 1 6 A) (F0 m 39 ls [.int s0_39]) := by
    intro T_count_39 T_heads_39 T_places_39 T_olders_39 T_sizes_39 T_withins_39 T_newest_39 x1_39 s0_39 H locs hP hD hS ls hl hf
    rw [f_X_leaf_B39] at hf
    refine lv_iload_n hx hb d_X_leaf_39 rfl (lv_at hl 1 rfl) ?_
    refine lv_iadd hx hb d_X_leaf_40 ?_
    refine lv_topi (fun x7 ex7 => ?_)
    have hf := of_nm ex7 hf
    refine lv_istore_n (lv' := [(3, .int x7), (0, .ref aX), (1, .int x1_39)]) hx hb d_X_leaf_41 rfl hl (by decide) rfl (fun ls hl => ?_)
    refine lv_aload_n hx hb d_X_leaf_42 rfl (lv_at hl 1 rfl) ?_
    refine va_get (D := D) (ci := 0) (v := .ref aT) (C := RR_X) (T := FF_X) (N := 8) hx hb hts kin_X hown hK.1 hP 0 rfl rfl 0 (by decide) (hts _ k1_203) (fun _ h9 => h9) rfl d_X_leaf_43 ?_
    refine lv_iload_n hx hb d_X_leaf_46 rfl (lv_at hl 0 rfl) ?_
    refine lv_iconst (v := -1) hx hb d_X_leaf_47 (by decide) ?_
    refine lv_iconst (v := -1) hx hb d_X_leaf_48 (by decide) ?_
    refine lv_iconst (v := -1) hx hb d_X_leaf_49 (by decide) ?_
    refine lv_bipush (v := 100) hx hb d_X_leaf_50 (by decide) ?_
    obtain ⟨r8, hr8, hf⟩ := of_bd hf
    refine wr_call (ws' := (wv_87 cI cJ cZ aX aX_arities aT aT_heads aT_places aT_olders aT_sizes aT_withins aT_newest aS aM aF aE aH X_namesUsed r8.2.1 nT_heads r8.2.2.1 nT_places r8.2.2.2.1 nT_olders r8.2.2.2.2.1 nT_sizes r8.2.2.2.2.2.1 nT_withins r8.2.2.2.2.2.2.1 r8.2.2.2.2.2.2.2)) (va_runV (As := [.int x7, .int (-1 : Int32), .int (-1 : Int32), .int (-1 : Int32), .int (100 : Int32)]) (rest := []) ⟨hx, hb, hml, hown, hts⟩ (c_T_make l D cI cJ cZ aT aT_heads aT_places aT_olders aT_sizes aT_withins aT_newest _ T_count_39 nT_heads T_heads_39 nT_places T_places_39 nT_olders T_olders_39 nT_sizes T_sizes_39 nT_withins T_withins_39 T_newest_39 x7 (-1 : Int32) (-1 : Int32) (-1 : Int32) (100 : Int32) r8 hr8) (bigV 5 hts k2_239 k3_0 k3_1 k1_2 k3_2 rfl rfl hd_T_make ⟨Nat.le_of_ble_eq_true rfl, Nat.le_of_ble_eq_true rfl⟩) (wr_preV hK hP hD [1, 2, 3, 4, 5, 6, 7] rfl (by decide) rfl 1 rfl rfl rfl) rfl rfl hl.1 rfl (lv_room (Nat.le_of_ble_eq_true rfl)) d_X_leaf_52 ⟨Nat.le_of_ble_eq_true rfl, Nat.le_of_ble_eq_true rfl⟩) hP hD hS hA [1, 2, 3, 4, 5, 6, 7] [0] rfl rfl (by decide) (by decide) [0, 1, 2, 3, 4, 5, 6, 7] (by decide) rfl (fun H locs hP hD hS => ?_)
    refine lv_istore (lv' := [(4, .int r8.1), (3, .int x7), (0, .ref aX), (1, .int x1_39)]) hx hb d_X_leaf_55 hl (by decide) rfl (fun ls hl => ?_)
    refine lv_iload hx hb d_X_leaf_57 (lv_at hl 0 rfl) ?_
    refine lv_iconst (v := -1) hx hb d_X_leaf_59 (by decide) ?_
    refine lv_icmp_ne (tgt := 73) hx hb d_X_leaf_60 (by decide) (fun c9 => ?_) (fun c9 => ?_)
    · have hf := ite_f c9 hf
      refine lv_iload hx hb d_X_leaf_73 (lv_at hl 0 rfl) ?_
      obtain rfl := Option.some.inj hf
      refine W.widen (k := 1) (n := 6) (by omega) (by omega) (xm_ret ?_)
      exact W.iret (v := r8.1) hx hb hr (fun t ht hW => ⟨_, rfl, rfl, rfl, fun _ => 0, by rw [ht]; exact hP, hD, hS.F ht⟩) hS.2.2 d_X_leaf_75
    · have hf := ite_t c9 hf
      obtain rfl := Option.some.inj hf
      obtain ⟨sa10, hsa10⟩ := hSR (97, "there are 100 terms") (by decide)
      exact xthrow hx hb hst (names := ["java/lang/RuntimeException", "java/lang/Exception"]) hown (by decide) (by decide) hts k3_12 k1_16 k3_13 at_3 hsa10 hE (keepS hS hcS0 hnA) (hl.1.trans hml.symm) d_X_leaf_63 d_X_leaf_66 (Or.inl ⟨d_X_leaf_67, rfl⟩) d_X_leaf_69 d_X_leaf_72 hno (Nat.le_of_ble_eq_true rfl) (Nat.le_of_ble_eq_true rfl) (Nat.le_of_ble_eq_true rfl) (Nat.le_of_ble_eq_true rfl) hlocks (fun t h1 h2 => qt_of (Nat.succ_ne_zero 2) rfl (fun _ => 0) hP hD hS h1 h2) hS.2.2 (Nat.le_of_ble_eq_true rfl) (Nat.le_of_ble_eq_true rfl)
  have hB15 : ∀ (T_count_15 : Int32) (T_heads_15 : (Nat → Int32)) (T_places_15 : (Nat → Int32)) (T_olders_15 : (Nat → Int32)) (T_sizes_15 : (Nat → Int32)) (T_withins_15 : (Nat → Int64)) (T_newest_15 : (Nat → Int32)) (x1_15 : Int32) (x2_15 : Int32) (s0_15 : Int32) (s1_15 : Int32), ∀ (H : Heap) (locs : List Loc), va_P D vwCl (wv_87 cI cJ cZ aX aX_arities aT aT_heads aT_places aT_olders aT_sizes aT_withins aT_newest aS aM aF aE aH X_namesUsed T_count_15 nT_heads T_heads_15 nT_places T_places_15 nT_olders T_olders_15 nT_sizes T_sizes_15 nT_withins T_withins_15 T_newest_15) H → va_D A (wv_87 cI cJ cZ aX aX_arities aT aT_heads aT_places aT_olders aT_sizes aT_withins aT_newest aS aM aF aE aH X_namesUsed T_count_15 nT_heads T_heads_15 nT_places T_places_15 nT_olders T_olders_15 nT_sizes T_sizes_15 nT_withins T_withins_15 T_newest_15) → va_S A s.heap H locs → ∀ (ls : Array Slot), lv_has ls 5 [(0, .ref aX), (1, .int x1_15), (2, .int x2_15)] → f_X_leaf_B15 nT_heads nT_places nT_olders nT_sizes nT_withins T_count_15 T_heads_15 T_places_15 T_olders_15 T_sizes_15 T_withins_15 T_newest_15 x1_15 x2_15 s0_15 s1_15 = some o → W p l e (headSpec (ws_X_leaf) rm_X_leaf).room s m ([.ref aX, .int p0, .int p1] : List Value).toArray below meth c H locs 0 0 (XM below (QN D vwCl o.1 (some (.int o.2.1)) (fun as => (wv_87 cI cJ cZ aX aX_arities aT aT_heads aT_places aT_olders aT_sizes aT_withins aT_newest aS aM aF aE aH X_namesUsed o.2.2.1 nT_heads o.2.2.2.1 nT_places o.2.2.2.2.1 nT_olders o.2.2.2.2.2.1 nT_sizes o.2.2.2.2.2.2.1 nT_withins o.2.2.2.2.2.2.2.1 o.2.2.2.2.2.2.2.2)) A) (QT D vwCl o.1 (fun as => (wv_87 cI cJ cZ aX aX_arities aT aT_heads aT_places aT_olders aT_sizes aT_withins aT_newest aS aM aF aE aH X_namesUsed o.2.2.1 nT_heads o.2.2.2.1 nT_places o.2.2.2.2.1 nT_olders o.2.2.2.2.2.1 nT_sizes o.2.2.2.2.2.2.1 nT_withins o.2.2.2.2.2.2.2.1 o.2.2.2.2.2.2.2.2)) A) ([.ref aX, .int p0, .int p1] : List Value).toArray s 1 6 A) (F0 m 15 ls [.int s1_15, .int s0_15]) := by
    intro T_count_15 T_heads_15 T_places_15 T_olders_15 T_sizes_15 T_withins_15 T_newest_15 x1_15 x2_15 s0_15 s1_15 H locs hP hD hS ls hl hf
    rw [f_X_leaf_B15] at hf
    refine lv_icmp_lt (tgt := 28) hx hb d_X_leaf_15 (by decide) (fun c4 => ?_) (fun c4 => ?_)
    · have hf := ite_t c4 hf
      refine lv_iload_n hx hb d_X_leaf_28 rfl (lv_at hl 2 rfl) ?_
      refine lv_if_eq (tgt := 37) hx hb d_X_leaf_29 (by decide) (fun c5 => ?_) (fun c5 => ?_)
      · have hf := ite_t c5 hf
        refine lv_bipush (v := 30) hx hb d_X_leaf_37 (by decide) ?_
        exact hB39 _ _ _ _ _ _ _ _ _ _ _ hP hD hS _ (lv_sub hl [0, 1] rfl) hf
      · have hf := ite_f c5 hf
        refine lv_bipush (v := 38) hx hb d_X_leaf_32 (by decide) ?_
        refine lv_goto (tgt := 39) hx hb d_X_leaf_34 (by decide) ?_
        exact hB39 _ _ _ _ _ _ _ _ _ _ _ hP hD hS _ (lv_sub hl [0, 1] rfl) hf
    · have hf := ite_f c4 hf
      obtain rfl := Option.some.inj hf
      obtain ⟨sa6, hsa6⟩ := hSR (100, "no such variable or hole") (by decide)
      exact xthrow hx hb hst (names := ["java/lang/RuntimeException", "java/lang/Exception"]) hown (by decide) (by decide) hts k2_154 k1_13 k2_155 at_1 hsa6 hE (keepS hS hcS0 hnA) (hl.1.trans hml.symm) d_X_leaf_18 d_X_leaf_21 (Or.inl ⟨d_X_leaf_22, rfl⟩) d_X_leaf_24 d_X_leaf_27 hno (Nat.le_of_ble_eq_true rfl) (Nat.le_of_ble_eq_true rfl) (Nat.le_of_ble_eq_true rfl) (Nat.le_of_ble_eq_true rfl) hlocks (fun t h1 h2 => qt_of (Nat.succ_ne_zero 0) rfl (fun _ => 0) hP hD hS h1 h2) hS.2.2 (Nat.le_of_ble_eq_true rfl) (Nat.le_of_ble_eq_true rfl)
  rw [f_X_leaf] at hf
  refine lv_iload_n hx hb d_X_leaf_0 rfl (lv_at hl 1 rfl) ?_
  refine lv_if_lt (tgt := 18) hx hb d_X_leaf_1 (by decide) (fun c1 => ?_) (fun c1 => ?_)
  · have hf := ite_t c1 hf
    obtain rfl := Option.some.inj hf
    obtain ⟨sa2, hsa2⟩ := hSR (100, "no such variable or hole") (by decide)
    exact xthrow hx hb hst (names := ["java/lang/RuntimeException", "java/lang/Exception"]) hown (by decide) (by decide) hts k2_154 k1_13 k2_155 at_1 hsa2 hE (keepS hS hcS0 hnA) (hl.1.trans hml.symm) d_X_leaf_18 d_X_leaf_21 (Or.inl ⟨d_X_leaf_22, rfl⟩) d_X_leaf_24 d_X_leaf_27 hno (Nat.le_of_ble_eq_true rfl) (Nat.le_of_ble_eq_true rfl) (Nat.le_of_ble_eq_true rfl) (Nat.le_of_ble_eq_true rfl) hlocks (fun t h1 h2 => qt_of (Nat.succ_ne_zero 0) rfl (fun _ => 0) hP hD hS h1 h2) hS.2.2 (Nat.le_of_ble_eq_true rfl) (Nat.le_of_ble_eq_true rfl)
  · have hf := ite_f c1 hf
    refine lv_iload_n hx hb d_X_leaf_4 rfl (lv_at hl 1 rfl) ?_
    refine lv_iload_n hx hb d_X_leaf_5 rfl (lv_at hl 2 rfl) ?_
    refine lv_if_eq (tgt := 13) hx hb d_X_leaf_6 (by decide) (fun c3 => ?_) (fun c3 => ?_)
    · have hf := ite_t c3 hf
      refine lv_bipush (v := 8) hx hb d_X_leaf_13 (by decide) ?_
      exact hB15 _ _ _ _ _ _ _ _ _ _ _ _ _ hP hD hS _ (lv_sub hl [0, 1, 2] rfl) hf
    · have hf := ite_f c3 hf
      refine lv_iconst (v := 4) hx hb d_X_leaf_9 (by decide) ?_
      refine lv_goto (tgt := 15) hx hb d_X_leaf_10 (by decide) ?_
      exact hB15 _ _ _ _ _ _ _ _ _ _ _ _ _ hP hD hS _ (lv_sub hl [0, 1, 2] rfl) hf
def f_X_twin_L27 (T_count : Int32) (nT_heads : Nat) (T_heads : (Nat → Int32)) (nT_places : Nat) (T_places : (Nat → Int32)) (nT_withins : Nat) (T_withins : (Nat → Int64)) (S_count : Int32) (S_premises : (Nat → Int32)) (S_premiseCounts : (Nat → Int32)) (S_conclusions : (Nat → Int32)) : Nat → (Nat → Int32) → Int32 → Int32 → Option (Nat × Int32 × (Nat → Int32))
  | 0, _, _, _ => none
  | n + 1, M_images_27, x1_27, x2_27 =>
    if x1_27 ≤ x2_27 then
      some (0, (-1 : Int32), M_images_27)
    else
      (f_M_covers T_count nT_heads T_heads nT_places T_places nT_withins T_withins S_count S_premises S_premiseCounts S_conclusions M_images_27 x2_27 x1_27).bind fun r7 =>
      if r7.1 = 0 then
        nm (x2_27 + (1 : Int32)) fun x9 =>
        (f_X_twin_L27 T_count nT_heads T_heads nT_places T_places nT_withins T_withins S_count S_premises S_premiseCounts S_conclusions n) r7.2 x1_27 x9
      else
        (f_M_covers T_count nT_heads T_heads nT_places T_places nT_withins T_withins S_count S_premises S_premiseCounts S_conclusions r7.2 x1_27 x2_27).bind fun r10 =>
        if r10.1 = 0 then
          nm (x2_27 + (1 : Int32)) fun x12 =>
          (f_X_twin_L27 T_count nT_heads T_heads nT_places T_places nT_withins T_withins S_count S_premises S_premiseCounts S_conclusions n) r10.2 x1_27 x12
        else
          some (0, x2_27, r10.2)
def f_X_twin (T_count : Int32) (nT_heads : Nat) (T_heads : (Nat → Int32)) (nT_places : Nat) (T_places : (Nat → Int32)) (nT_withins : Nat) (T_withins : (Nat → Int64)) (S_count : Int32) (S_premises : (Nat → Int32)) (S_premiseCounts : (Nat → Int32)) (S_conclusions : (Nat → Int32)) (M_images : (Nat → Int32)) (p0 : Int32) : Option (Nat × Int32 × (Nat → Int32)) :=
  if p0 < 0 then
    some (1, (0 : Int32), M_images)
  else
    (f_S_count S_count).bind fun r3 =>
    if p0 < r3 then
      f_X_twin_L27 T_count nT_heads T_heads nT_places T_places nT_withins T_withins S_count S_premises S_premiseCounts S_conclusions FU M_images p0 (0 : Int32)
    else
      some (1, (0 : Int32), M_images)
abbrev rm_X_twin : Room := { frames := 6, cells := 1, slots := 6, locals := 99 }
set_option maxHeartbeats 4000000 in
set_option maxRecDepth 100000 in
theorem c_X_twin (l : Launch) (D : va_G) (cI cJ cZ : ClassId) (aX aX_arities aT aT_heads aT_places aT_olders aT_sizes aT_withins aT_newest aS aS_premises aS_premiseCounts aS_conclusions aS_order aM aM_images aM_path aF aE aH : Nat) (sz : Nat) (X_namesUsed : Int32) (T_count : Int32) (nT_heads : Nat) (T_heads : (Nat → Int32)) (nT_places : Nat) (T_places : (Nat → Int32)) (nT_withins : Nat) (T_withins : (Nat → Int64)) (S_count : Int32) (S_premises : (Nat → Int32)) (S_premiseCounts : (Nat → Int32)) (S_conclusions : (Nat → Int32)) (M_images : (Nat → Int32)) (p0 : Int32) (aK : Nat) (cK : Cell) (hst : l.stackTraces = false) (o : Nat × Int32 × (Nat → Int32)) (hf : f_X_twin T_count nT_heads T_heads nT_places T_places nT_withins T_withins S_count S_premises S_premiseCounts S_conclusions M_images p0 = some o) : XMet l y_X_twin (ws_X_twin) rm_X_twin (XPc D vwCl cI cJ cZ aK cK [.ref aX, .int p0] (wv_88 cI cJ cZ aX aX_arities aT aT_heads aT_places aT_olders aT_sizes aT_withins aT_newest aS aS_premises aS_premiseCounts aS_conclusions aS_order aM aM_images aM_path aF aE aH X_namesUsed T_count nT_heads T_heads nT_places T_places nT_withins T_withins S_count S_premises S_premiseCounts S_conclusions M_images) sz) (QN D vwCl o.1 (some (.int o.2.1)) (fun as => (wv_88 cI cJ cZ aX aX_arities aT aT_heads aT_places aT_olders aT_sizes aT_withins aT_newest aS aS_premises aS_premiseCounts aS_conclusions aS_order aM aM_images aM_path aF aE aH X_namesUsed T_count nT_heads T_heads nT_places T_places nT_withins T_withins S_count S_premises S_premiseCounts S_conclusions o.2.2)) (va_A (wv_88 cI cJ cZ aX aX_arities aT aT_heads aT_places aT_olders aT_sizes aT_withins aT_newest aS aS_premises aS_premiseCounts aS_conclusions aS_order aM aM_images aM_path aF aE aH X_namesUsed T_count nT_heads T_heads nT_places T_places nT_withins T_withins S_count S_premises S_premiseCounts S_conclusions M_images) sz)) (QT D vwCl o.1 (fun as => (wv_88 cI cJ cZ aX aX_arities aT aT_heads aT_places aT_olders aT_sizes aT_withins aT_newest aS aS_premises aS_premiseCounts aS_conclusions aS_order aM aM_images aM_path aF aE aH X_namesUsed T_count nT_heads T_heads nT_places T_places nT_withins T_withins S_count S_premises S_premiseCounts S_conclusions o.2.2)) (va_A (wv_88 cI cJ cZ aX aX_arities aT aT_heads aT_places aT_olders aT_sizes aT_withins aT_newest aS aS_premises aS_premiseCounts aS_conclusions aS_order aM aM_images aM_path aF aE aH X_namesUsed T_count nT_heads T_heads nT_places T_places nT_withins T_withins S_count S_premises S_premiseCounts S_conclusions M_images) sz)) 1 6 (va_A (wv_88 cI cJ cZ aX aX_arities aT aT_heads aT_places aT_olders aT_sizes aT_withins aT_newest aS aS_premises aS_premiseCounts aS_conclusions aS_order aM aM_images aM_path aF aE aH X_namesUsed T_count nT_heads T_heads nT_places T_places nT_withins T_withins S_count S_premises S_premiseCounts S_conclusions M_images) sz) := by
  refine XMet.ofW (cc := b_X_twin) (maxL := 3) (ret := (some .int)) (by decide) rfl ?_
  intro p e s m args below meth c s₁ B hml hno hv
  obtain ⟨rfl, rfl, hP, hK, hD0, ⟨hcS0, hE, hSR⟩, hnA⟩ := hv
  have hx := B.exec
  have hb := B.bytes
  have hr := B.returns
  have hts : ∀ w ∈ BG, w.before _ s = true := fun w h => atoms_spec (ws := (ws_X_twin)) B.pre w (List.mem_cons_of_mem _ h)
  have hown : s.vm.findClass RR_X = some m.cls := findClass_of_methodNamed B.named
  have hlocks := B.notSynchronized
  have hD := hD0.self (sz := s.heap.size)
  have hA : ∀ q : Nat, s.heap.size ≤ q → va_A (wv_88 cI cJ cZ aX aX_arities aT aT_heads aT_places aT_olders aT_sizes aT_withins aT_newest aS aS_premises aS_premiseCounts aS_conclusions aS_order aM aM_images aM_path aF aE aH X_namesUsed T_count nT_heads T_heads nT_places T_places nT_withins T_withins S_count S_premises S_premiseCounts S_conclusions M_images) s.heap.size q := fun q h => Or.inr h
  have hS : va_S (va_A (wv_88 cI cJ cZ aX aX_arities aT aT_heads aT_places aT_olders aT_sizes aT_withins aT_newest aS aS_premises aS_premiseCounts aS_conclusions aS_order aM aM_images aM_path aF aE aH X_namesUsed T_count nT_heads T_heads nT_places T_places nT_withins T_withins S_count S_premises S_premiseCounts S_conclusions M_images) s.heap.size) s.heap s.heap [] := va_S.rf
  generalize va_A (wv_88 cI cJ cZ aX aX_arities aT aT_heads aT_places aT_olders aT_sizes aT_withins aT_newest aS aS_premises aS_premiseCounts aS_conclusions aS_order aM aM_images aM_path aF aE aH X_namesUsed T_count nT_heads T_heads nT_places T_places nT_withins T_withins S_count S_premises S_premiseCounts S_conclusions M_images) s.heap.size = A at hD hA hS hnA ⊢
  have hl := lv_entry ([.ref aX, .int p0]) (n := 3) (Nat.le_of_ble_eq_true rfl)
  rw [lg_entry_eq]
  generalize (lg_sl ([.ref aX, .int p0]) ++ List.replicate (3 - (lg_sl ([.ref aX, .int p0])).length) Slot.unset).toArray = ls at hl ⊢
  have hl : lv_has ls 3 [(0, .ref aX), (1, .int p0)] := hl
  have hL27 : ∀ (n27 : Nat), ∀ (M_images_27 : (Nat → Int32)) (x1_27 : Int32) (x2_27 : Int32), ∀ (H : Heap) (locs : List Loc), va_P D vwCl (wv_88 cI cJ cZ aX aX_arities aT aT_heads aT_places aT_olders aT_sizes aT_withins aT_newest aS aS_premises aS_premiseCounts aS_conclusions aS_order aM aM_images aM_path aF aE aH X_namesUsed T_count nT_heads T_heads nT_places T_places nT_withins T_withins S_count S_premises S_premiseCounts S_conclusions M_images_27) H → va_D A (wv_88 cI cJ cZ aX aX_arities aT aT_heads aT_places aT_olders aT_sizes aT_withins aT_newest aS aS_premises aS_premiseCounts aS_conclusions aS_order aM aM_images aM_path aF aE aH X_namesUsed T_count nT_heads T_heads nT_places T_places nT_withins T_withins S_count S_premises S_premiseCounts S_conclusions M_images_27) → va_S A s.heap H locs → ∀ (ls : Array Slot), lv_has ls 3 [(0, .ref aX), (1, .int x1_27), (2, .int x2_27)] → f_X_twin_L27 T_count nT_heads T_heads nT_places T_places nT_withins T_withins S_count S_premises S_premiseCounts S_conclusions n27 M_images_27 x1_27 x2_27 = some o → W p l e (headSpec (ws_X_twin) rm_X_twin).room s m ([.ref aX, .int p0] : List Value).toArray below meth c H locs 0 0 (XM below (QN D vwCl o.1 (some (.int o.2.1)) (fun as => (wv_88 cI cJ cZ aX aX_arities aT aT_heads aT_places aT_olders aT_sizes aT_withins aT_newest aS aS_premises aS_premiseCounts aS_conclusions aS_order aM aM_images aM_path aF aE aH X_namesUsed T_count nT_heads T_heads nT_places T_places nT_withins T_withins S_count S_premises S_premiseCounts S_conclusions o.2.2)) A) (QT D vwCl o.1 (fun as => (wv_88 cI cJ cZ aX aX_arities aT aT_heads aT_places aT_olders aT_sizes aT_withins aT_newest aS aS_premises aS_premiseCounts aS_conclusions aS_order aM aM_images aM_path aF aE aH X_namesUsed T_count nT_heads T_heads nT_places T_places nT_withins T_withins S_count S_premises S_premiseCounts S_conclusions o.2.2)) A) ([.ref aX, .int p0] : List Value).toArray s 1 6 A) (F0 m 27 ls []) := by
    intro n27
    induction n27 with
    | zero =>
      intro M_images_27 x1_27 x2_27 H locs hP hD hS ls hl hf
      rw [f_X_twin_L27] at hf
      cases hf
    | succ n27 ih27 =>
      intro M_images_27 x1_27 x2_27 H locs hP hD hS ls hl hf
      rw [f_X_twin_L27] at hf
      refine lv_iload_n hx hb d_X_twin_27 rfl (lv_at hl 2 rfl) ?_
      refine lv_iload_n hx hb d_X_twin_28 rfl (lv_at hl 1 rfl) ?_
      refine lv_icmp_ge (tgt := 72) hx hb d_X_twin_29 (by decide) (fun c6 => ?_) (fun c6 => ?_)
      · have hf := ite_t c6 hf
        refine lv_iconst (v := -1) hx hb d_X_twin_72 (by decide) ?_
        obtain rfl := Option.some.inj hf
        refine W.widen (k := 1) (n := 6) (by omega) (by omega) (xm_ret ?_)
        exact W.iret (v := (-1 : Int32)) hx hb hr (fun t ht hW => ⟨_, rfl, rfl, rfl, fun _ => 0, by rw [ht]; exact hP, hD, hS.F ht⟩) hS.2.2 d_X_twin_73
      · have hf := ite_f c6 hf
        refine lv_aload_n hx hb d_X_twin_32 rfl (lv_at hl 0 rfl) ?_
        refine va_get (D := D) (ci := 0) (v := .ref aM) (C := RR_X) (T := FF_X) (N := 8) hx hb hts kin_X hown hK.1 hP 0 rfl rfl 4 (by decide) (hts _ k1_207) (fun _ h9 => h9) rfl d_X_twin_33 ?_
        refine lv_aload_n hx hb d_X_twin_36 rfl (lv_at hl 0 rfl) ?_
        refine va_get (D := D) (ci := 0) (v := .ref aS) (C := RR_X) (T := FF_X) (N := 8) hx hb hts kin_X hown hK.1 hP 0 rfl rfl 3 (by decide) (hts _ k1_206) (fun _ h9 => h9) rfl d_X_twin_37 ?_
        refine lv_iload_n hx hb d_X_twin_40 rfl (lv_at hl 2 rfl) ?_
        refine lv_iload_n hx hb d_X_twin_41 rfl (lv_at hl 1 rfl) ?_
        obtain ⟨r7, hr7, hf⟩ := of_bd hf
        refine wr_call (ws' := (wv_88 cI cJ cZ aX aX_arities aT aT_heads aT_places aT_olders aT_sizes aT_withins aT_newest aS aS_premises aS_premiseCounts aS_conclusions aS_order aM aM_images aM_path aF aE aH X_namesUsed T_count nT_heads T_heads nT_places T_places nT_withins T_withins S_count S_premises S_premiseCounts S_conclusions r7.2)) (va_runV (As := [.ref aS, .int x2_27, .int x1_27]) (rest := []) ⟨hx, hb, hml, hown, hts⟩ (c_M_covers l D cI cJ cZ aT aT_heads aT_places aT_olders aT_sizes aT_withins aT_newest aS aS_premises aS_premiseCounts aS_conclusions aS_order aM aM_images aM_path _ T_count nT_heads T_heads nT_places T_places nT_withins T_withins S_count S_premises S_premiseCounts S_conclusions M_images_27 x2_27 x1_27 r7 hr7) (bigV 3 hts k3_198 k3_199 k3_200 k1_5 k3_201 rfl rfl hd_M_covers ⟨Nat.le_of_ble_eq_true rfl, Nat.le_of_ble_eq_true rfl⟩) (wr_preV hK hP hD [1, 2, 3, 4, 5, 6, 7, 8, 9, 10] rfl (by decide) rfl 9 rfl rfl rfl) rfl rfl hl.1 rfl (lv_room (Nat.le_of_ble_eq_true rfl)) d_X_twin_42 ⟨Nat.le_of_ble_eq_true rfl, Nat.le_of_ble_eq_true rfl⟩) hP hD hS hA [1, 2, 3, 4, 5, 6, 7, 8, 9, 10] [0] rfl rfl (by decide) (by decide) [0, 1, 2, 3, 4, 5, 6, 7, 8, 9, 10] (by decide) rfl (fun H locs hP hD hS => ?_)
        refine lv_if_eq (tgt := 66) hx hb d_X_twin_45 (by decide) (fun c8 => ?_) (fun c8 => ?_)
        · have hf := ite_t c8 hf
          obtain ⟨x9, ex9⟩ : ∃ y : Int32, y = x2_27 + (1 : Int32) := ⟨_, rfl⟩
          refine lv_iinc (v := x9) (lv' := [(2, .int x9), (0, .ref aX), (1, .int x1_27)]) hx hb d_X_twin_66 hl (k := 2) rfl (by rw [ex9]; rfl) (by decide) rfl (fun ls hl => ?_)
          have hf := of_nm ex9 hf
          refine lv_goto (tgt := 27) hx hb d_X_twin_69 (by decide) ?_
          exact ih27 _ _ _ _ _ hP hD hS _ (lv_sub hl [1, 2, 0] rfl) hf
        · have hf := ite_f c8 hf
          refine lv_aload_n hx hb d_X_twin_48 rfl (lv_at hl 0 rfl) ?_
          refine va_get (D := D) (ci := 0) (v := .ref aM) (C := RR_X) (T := FF_X) (N := 8) hx hb hts kin_X hown hK.1 hP 0 rfl rfl 4 (by decide) (hts _ k1_207) (fun _ h9 => h9) rfl d_X_twin_49 ?_
          refine lv_aload_n hx hb d_X_twin_52 rfl (lv_at hl 0 rfl) ?_
          refine va_get (D := D) (ci := 0) (v := .ref aS) (C := RR_X) (T := FF_X) (N := 8) hx hb hts kin_X hown hK.1 hP 0 rfl rfl 3 (by decide) (hts _ k1_206) (fun _ h9 => h9) rfl d_X_twin_53 ?_
          refine lv_iload_n hx hb d_X_twin_56 rfl (lv_at hl 1 rfl) ?_
          refine lv_iload_n hx hb d_X_twin_57 rfl (lv_at hl 2 rfl) ?_
          obtain ⟨r10, hr10, hf⟩ := of_bd hf
          refine wr_call (ws' := (wv_88 cI cJ cZ aX aX_arities aT aT_heads aT_places aT_olders aT_sizes aT_withins aT_newest aS aS_premises aS_premiseCounts aS_conclusions aS_order aM aM_images aM_path aF aE aH X_namesUsed T_count nT_heads T_heads nT_places T_places nT_withins T_withins S_count S_premises S_premiseCounts S_conclusions r10.2)) (va_runV (As := [.ref aS, .int x1_27, .int x2_27]) (rest := []) ⟨hx, hb, hml, hown, hts⟩ (c_M_covers l D cI cJ cZ aT aT_heads aT_places aT_olders aT_sizes aT_withins aT_newest aS aS_premises aS_premiseCounts aS_conclusions aS_order aM aM_images aM_path _ T_count nT_heads T_heads nT_places T_places nT_withins T_withins S_count S_premises S_premiseCounts S_conclusions r7.2 x1_27 x2_27 r10 hr10) (bigV 3 hts k3_198 k3_199 k3_200 k1_5 k3_201 rfl rfl hd_M_covers ⟨Nat.le_of_ble_eq_true rfl, Nat.le_of_ble_eq_true rfl⟩) (wr_preV hK hP hD [1, 2, 3, 4, 5, 6, 7, 8, 9, 10] rfl (by decide) rfl 9 rfl rfl rfl) rfl rfl hl.1 rfl (lv_room (Nat.le_of_ble_eq_true rfl)) d_X_twin_58 ⟨Nat.le_of_ble_eq_true rfl, Nat.le_of_ble_eq_true rfl⟩) hP hD hS hA [1, 2, 3, 4, 5, 6, 7, 8, 9, 10] [0] rfl rfl (by decide) (by decide) [0, 1, 2, 3, 4, 5, 6, 7, 8, 9, 10] (by decide) rfl (fun H locs hP hD hS => ?_)
          refine lv_if_eq (tgt := 66) hx hb d_X_twin_61 (by decide) (fun c11 => ?_) (fun c11 => ?_)
          · have hf := ite_t c11 hf
            obtain ⟨x12, ex12⟩ : ∃ y : Int32, y = x2_27 + (1 : Int32) := ⟨_, rfl⟩
            refine lv_iinc (v := x12) (lv' := [(2, .int x12), (0, .ref aX), (1, .int x1_27)]) hx hb d_X_twin_66 hl (k := 2) rfl (by rw [ex12]; rfl) (by decide) rfl (fun ls hl => ?_)
            have hf := of_nm ex12 hf
            refine lv_goto (tgt := 27) hx hb d_X_twin_69 (by decide) ?_
            exact ih27 _ _ _ _ _ hP hD hS _ (lv_sub hl [1, 2, 0] rfl) hf
          · have hf := ite_f c11 hf
            refine lv_iload_n hx hb d_X_twin_64 rfl (lv_at hl 2 rfl) ?_
            obtain rfl := Option.some.inj hf
            refine W.widen (k := 1) (n := 6) (by omega) (by omega) (xm_ret ?_)
            exact W.iret (v := x2_27) hx hb hr (fun t ht hW => ⟨_, rfl, rfl, rfl, fun _ => 0, by rw [ht]; exact hP, hD, hS.F ht⟩) hS.2.2 d_X_twin_65
  rw [f_X_twin] at hf
  refine lv_iload_n hx hb d_X_twin_0 rfl (lv_at hl 1 rfl) ?_
  refine lv_if_lt (tgt := 15) hx hb d_X_twin_1 (by decide) (fun c1 => ?_) (fun c1 => ?_)
  · have hf := ite_t c1 hf
    obtain rfl := Option.some.inj hf
    obtain ⟨sa2, hsa2⟩ := hSR (239, "no such statement") (by decide)
    exact xthrow hx hb hst (names := ["java/lang/RuntimeException", "java/lang/Exception"]) hown (by decide) (by decide) hts k2_154 k1_13 k2_155 at_1 hsa2 hE (keepS hS hcS0 hnA) (hl.1.trans hml.symm) d_X_twin_15 d_X_twin_18 (Or.inl ⟨d_X_twin_19, rfl⟩) d_X_twin_21 d_X_twin_24 hno (Nat.le_of_ble_eq_true rfl) (Nat.le_of_ble_eq_true rfl) (Nat.le_of_ble_eq_true rfl) (Nat.le_of_ble_eq_true rfl) hlocks (fun t h1 h2 => qt_of (Nat.succ_ne_zero 0) rfl (fun _ => 0) hP hD hS h1 h2) hS.2.2 (Nat.le_of_ble_eq_true rfl) (Nat.le_of_ble_eq_true rfl)
  · have hf := ite_f c1 hf
    refine lv_iload_n hx hb d_X_twin_4 rfl (lv_at hl 1 rfl) ?_
    refine lv_aload_n hx hb d_X_twin_5 rfl (lv_at hl 0 rfl) ?_
    refine va_get (D := D) (ci := 0) (v := .ref aS) (C := RR_X) (T := FF_X) (N := 8) hx hb hts kin_X hown hK.1 hP 0 rfl rfl 3 (by decide) (hts _ k1_206) (fun _ h9 => h9) rfl d_X_twin_6 ?_
    obtain ⟨r3, hr3, hf⟩ := of_bd hf
    refine rd_call (va_runV (As := []) (rest := [.int p0]) ⟨hx, hb, hml, hown, hts⟩ (c_S_count l D cI cJ cZ aS aS_premises aS_premiseCounts aS_conclusions aS_order S_count r3 hr3) (bigV 0 hts k2_129 k2_130 k2_131 k1_4 k2_132 rfl rfl hd_S_count ⟨Nat.le_of_ble_eq_true rfl, Nat.le_of_ble_eq_true rfl⟩) (rd_preV hK hP [5] rfl 5 rfl rfl rfl) rfl rfl hl.1 rfl (lv_room (Nat.le_of_ble_eq_true rfl)) d_X_twin_9 ⟨Nat.le_of_ble_eq_true rfl, Nat.le_of_ble_eq_true rfl⟩) ?_
    refine lv_icmp_lt (tgt := 25) hx hb d_X_twin_12 (by decide) (fun c4 => ?_) (fun c4 => ?_)
    · have hf := ite_t c4 hf
      refine lv_iconst (v := 0) hx hb d_X_twin_25 (by decide) ?_
      refine lv_istore_n (lv' := [(2, .int (0 : Int32)), (0, .ref aX), (1, .int p0)]) hx hb d_X_twin_26 rfl hl (by decide) rfl (fun ls hl => ?_)
      exact hL27 FU _ _ _ _ _ hP hD hS _ (lv_sub hl [1, 2, 0] rfl) hf
    · have hf := ite_f c4 hf
      obtain rfl := Option.some.inj hf
      obtain ⟨sa5, hsa5⟩ := hSR (239, "no such statement") (by decide)
      exact xthrow hx hb hst (names := ["java/lang/RuntimeException", "java/lang/Exception"]) hown (by decide) (by decide) hts k2_154 k1_13 k2_155 at_1 hsa5 hE (keepS hS hcS0 hnA) (hl.1.trans hml.symm) d_X_twin_15 d_X_twin_18 (Or.inl ⟨d_X_twin_19, rfl⟩) d_X_twin_21 d_X_twin_24 hno (Nat.le_of_ble_eq_true rfl) (Nat.le_of_ble_eq_true rfl) (Nat.le_of_ble_eq_true rfl) (Nat.le_of_ble_eq_true rfl) hlocks (fun t h1 h2 => qt_of (Nat.succ_ne_zero 0) rfl (fun _ => 0) hP hD hS h1 h2) hS.2.2 (Nat.le_of_ble_eq_true rfl) (Nat.le_of_ble_eq_true rfl)
