abbrev b_T_makeRoom : ByteArray := prog_7_method_12_code
abbrev y_T_makeRoom : MethodName := ⟨"ShapeSearch$Terms", "makeRoom", "()V"⟩
abbrev ws_T_makeRoom : List Cond := .code y_T_makeRoom b_T_makeRoom 2 (none : Option Jvm.ClassFile.FieldType) :: BG
theorem hd_T_makeRoom : y_T_makeRoom.cls ≠ "java/lang/invoke/MethodHandle" ∧ y_T_makeRoom.cls ≠ "java/lang/invoke/VarHandle" ∧ (parseMethodDescriptor y_T_makeRoom.desc).map (fun d => d.parameters.length) = some 0 := by decide +kernel
theorem d_T_makeRoom_0 : decode b_T_makeRoom 0 = .ok (.aload_n 0, 1) := by decide +kernel
theorem d_T_makeRoom_1 : decode b_T_makeRoom 1 = .ok (.getfield 37, 3) := by decide +kernel
theorem d_T_makeRoom_4 : decode b_T_makeRoom 4 = .ok (.bipush 100, 2) := by decide +kernel
theorem d_T_makeRoom_6 : decode b_T_makeRoom 6 = .ok (.iadd, 1) := by decide +kernel
theorem d_T_makeRoom_7 : decode b_T_makeRoom 7 = .ok (.aload_n 0, 1) := by decide +kernel
theorem d_T_makeRoom_8 : decode b_T_makeRoom 8 = .ok (.getfield 11, 3) := by decide +kernel
theorem d_T_makeRoom_11 : decode b_T_makeRoom 11 = .ok (.arraylength, 1) := by decide +kernel
theorem d_T_makeRoom_12 : decode b_T_makeRoom 12 = .ok (.if_icmp .le 14, 3) := by decide +kernel
theorem d_T_makeRoom_15 : decode b_T_makeRoom 15 = .ok (.aload_n 0, 1) := by decide +kernel
theorem d_T_makeRoom_16 : decode b_T_makeRoom 16 = .ok (.getfield 11, 3) := by decide +kernel
theorem d_T_makeRoom_19 : decode b_T_makeRoom 19 = .ok (.arraylength, 1) := by decide +kernel
theorem d_T_makeRoom_20 : decode b_T_makeRoom 20 = .ok (.sipush 10000, 3) := by decide +kernel
theorem d_T_makeRoom_23 : decode b_T_makeRoom 23 = .ok (.if_icmp .lt 4, 3) := by decide +kernel
theorem d_T_makeRoom_26 : decode b_T_makeRoom 26 = .ok (.return_, 1) := by decide +kernel
theorem d_T_makeRoom_27 : decode b_T_makeRoom 27 = .ok (.iconst 2, 1) := by decide +kernel
theorem d_T_makeRoom_28 : decode b_T_makeRoom 28 = .ok (.aload_n 0, 1) := by decide +kernel
theorem d_T_makeRoom_29 : decode b_T_makeRoom 29 = .ok (.getfield 11, 3) := by decide +kernel
theorem d_T_makeRoom_32 : decode b_T_makeRoom 32 = .ok (.arraylength, 1) := by decide +kernel
theorem d_T_makeRoom_33 : decode b_T_makeRoom 33 = .ok (.imul, 1) := by decide +kernel
theorem d_T_makeRoom_34 : decode b_T_makeRoom 34 = .ok (.sipush 10000, 3) := by decide +kernel
theorem d_T_makeRoom_37 : decode b_T_makeRoom 37 = .ok (.invokestatic 54, 3) := by decide +kernel
theorem d_T_makeRoom_40 : decode b_T_makeRoom 40 = .ok (.istore_n 1, 1) := by decide +kernel
theorem d_T_makeRoom_41 : decode b_T_makeRoom 41 = .ok (.aload_n 0, 1) := by decide +kernel
theorem d_T_makeRoom_42 : decode b_T_makeRoom 42 = .ok (.aload_n 0, 1) := by decide +kernel
theorem d_T_makeRoom_43 : decode b_T_makeRoom 43 = .ok (.getfield 11, 3) := by decide +kernel
theorem d_T_makeRoom_46 : decode b_T_makeRoom 46 = .ok (.iload_n 1, 1) := by decide +kernel
theorem d_T_makeRoom_47 : decode b_T_makeRoom 47 = .ok (.invokestatic 70, 3) := by decide +kernel
theorem d_T_makeRoom_50 : decode b_T_makeRoom 50 = .ok (.putfield 11, 3) := by decide +kernel
theorem d_T_makeRoom_53 : decode b_T_makeRoom 53 = .ok (.aload_n 0, 1) := by decide +kernel
theorem d_T_makeRoom_54 : decode b_T_makeRoom 54 = .ok (.aload_n 0, 1) := by decide +kernel
theorem d_T_makeRoom_55 : decode b_T_makeRoom 55 = .ok (.getfield 15, 3) := by decide +kernel
theorem d_T_makeRoom_58 : decode b_T_makeRoom 58 = .ok (.iload_n 1, 1) := by decide +kernel
theorem d_T_makeRoom_59 : decode b_T_makeRoom 59 = .ok (.iconst 3, 1) := by decide +kernel
theorem d_T_makeRoom_60 : decode b_T_makeRoom 60 = .ok (.imul, 1) := by decide +kernel
theorem d_T_makeRoom_61 : decode b_T_makeRoom 61 = .ok (.invokestatic 70, 3) := by decide +kernel
theorem d_T_makeRoom_64 : decode b_T_makeRoom 64 = .ok (.putfield 15, 3) := by decide +kernel
theorem d_T_makeRoom_67 : decode b_T_makeRoom 67 = .ok (.aload_n 0, 1) := by decide +kernel
theorem d_T_makeRoom_68 : decode b_T_makeRoom 68 = .ok (.aload_n 0, 1) := by decide +kernel
theorem d_T_makeRoom_69 : decode b_T_makeRoom 69 = .ok (.getfield 18, 3) := by decide +kernel
theorem d_T_makeRoom_72 : decode b_T_makeRoom 72 = .ok (.iload_n 1, 1) := by decide +kernel
theorem d_T_makeRoom_73 : decode b_T_makeRoom 73 = .ok (.invokestatic 70, 3) := by decide +kernel
theorem d_T_makeRoom_76 : decode b_T_makeRoom 76 = .ok (.putfield 18, 3) := by decide +kernel
theorem d_T_makeRoom_79 : decode b_T_makeRoom 79 = .ok (.aload_n 0, 1) := by decide +kernel
theorem d_T_makeRoom_80 : decode b_T_makeRoom 80 = .ok (.aload_n 0, 1) := by decide +kernel
theorem d_T_makeRoom_81 : decode b_T_makeRoom 81 = .ok (.getfield 21, 3) := by decide +kernel
theorem d_T_makeRoom_84 : decode b_T_makeRoom 84 = .ok (.iload_n 1, 1) := by decide +kernel
theorem d_T_makeRoom_85 : decode b_T_makeRoom 85 = .ok (.invokestatic 70, 3) := by decide +kernel
theorem d_T_makeRoom_88 : decode b_T_makeRoom 88 = .ok (.putfield 21, 3) := by decide +kernel
theorem d_T_makeRoom_91 : decode b_T_makeRoom 91 = .ok (.aload_n 0, 1) := by decide +kernel
theorem d_T_makeRoom_92 : decode b_T_makeRoom 92 = .ok (.aload_n 0, 1) := by decide +kernel
theorem d_T_makeRoom_93 : decode b_T_makeRoom 93 = .ok (.getfield 24, 3) := by decide +kernel
theorem d_T_makeRoom_96 : decode b_T_makeRoom 96 = .ok (.iload_n 1, 1) := by decide +kernel
theorem d_T_makeRoom_97 : decode b_T_makeRoom 97 = .ok (.invokestatic 74, 3) := by decide +kernel
theorem d_T_makeRoom_100 : decode b_T_makeRoom 100 = .ok (.putfield 24, 3) := by decide +kernel
theorem d_T_makeRoom_103 : decode b_T_makeRoom 103 = .ok (.return_, 1) := by decide +kernel
theorem k4_20 : Cond.methodLink "ShapeSearch$Terms" 70 ⟨"java/util/Arrays", "copyOf", "([II)[I"⟩ ∈ BG := List.mem_filter.mpr ⟨in_4 (List.mem_of_getElem? (i := 20) rfl), rfl⟩
theorem k4_21 : Cond.static ⟨"java/util/Arrays", "copyOf", "([II)[I"⟩ ∈ BG := List.mem_filter.mpr ⟨in_4 (List.mem_of_getElem? (i := 21) rfl), rfl⟩
theorem k4_22 : Cond.code ⟨"java/util/Arrays", "copyOf", "([II)[I"⟩ prog_22_method_123_code 3 (Option.some (.array .int)) ∈ BG := List.mem_filter.mpr ⟨in_4 (List.mem_of_getElem? (i := 22) rfl), rfl⟩
theorem k4_34 : Cond.methodLink "ShapeSearch$Terms" 74 ⟨"java/util/Arrays", "copyOf", "([JI)[J"⟩ ∈ BG := List.mem_filter.mpr ⟨in_4 (List.mem_of_getElem? (i := 34) rfl), rfl⟩
theorem k4_35 : Cond.static ⟨"java/util/Arrays", "copyOf", "([JI)[J"⟩ ∈ BG := List.mem_filter.mpr ⟨in_4 (List.mem_of_getElem? (i := 35) rfl), rfl⟩
theorem k4_36 : Cond.code ⟨"java/util/Arrays", "copyOf", "([JI)[J"⟩ prog_22_method_124_code 3 (Option.some (.array .long)) ∈ BG := List.mem_filter.mpr ⟨in_4 (List.mem_of_getElem? (i := 36) rfl), rfl⟩
abbrev wv_84 (cI cJ cZ : ClassId) (aT aT_heads aT_places aT_olders aT_sizes aT_withins aT_newest : Nat) (T_count : Int32) (nT_heads : Nat) (T_heads : (Nat → Int32)) (nT_places : Nat) (T_places : (Nat → Int32)) (nT_olders : Nat) (T_olders : (Nat → Int32)) (nT_sizes : Nat) (T_sizes : (Nat → Int32)) (nT_withins : Nat) (T_withins : (Nat → Int64)) : va_W := [(aT, .inr (1, [.ref aT_heads, .ref aT_places, .ref aT_olders, .ref aT_sizes, .ref aT_withins, .ref aT_newest, .int T_count])), (aT_heads, .inl (cI, nT_heads, .inl T_heads)), (aT_places, .inl (cI, nT_places, .inl T_places)), (aT_olders, .inl (cI, nT_olders, .inl T_olders)), (aT_sizes, .inl (cI, nT_sizes, .inl T_sizes)), (aT_withins, .inl (cJ, nT_withins, .inr (.inl T_withins)))]
def f_T_makeRoom (T_count : Int32) (nT_heads : Nat) (T_heads : (Nat → Int32)) (nT_places : Nat) (T_places : (Nat → Int32)) (nT_olders : Nat) (T_olders : (Nat → Int32)) (nT_sizes : Nat) (T_sizes : (Nat → Int32)) (nT_withins : Nat) (T_withins : (Nat → Int64)) : Option (Nat × (Nat → Int32) × Nat × (Nat → Int32) × Nat × (Nat → Int32) × Nat × (Nat → Int32) × Nat × (Nat → Int64)) :=
  if T_count + (100 : Int32) ≤ Int32.ofNat nT_heads then some (nT_heads, T_heads, nT_places, T_places, nT_olders, T_olders, nT_sizes, T_sizes, nT_withins, T_withins)
  else if Int32.ofNat nT_heads < (10000 : Int32) then
    nm (if (10000 : Int32) < (2 : Int32) * (Int32.ofNat nT_heads) then (10000 : Int32) else (2 : Int32) * (Int32.ofNat nT_heads)) fun x1 =>
    gd (cpk (x1) nT_heads) <| gd (cpk (x1 * (3 : Int32)) nT_places) <| gd (cpk (x1) nT_olders) <| gd (cpk (x1) nT_sizes) <| gd (cpk (x1) nT_withins) <|
    gd (decide (5 ≤ PC nT_heads - PC x1.toNatClampNeg ∧ (x1).toNatClampNeg + (x1 * (3 : Int32)).toNatClampNeg + (x1).toNatClampNeg + (x1).toNatClampNeg + (x1).toNatClampNeg ≤ PS nT_heads - PS x1.toNatClampNeg)) <|
    gd (decide (nT_heads ≤ x1.toNatClampNeg)) <|
    some ((x1).toNatClampNeg, va_cpy T_heads (fun _ => 0) 0 0 nT_heads, (x1 * (3 : Int32)).toNatClampNeg, va_cpy T_places (fun _ => 0) 0 0 nT_places, (x1).toNatClampNeg, va_cpy T_olders (fun _ => 0) 0 0 nT_olders, (x1).toNatClampNeg, va_cpy T_sizes (fun _ => 0) 0 0 nT_sizes, (x1).toNatClampNeg, va_cpy T_withins (fun _ => 0) 0 0 nT_withins)
  else some (nT_heads, T_heads, nT_places, T_places, nT_olders, T_olders, nT_sizes, T_sizes, nT_withins, T_withins)
abbrev rm_T_makeRoom (c s : Nat) : Room := { frames := 2, cells := c, slots := s, locals := 82 }
set_option maxHeartbeats 4000000 in
set_option maxRecDepth 100000 in
theorem c_T_makeRoom (l : Launch) (D : va_G) (cI cJ cZ : ClassId) (aT aT_heads aT_places aT_olders aT_sizes aT_withins aT_newest : Nat) (sz : Nat) (T_count : Int32) (nT_heads : Nat) (T_heads : (Nat → Int32)) (nT_places : Nat) (T_places : (Nat → Int32)) (nT_olders : Nat) (T_olders : (Nat → Int32)) (nT_sizes : Nat) (T_sizes : (Nat → Int32)) (nT_withins : Nat) (T_withins : (Nat → Int64)) (o : Nat × (Nat → Int32) × Nat × (Nat → Int32) × Nat × (Nat → Int32) × Nat × (Nat → Int32) × Nat × (Nat → Int64)) (hf : f_T_makeRoom T_count nT_heads T_heads nT_places T_places nT_olders T_olders nT_sizes T_sizes nT_withins T_withins = some o) : Met l y_T_makeRoom (ws_T_makeRoom) (rm_T_makeRoom (PC nT_heads - PC o.1) (PS nT_heads - PS o.1)) (WPc D vwCl cI cJ cZ [.ref aT] (wv_84 cI cJ cZ aT aT_heads aT_places aT_olders aT_sizes aT_withins aT_newest T_count nT_heads T_heads nT_places T_places nT_olders T_olders nT_sizes T_sizes nT_withins T_withins) sz) (WQx D vwCl none (fun as => (wv_84 cI cJ cZ aT (as 0) (as 1) (as 2) (as 3) (as 4) aT_newest T_count o.1 o.2.1 o.2.2.1 o.2.2.2.1 o.2.2.2.2.1 o.2.2.2.2.2.1 o.2.2.2.2.2.2.1 o.2.2.2.2.2.2.2.1 o.2.2.2.2.2.2.2.2.1 o.2.2.2.2.2.2.2.2.2)) (va_A (wv_84 cI cJ cZ aT aT_heads aT_places aT_olders aT_sizes aT_withins aT_newest T_count nT_heads T_heads nT_places T_places nT_olders T_olders nT_sizes T_sizes nT_withins T_withins) sz)) (PC nT_heads - PC o.1) (PS nT_heads - PS o.1) (va_A (wv_84 cI cJ cZ aT aT_heads aT_places aT_olders aT_sizes aT_withins aT_newest T_count nT_heads T_heads nT_places T_places nT_olders T_olders nT_sizes T_sizes nT_withins T_withins) sz) := by
  refine Met.ofW (cc := b_T_makeRoom) (maxL := 2) (ret := none) (by decide) rfl ?_
  intro p e s m args below meth c s₁ B hml hv
  obtain ⟨rfl, rfl, hP, hK, hD0⟩ := hv
  have hx := B.exec
  have hb := B.bytes
  have hr := B.returns
  have hts : ∀ w ∈ BG, w.before _ s = true := fun w h => atoms_spec (ws := (ws_T_makeRoom)) B.pre w (List.mem_cons_of_mem _ h)
  have hown : s.vm.findClass RR_T = some m.cls := findClass_of_methodNamed B.named
  have hlocks := B.notSynchronized
  have hD := hD0.self (sz := s.heap.size)
  have hA : ∀ q : Nat, s.heap.size ≤ q → va_A (wv_84 cI cJ cZ aT aT_heads aT_places aT_olders aT_sizes aT_withins aT_newest T_count nT_heads T_heads nT_places T_places nT_olders T_olders nT_sizes T_sizes nT_withins T_withins) s.heap.size q := fun q h => Or.inr h
  have hS : va_S (va_A (wv_84 cI cJ cZ aT aT_heads aT_places aT_olders aT_sizes aT_withins aT_newest T_count nT_heads T_heads nT_places T_places nT_olders T_olders nT_sizes T_sizes nT_withins T_withins) s.heap.size) s.heap s.heap [] := va_S.rf
  generalize va_A (wv_84 cI cJ cZ aT aT_heads aT_places aT_olders aT_sizes aT_withins aT_newest T_count nT_heads T_heads nT_places T_places nT_olders T_olders nT_sizes T_sizes nT_withins T_withins) s.heap.size = A at hD hA hS ⊢
  have hl := lv_entry ([.ref aT]) (n := 2) (Nat.le_of_ble_eq_true rfl)
  rw [lg_entry_eq]
  generalize (lg_sl ([.ref aT]) ++ List.replicate (2 - (lg_sl ([.ref aT])).length) Slot.unset).toArray = ls at hl ⊢
  have hl : lv_has ls 2 [(0, .ref aT)] := hl
  rw [f_T_makeRoom] at hf
  refine lv_aload_n hx hb d_T_makeRoom_0 rfl (lv_at hl 0 rfl) ?_
  refine va_get (D := D) (ci := 1) (v := .int T_count) (C := RR_T) (T := FF_T) (N := 7) hx hb hts kin_T hown hK.1 hP 0 rfl rfl 6 (by decide) (hts _ k1_43) (fun _ h9 => h9) rfl d_T_makeRoom_1 ?_
  refine lv_bipush (v := 100) hx hb d_T_makeRoom_4 (by decide) ?_
  refine lv_iadd hx hb d_T_makeRoom_6 ?_
  refine lv_aload_n hx hb d_T_makeRoom_7 rfl (lv_at hl 0 rfl) ?_
  refine va_get (D := D) (ci := 1) (v := .ref aT_heads) (C := RR_T) (T := FF_T) (N := 7) hx hb hts kin_T hown hK.1 hP 0 rfl rfl 0 (by decide) (hts _ k1_37) (fun _ h9 => h9) rfl d_T_makeRoom_8 ?_
  refine va_alen (v := Int32.ofNat nT_heads) hx hb hK.1 hP 1 0 rfl rfl rfl d_T_makeRoom_11 ?_
  refine lv_icmp_le (tgt := 26) hx hb d_T_makeRoom_12 (by decide) (fun c1 => ?_) (fun c1 => ?_)
  · have hf := ite_t c1 hf
    obtain rfl := Option.some.inj hf
    refine W.widen (k := PC nT_heads - PC nT_heads) (n := PS nT_heads - PS nT_heads) (Nat.zero_le _) (Nat.zero_le _) ?_
    exact W.vret hx hb hr (fun t ht hW => ⟨rfl, fun i => ([aT_heads, aT_places, aT_olders, aT_sizes, aT_withins] : List Nat).getD i 0, by rw [ht]; exact hP, hD, hS.F ht⟩) hS.2.2 d_T_makeRoom_26
  have hf := ite_f c1 hf
  refine lv_aload_n hx hb d_T_makeRoom_15 rfl (lv_at hl 0 rfl) ?_
  refine va_get (D := D) (ci := 1) (v := .ref aT_heads) (C := RR_T) (T := FF_T) (N := 7) hx hb hts kin_T hown hK.1 hP 0 rfl rfl 0 (by decide) (hts _ k1_37) (fun _ h9 => h9) rfl d_T_makeRoom_16 ?_
  refine va_alen (v := Int32.ofNat nT_heads) hx hb hK.1 hP 1 0 rfl rfl rfl d_T_makeRoom_19 ?_
  refine lv_sipush (v := 10000) hx hb d_T_makeRoom_20 (by decide) ?_
  refine lv_icmp_lt (tgt := 27) hx hb d_T_makeRoom_23 (by decide) (fun c2 => ?_) (fun c2 => ?_)
  · have hf := ite_t c2 hf
    refine lv_iconst (v := 2) hx hb d_T_makeRoom_27 (by decide) ?_
    refine lv_aload_n hx hb d_T_makeRoom_28 rfl (lv_at hl 0 rfl) ?_
    refine va_get (D := D) (ci := 1) (v := .ref aT_heads) (C := RR_T) (T := FF_T) (N := 7) hx hb hts kin_T hown hK.1 hP 0 rfl rfl 0 (by decide) (hts _ k1_37) (fun _ h9 => h9) rfl d_T_makeRoom_29 ?_
    refine va_alen (v := Int32.ofNat nT_heads) hx hb hK.1 hP 1 0 rfl rfl rfl d_T_makeRoom_32 ?_
    refine lv_imul hx hb d_T_makeRoom_33 ?_
    refine lv_sipush (v := 10000) hx hb d_T_makeRoom_34 (by decide) ?_
    obtain ⟨x1, ex1⟩ : ∃ y : Int32, y = (if (10000 : Int32) < (2 : Int32) * (Int32.ofNat nT_heads) then (10000 : Int32) else (2 : Int32) * (Int32.ofNat nT_heads)) := ⟨_, rfl⟩
    have hf := of_nm ex1 hf
    obtain ⟨hk0, hf⟩ := of_gd hf
    obtain ⟨hk1, hf⟩ := of_gd hf
    obtain ⟨hk2, hf⟩ := of_gd hf
    obtain ⟨hk3, hf⟩ := of_gd hf
    obtain ⟨hk4, hf⟩ := of_gd hf
    obtain ⟨hg, hf⟩ := of_gd hf
    obtain ⟨hm, hf⟩ := of_gd hf
    have hg := of_decide_eq_true hg
    obtain rfl := Option.some.inj hf
    refine va_mmin hx hb (hml.trans hl.1.symm) hown (hts _ k3_5) (hts _ k3_6) (hts _ k1_15) (mth_min hts k3_7) (Nat.le_of_ble_eq_true rfl) (Nat.le_of_ble_eq_true rfl) (Nat.zero_le _) (Nat.zero_le _) d_T_makeRoom_37 ?_
    rw [← ex1]
    refine lv_istore_n (lv' := [(1, .int x1), (0, .ref aT)]) hx hb d_T_makeRoom_40 rfl hl (by decide) rfl (fun ls hl => ?_)
    refine lv_aload_n hx hb d_T_makeRoom_41 rfl (lv_at hl 1 rfl) ?_
    refine lv_aload_n hx hb d_T_makeRoom_42 rfl (lv_at hl 1 rfl) ?_
    refine va_get (D := D) (ci := 1) (v := .ref aT_heads) (C := RR_T) (T := FF_T) (N := 7) hx hb hts kin_T hown hK.1 hP 0 rfl rfl 0 (by decide) (hts _ k1_37) (fun _ h9 => h9) rfl d_T_makeRoom_43 ?_
    refine lv_iload_n hx hb d_T_makeRoom_46 rfl (lv_at hl 0 rfl) ?_
    refine wr_callr (ws' := fun q0 => [(aT, .inr (1, [.ref aT_heads, .ref aT_places, .ref aT_olders, .ref aT_sizes, .ref aT_withins, .ref aT_newest, .int T_count])), (aT_heads, .inl (cI, nT_heads, .inl T_heads)), (aT_places, .inl (cI, nT_places, .inl T_places)), (aT_olders, .inl (cI, nT_olders, .inl T_olders)), (aT_sizes, .inl (cI, nT_sizes, .inl T_sizes)), (aT_withins, .inl (cJ, nT_withins, .inr (.inl T_withins))), (q0, .inl (cI, (x1).toNatClampNeg, .inl (va_cpy T_heads (fun _ => 0) 0 0 nT_heads)))]) (va_runS (As := [.ref aT_heads, .int (x1)]) (rest := [.ref aT]) ⟨hx, hb, hml, hown, hts⟩ (c_JA_copyOf_AII l D cI cJ cZ aT_heads _ nT_heads T_heads (x1) hk0) (bigS 2 hts k4_20 k4_21 k1_3 k4_22 rfl rfl hd_JA_copyOf_AII ⟨Nat.le_of_ble_eq_true rfl, Nat.le_of_ble_eq_true rfl⟩) (wr_preS hK hP hD [1] rfl (by decide) rfl) rfl rfl hl.1 rfl (lv_room (Nat.le_of_ble_eq_true rfl)) d_T_makeRoom_47 ⟨by show _ ≤ PC nT_heads - PC x1.toNatClampNeg; omega, by show _ ≤ PS nT_heads - PS x1.toNatClampNeg; omega⟩) hP hD hS hA [1] [0, 2, 3, 4, 5] rfl rfl (by decide) (by decide) [0, 5, 1, 2, 3, 4, 6] (by decide) (fun _ => rfl) (fun q0 H locs hP hD hS => ?_)
    refine va_put (D := D) (ci := 1) (v := .ref q0) (ty := .array .int) (C := RR_T) (T := FF_T) (N := 7) hx hb hts kin_T TT_T tok_T nok_T hown hK.1 hP hD hS 0 rfl rfl 0 (by decide) (hts _ k1_37) (fun _ h9 => h9) rfl (by decide +kernel) rfl rfl (Nat.le_of_ble_eq_true rfl) d_T_makeRoom_50 (fun H locs hP hD hS => ?_)
    have hP : va_P D vwCl [(aT, .inr (1, [.ref q0, .ref aT_places, .ref aT_olders, .ref aT_sizes, .ref aT_withins, .ref aT_newest, .int T_count])), (aT_heads, .inl (cI, nT_heads, .inl T_heads)), (aT_places, .inl (cI, nT_places, .inl T_places)), (aT_olders, .inl (cI, nT_olders, .inl T_olders)), (aT_sizes, .inl (cI, nT_sizes, .inl T_sizes)), (aT_withins, .inl (cJ, nT_withins, .inr (.inl T_withins))), (q0, .inl (cI, (x1).toNatClampNeg, .inl (va_cpy T_heads (fun _ => 0) 0 0 nT_heads)))] H := hP
    have hD : va_D A [(aT, .inr (1, [.ref q0, .ref aT_places, .ref aT_olders, .ref aT_sizes, .ref aT_withins, .ref aT_newest, .int T_count])), (aT_heads, .inl (cI, nT_heads, .inl T_heads)), (aT_places, .inl (cI, nT_places, .inl T_places)), (aT_olders, .inl (cI, nT_olders, .inl T_olders)), (aT_sizes, .inl (cI, nT_sizes, .inl T_sizes)), (aT_withins, .inl (cJ, nT_withins, .inr (.inl T_withins))), (q0, .inl (cI, (x1).toNatClampNeg, .inl (va_cpy T_heads (fun _ => 0) 0 0 nT_heads)))] := hD
    refine lv_aload_n hx hb d_T_makeRoom_53 rfl (lv_at hl 1 rfl) ?_
    refine lv_aload_n hx hb d_T_makeRoom_54 rfl (lv_at hl 1 rfl) ?_
    refine va_get (D := D) (ci := 1) (v := .ref aT_places) (C := RR_T) (T := FF_T) (N := 7) hx hb hts kin_T hown hK.1 hP 0 rfl rfl 1 (by decide) (hts _ k1_38) (fun _ h9 => h9) rfl d_T_makeRoom_55 ?_
    refine lv_iload_n hx hb d_T_makeRoom_58 rfl (lv_at hl 0 rfl) ?_
    refine lv_iconst (v := 3) hx hb d_T_makeRoom_59 (by decide) ?_
    refine lv_imul hx hb d_T_makeRoom_60 ?_
    refine wr_callr (ws' := fun q1 => [(aT, .inr (1, [.ref q0, .ref aT_places, .ref aT_olders, .ref aT_sizes, .ref aT_withins, .ref aT_newest, .int T_count])), (aT_heads, .inl (cI, nT_heads, .inl T_heads)), (aT_places, .inl (cI, nT_places, .inl T_places)), (aT_olders, .inl (cI, nT_olders, .inl T_olders)), (aT_sizes, .inl (cI, nT_sizes, .inl T_sizes)), (aT_withins, .inl (cJ, nT_withins, .inr (.inl T_withins))), (q0, .inl (cI, (x1).toNatClampNeg, .inl (va_cpy T_heads (fun _ => 0) 0 0 nT_heads))), (q1, .inl (cI, (x1 * (3 : Int32)).toNatClampNeg, .inl (va_cpy T_places (fun _ => 0) 0 0 nT_places)))]) (va_runS (As := [.ref aT_places, .int (x1 * (3 : Int32))]) (rest := [.ref aT]) ⟨hx, hb, hml, hown, hts⟩ (c_JA_copyOf_AII l D cI cJ cZ aT_places _ nT_places T_places (x1 * (3 : Int32)) hk1) (bigS 2 hts k4_20 k4_21 k1_3 k4_22 rfl rfl hd_JA_copyOf_AII ⟨Nat.le_of_ble_eq_true rfl, Nat.le_of_ble_eq_true rfl⟩) (wr_preS hK hP hD [2] rfl (by decide) rfl) rfl rfl hl.1 rfl (lv_room (Nat.le_of_ble_eq_true rfl)) d_T_makeRoom_61 ⟨by show _ ≤ PC nT_heads - PC x1.toNatClampNeg; omega, by show _ ≤ PS nT_heads - PS x1.toNatClampNeg; omega⟩) hP hD hS hA [2] [0, 1, 3, 4, 5, 6] rfl rfl (by decide) (by decide) [0, 1, 6, 2, 3, 4, 5, 7] (by decide) (fun _ => rfl) (fun q1 H locs hP hD hS => ?_)
    refine va_put (D := D) (ci := 1) (v := .ref q1) (ty := .array .int) (C := RR_T) (T := FF_T) (N := 7) hx hb hts kin_T TT_T tok_T nok_T hown hK.1 hP hD hS 0 rfl rfl 1 (by decide) (hts _ k1_38) (fun _ h9 => h9) rfl (by decide +kernel) rfl rfl (Nat.le_of_ble_eq_true rfl) d_T_makeRoom_64 (fun H locs hP hD hS => ?_)
    have hP : va_P D vwCl [(aT, .inr (1, [.ref q0, .ref q1, .ref aT_olders, .ref aT_sizes, .ref aT_withins, .ref aT_newest, .int T_count])), (aT_heads, .inl (cI, nT_heads, .inl T_heads)), (aT_places, .inl (cI, nT_places, .inl T_places)), (aT_olders, .inl (cI, nT_olders, .inl T_olders)), (aT_sizes, .inl (cI, nT_sizes, .inl T_sizes)), (aT_withins, .inl (cJ, nT_withins, .inr (.inl T_withins))), (q0, .inl (cI, (x1).toNatClampNeg, .inl (va_cpy T_heads (fun _ => 0) 0 0 nT_heads))), (q1, .inl (cI, (x1 * (3 : Int32)).toNatClampNeg, .inl (va_cpy T_places (fun _ => 0) 0 0 nT_places)))] H := hP
    have hD : va_D A [(aT, .inr (1, [.ref q0, .ref q1, .ref aT_olders, .ref aT_sizes, .ref aT_withins, .ref aT_newest, .int T_count])), (aT_heads, .inl (cI, nT_heads, .inl T_heads)), (aT_places, .inl (cI, nT_places, .inl T_places)), (aT_olders, .inl (cI, nT_olders, .inl T_olders)), (aT_sizes, .inl (cI, nT_sizes, .inl T_sizes)), (aT_withins, .inl (cJ, nT_withins, .inr (.inl T_withins))), (q0, .inl (cI, (x1).toNatClampNeg, .inl (va_cpy T_heads (fun _ => 0) 0 0 nT_heads))), (q1, .inl (cI, (x1 * (3 : Int32)).toNatClampNeg, .inl (va_cpy T_places (fun _ => 0) 0 0 nT_places)))] := hD
    refine lv_aload_n hx hb d_T_makeRoom_67 rfl (lv_at hl 1 rfl) ?_
    refine lv_aload_n hx hb d_T_makeRoom_68 rfl (lv_at hl 1 rfl) ?_
    refine va_get (D := D) (ci := 1) (v := .ref aT_olders) (C := RR_T) (T := FF_T) (N := 7) hx hb hts kin_T hown hK.1 hP 0 rfl rfl 2 (by decide) (hts _ k1_39) (fun _ h9 => h9) rfl d_T_makeRoom_69 ?_
    refine lv_iload_n hx hb d_T_makeRoom_72 rfl (lv_at hl 0 rfl) ?_
    refine wr_callr (ws' := fun q2 => [(aT, .inr (1, [.ref q0, .ref q1, .ref aT_olders, .ref aT_sizes, .ref aT_withins, .ref aT_newest, .int T_count])), (aT_heads, .inl (cI, nT_heads, .inl T_heads)), (aT_places, .inl (cI, nT_places, .inl T_places)), (aT_olders, .inl (cI, nT_olders, .inl T_olders)), (aT_sizes, .inl (cI, nT_sizes, .inl T_sizes)), (aT_withins, .inl (cJ, nT_withins, .inr (.inl T_withins))), (q0, .inl (cI, (x1).toNatClampNeg, .inl (va_cpy T_heads (fun _ => 0) 0 0 nT_heads))), (q1, .inl (cI, (x1 * (3 : Int32)).toNatClampNeg, .inl (va_cpy T_places (fun _ => 0) 0 0 nT_places))), (q2, .inl (cI, (x1).toNatClampNeg, .inl (va_cpy T_olders (fun _ => 0) 0 0 nT_olders)))]) (va_runS (As := [.ref aT_olders, .int (x1)]) (rest := [.ref aT]) ⟨hx, hb, hml, hown, hts⟩ (c_JA_copyOf_AII l D cI cJ cZ aT_olders _ nT_olders T_olders (x1) hk2) (bigS 2 hts k4_20 k4_21 k1_3 k4_22 rfl rfl hd_JA_copyOf_AII ⟨Nat.le_of_ble_eq_true rfl, Nat.le_of_ble_eq_true rfl⟩) (wr_preS hK hP hD [3] rfl (by decide) rfl) rfl rfl hl.1 rfl (lv_room (Nat.le_of_ble_eq_true rfl)) d_T_makeRoom_73 ⟨by show _ ≤ PC nT_heads - PC x1.toNatClampNeg; omega, by show _ ≤ PS nT_heads - PS x1.toNatClampNeg; omega⟩) hP hD hS hA [3] [0, 1, 2, 4, 5, 6, 7] rfl rfl (by decide) (by decide) [0, 1, 2, 7, 3, 4, 5, 6, 8] (by decide) (fun _ => rfl) (fun q2 H locs hP hD hS => ?_)
    refine va_put (D := D) (ci := 1) (v := .ref q2) (ty := .array .int) (C := RR_T) (T := FF_T) (N := 7) hx hb hts kin_T TT_T tok_T nok_T hown hK.1 hP hD hS 0 rfl rfl 2 (by decide) (hts _ k1_39) (fun _ h9 => h9) rfl (by decide +kernel) rfl rfl (Nat.le_of_ble_eq_true rfl) d_T_makeRoom_76 (fun H locs hP hD hS => ?_)
    have hP : va_P D vwCl [(aT, .inr (1, [.ref q0, .ref q1, .ref q2, .ref aT_sizes, .ref aT_withins, .ref aT_newest, .int T_count])), (aT_heads, .inl (cI, nT_heads, .inl T_heads)), (aT_places, .inl (cI, nT_places, .inl T_places)), (aT_olders, .inl (cI, nT_olders, .inl T_olders)), (aT_sizes, .inl (cI, nT_sizes, .inl T_sizes)), (aT_withins, .inl (cJ, nT_withins, .inr (.inl T_withins))), (q0, .inl (cI, (x1).toNatClampNeg, .inl (va_cpy T_heads (fun _ => 0) 0 0 nT_heads))), (q1, .inl (cI, (x1 * (3 : Int32)).toNatClampNeg, .inl (va_cpy T_places (fun _ => 0) 0 0 nT_places))), (q2, .inl (cI, (x1).toNatClampNeg, .inl (va_cpy T_olders (fun _ => 0) 0 0 nT_olders)))] H := hP
    have hD : va_D A [(aT, .inr (1, [.ref q0, .ref q1, .ref q2, .ref aT_sizes, .ref aT_withins, .ref aT_newest, .int T_count])), (aT_heads, .inl (cI, nT_heads, .inl T_heads)), (aT_places, .inl (cI, nT_places, .inl T_places)), (aT_olders, .inl (cI, nT_olders, .inl T_olders)), (aT_sizes, .inl (cI, nT_sizes, .inl T_sizes)), (aT_withins, .inl (cJ, nT_withins, .inr (.inl T_withins))), (q0, .inl (cI, (x1).toNatClampNeg, .inl (va_cpy T_heads (fun _ => 0) 0 0 nT_heads))), (q1, .inl (cI, (x1 * (3 : Int32)).toNatClampNeg, .inl (va_cpy T_places (fun _ => 0) 0 0 nT_places))), (q2, .inl (cI, (x1).toNatClampNeg, .inl (va_cpy T_olders (fun _ => 0) 0 0 nT_olders)))] := hD
    refine lv_aload_n hx hb d_T_makeRoom_79 rfl (lv_at hl 1 rfl) ?_
    refine lv_aload_n hx hb d_T_makeRoom_80 rfl (lv_at hl 1 rfl) ?_
    refine va_get (D := D) (ci := 1) (v := .ref aT_sizes) (C := RR_T) (T := FF_T) (N := 7) hx hb hts kin_T hown hK.1 hP 0 rfl rfl 3 (by decide) (hts _ k1_40) (fun _ h9 => h9) rfl d_T_makeRoom_81 ?_
    refine lv_iload_n hx hb d_T_makeRoom_84 rfl (lv_at hl 0 rfl) ?_
    refine wr_callr (ws' := fun q3 => [(aT, .inr (1, [.ref q0, .ref q1, .ref q2, .ref aT_sizes, .ref aT_withins, .ref aT_newest, .int T_count])), (aT_heads, .inl (cI, nT_heads, .inl T_heads)), (aT_places, .inl (cI, nT_places, .inl T_places)), (aT_olders, .inl (cI, nT_olders, .inl T_olders)), (aT_sizes, .inl (cI, nT_sizes, .inl T_sizes)), (aT_withins, .inl (cJ, nT_withins, .inr (.inl T_withins))), (q0, .inl (cI, (x1).toNatClampNeg, .inl (va_cpy T_heads (fun _ => 0) 0 0 nT_heads))), (q1, .inl (cI, (x1 * (3 : Int32)).toNatClampNeg, .inl (va_cpy T_places (fun _ => 0) 0 0 nT_places))), (q2, .inl (cI, (x1).toNatClampNeg, .inl (va_cpy T_olders (fun _ => 0) 0 0 nT_olders))), (q3, .inl (cI, (x1).toNatClampNeg, .inl (va_cpy T_sizes (fun _ => 0) 0 0 nT_sizes)))]) (va_runS (As := [.ref aT_sizes, .int (x1)]) (rest := [.ref aT]) ⟨hx, hb, hml, hown, hts⟩ (c_JA_copyOf_AII l D cI cJ cZ aT_sizes _ nT_sizes T_sizes (x1) hk3) (bigS 2 hts k4_20 k4_21 k1_3 k4_22 rfl rfl hd_JA_copyOf_AII ⟨Nat.le_of_ble_eq_true rfl, Nat.le_of_ble_eq_true rfl⟩) (wr_preS hK hP hD [4] rfl (by decide) rfl) rfl rfl hl.1 rfl (lv_room (Nat.le_of_ble_eq_true rfl)) d_T_makeRoom_85 ⟨by show _ ≤ PC nT_heads - PC x1.toNatClampNeg; omega, by show _ ≤ PS nT_heads - PS x1.toNatClampNeg; omega⟩) hP hD hS hA [4] [0, 1, 2, 3, 5, 6, 7, 8] rfl rfl (by decide) (by decide) [0, 1, 2, 3, 8, 4, 5, 6, 7, 9] (by decide) (fun _ => rfl) (fun q3 H locs hP hD hS => ?_)
    refine va_put (D := D) (ci := 1) (v := .ref q3) (ty := .array .int) (C := RR_T) (T := FF_T) (N := 7) hx hb hts kin_T TT_T tok_T nok_T hown hK.1 hP hD hS 0 rfl rfl 3 (by decide) (hts _ k1_40) (fun _ h9 => h9) rfl (by decide +kernel) rfl rfl (Nat.le_of_ble_eq_true rfl) d_T_makeRoom_88 (fun H locs hP hD hS => ?_)
    have hP : va_P D vwCl [(aT, .inr (1, [.ref q0, .ref q1, .ref q2, .ref q3, .ref aT_withins, .ref aT_newest, .int T_count])), (aT_heads, .inl (cI, nT_heads, .inl T_heads)), (aT_places, .inl (cI, nT_places, .inl T_places)), (aT_olders, .inl (cI, nT_olders, .inl T_olders)), (aT_sizes, .inl (cI, nT_sizes, .inl T_sizes)), (aT_withins, .inl (cJ, nT_withins, .inr (.inl T_withins))), (q0, .inl (cI, (x1).toNatClampNeg, .inl (va_cpy T_heads (fun _ => 0) 0 0 nT_heads))), (q1, .inl (cI, (x1 * (3 : Int32)).toNatClampNeg, .inl (va_cpy T_places (fun _ => 0) 0 0 nT_places))), (q2, .inl (cI, (x1).toNatClampNeg, .inl (va_cpy T_olders (fun _ => 0) 0 0 nT_olders))), (q3, .inl (cI, (x1).toNatClampNeg, .inl (va_cpy T_sizes (fun _ => 0) 0 0 nT_sizes)))] H := hP
    have hD : va_D A [(aT, .inr (1, [.ref q0, .ref q1, .ref q2, .ref q3, .ref aT_withins, .ref aT_newest, .int T_count])), (aT_heads, .inl (cI, nT_heads, .inl T_heads)), (aT_places, .inl (cI, nT_places, .inl T_places)), (aT_olders, .inl (cI, nT_olders, .inl T_olders)), (aT_sizes, .inl (cI, nT_sizes, .inl T_sizes)), (aT_withins, .inl (cJ, nT_withins, .inr (.inl T_withins))), (q0, .inl (cI, (x1).toNatClampNeg, .inl (va_cpy T_heads (fun _ => 0) 0 0 nT_heads))), (q1, .inl (cI, (x1 * (3 : Int32)).toNatClampNeg, .inl (va_cpy T_places (fun _ => 0) 0 0 nT_places))), (q2, .inl (cI, (x1).toNatClampNeg, .inl (va_cpy T_olders (fun _ => 0) 0 0 nT_olders))), (q3, .inl (cI, (x1).toNatClampNeg, .inl (va_cpy T_sizes (fun _ => 0) 0 0 nT_sizes)))] := hD
    refine lv_aload_n hx hb d_T_makeRoom_91 rfl (lv_at hl 1 rfl) ?_
    refine lv_aload_n hx hb d_T_makeRoom_92 rfl (lv_at hl 1 rfl) ?_
    refine va_get (D := D) (ci := 1) (v := .ref aT_withins) (C := RR_T) (T := FF_T) (N := 7) hx hb hts kin_T hown hK.1 hP 0 rfl rfl 4 (by decide) (hts _ k1_41) (fun _ h9 => h9) rfl d_T_makeRoom_93 ?_
    refine lv_iload_n hx hb d_T_makeRoom_96 rfl (lv_at hl 0 rfl) ?_
    refine wr_callr (ws' := fun q4 => [(aT, .inr (1, [.ref q0, .ref q1, .ref q2, .ref q3, .ref aT_withins, .ref aT_newest, .int T_count])), (aT_heads, .inl (cI, nT_heads, .inl T_heads)), (aT_places, .inl (cI, nT_places, .inl T_places)), (aT_olders, .inl (cI, nT_olders, .inl T_olders)), (aT_sizes, .inl (cI, nT_sizes, .inl T_sizes)), (aT_withins, .inl (cJ, nT_withins, .inr (.inl T_withins))), (q0, .inl (cI, (x1).toNatClampNeg, .inl (va_cpy T_heads (fun _ => 0) 0 0 nT_heads))), (q1, .inl (cI, (x1 * (3 : Int32)).toNatClampNeg, .inl (va_cpy T_places (fun _ => 0) 0 0 nT_places))), (q2, .inl (cI, (x1).toNatClampNeg, .inl (va_cpy T_olders (fun _ => 0) 0 0 nT_olders))), (q3, .inl (cI, (x1).toNatClampNeg, .inl (va_cpy T_sizes (fun _ => 0) 0 0 nT_sizes))), (q4, .inl (cJ, (x1).toNatClampNeg, .inr (.inl (va_cpy T_withins (fun _ => 0) 0 0 nT_withins))))]) (va_runS (As := [.ref aT_withins, .int (x1)]) (rest := [.ref aT]) ⟨hx, hb, hml, hown, hts⟩ (c_JA_copyOf_AJI l D cI cJ cZ aT_withins _ nT_withins T_withins (x1) hk4) (bigS 2 hts k4_34 k4_35 k1_3 k4_36 rfl rfl hd_JA_copyOf_AJI ⟨Nat.le_of_ble_eq_true rfl, Nat.le_of_ble_eq_true rfl⟩) (wr_preS hK hP hD [5] rfl (by decide) rfl) rfl rfl hl.1 rfl (lv_room (Nat.le_of_ble_eq_true rfl)) d_T_makeRoom_97 ⟨by show _ ≤ PC nT_heads - PC x1.toNatClampNeg; omega, by show _ ≤ PS nT_heads - PS x1.toNatClampNeg; omega⟩) hP hD hS hA [5] [0, 1, 2, 3, 4, 6, 7, 8, 9] rfl rfl (by decide) (by decide) [0, 1, 2, 3, 4, 9, 5, 6, 7, 8, 10] (by decide) (fun _ => rfl) (fun q4 H locs hP hD hS => ?_)
    refine va_put (D := D) (ci := 1) (v := .ref q4) (ty := .array .long) (C := RR_T) (T := FF_T) (N := 7) hx hb hts kin_T TT_T tok_T nok_T hown hK.1 hP hD hS 0 rfl rfl 4 (by decide) (hts _ k1_41) (fun _ h9 => h9) rfl (by decide +kernel) rfl rfl (Nat.le_of_ble_eq_true rfl) d_T_makeRoom_100 (fun H locs hP hD hS => ?_)
    have hP : va_P D vwCl [(aT, .inr (1, [.ref q0, .ref q1, .ref q2, .ref q3, .ref q4, .ref aT_newest, .int T_count])), (aT_heads, .inl (cI, nT_heads, .inl T_heads)), (aT_places, .inl (cI, nT_places, .inl T_places)), (aT_olders, .inl (cI, nT_olders, .inl T_olders)), (aT_sizes, .inl (cI, nT_sizes, .inl T_sizes)), (aT_withins, .inl (cJ, nT_withins, .inr (.inl T_withins))), (q0, .inl (cI, (x1).toNatClampNeg, .inl (va_cpy T_heads (fun _ => 0) 0 0 nT_heads))), (q1, .inl (cI, (x1 * (3 : Int32)).toNatClampNeg, .inl (va_cpy T_places (fun _ => 0) 0 0 nT_places))), (q2, .inl (cI, (x1).toNatClampNeg, .inl (va_cpy T_olders (fun _ => 0) 0 0 nT_olders))), (q3, .inl (cI, (x1).toNatClampNeg, .inl (va_cpy T_sizes (fun _ => 0) 0 0 nT_sizes))), (q4, .inl (cJ, (x1).toNatClampNeg, .inr (.inl (va_cpy T_withins (fun _ => 0) 0 0 nT_withins))))] H := hP
    have hD : va_D A [(aT, .inr (1, [.ref q0, .ref q1, .ref q2, .ref q3, .ref q4, .ref aT_newest, .int T_count])), (aT_heads, .inl (cI, nT_heads, .inl T_heads)), (aT_places, .inl (cI, nT_places, .inl T_places)), (aT_olders, .inl (cI, nT_olders, .inl T_olders)), (aT_sizes, .inl (cI, nT_sizes, .inl T_sizes)), (aT_withins, .inl (cJ, nT_withins, .inr (.inl T_withins))), (q0, .inl (cI, (x1).toNatClampNeg, .inl (va_cpy T_heads (fun _ => 0) 0 0 nT_heads))), (q1, .inl (cI, (x1 * (3 : Int32)).toNatClampNeg, .inl (va_cpy T_places (fun _ => 0) 0 0 nT_places))), (q2, .inl (cI, (x1).toNatClampNeg, .inl (va_cpy T_olders (fun _ => 0) 0 0 nT_olders))), (q3, .inl (cI, (x1).toNatClampNeg, .inl (va_cpy T_sizes (fun _ => 0) 0 0 nT_sizes))), (q4, .inl (cJ, (x1).toNatClampNeg, .inr (.inl (va_cpy T_withins (fun _ => 0) 0 0 nT_withins))))] := hD
    have hP : va_P D vwCl (wv_84 cI cJ cZ aT q0 q1 q2 q3 q4 aT_newest T_count ((x1).toNatClampNeg) (va_cpy T_heads (fun _ => 0) 0 0 nT_heads) ((x1 * (3 : Int32)).toNatClampNeg) (va_cpy T_places (fun _ => 0) 0 0 nT_places) ((x1).toNatClampNeg) (va_cpy T_olders (fun _ => 0) 0 0 nT_olders) ((x1).toNatClampNeg) (va_cpy T_sizes (fun _ => 0) 0 0 nT_sizes) ((x1).toNatClampNeg) (va_cpy T_withins (fun _ => 0) 0 0 nT_withins)) H := hP.sub [0, 6, 7, 8, 9, 10] rfl
    have hD : va_D A (wv_84 cI cJ cZ aT q0 q1 q2 q3 q4 aT_newest T_count ((x1).toNatClampNeg) (va_cpy T_heads (fun _ => 0) 0 0 nT_heads) ((x1 * (3 : Int32)).toNatClampNeg) (va_cpy T_places (fun _ => 0) 0 0 nT_places) ((x1).toNatClampNeg) (va_cpy T_olders (fun _ => 0) 0 0 nT_olders) ((x1).toNatClampNeg) (va_cpy T_sizes (fun _ => 0) 0 0 nT_sizes) ((x1).toNatClampNeg) (va_cpy T_withins (fun _ => 0) 0 0 nT_withins)) := hD.sub [0, 6, 7, 8, 9, 10] (by decide) rfl
    refine W.widen (k := PC nT_heads - PC x1.toNatClampNeg) (n := PS nT_heads - PS x1.toNatClampNeg) (by omega) (by omega) ?_
    exact W.vret hx hb hr (fun t ht hW => ⟨rfl, fun i => ([q0, q1, q2, q3, q4] : List Nat).getD i 0, by rw [ht]; exact hP, hD, hS.F ht⟩) hS.2.2 d_T_makeRoom_103
  · have hf := ite_f c2 hf
    obtain rfl := Option.some.inj hf
    refine W.widen (k := PC nT_heads - PC nT_heads) (n := PS nT_heads - PS nT_heads) (Nat.zero_le _) (Nat.zero_le _) ?_
    exact W.vret hx hb hr (fun t ht hW => ⟨rfl, fun i => ([aT_heads, aT_places, aT_olders, aT_sizes, aT_withins] : List Nat).getD i 0, by rw [ht]; exact hP, hD, hS.F ht⟩) hS.2.2 d_T_makeRoom_26
theorem mono_T_makeRoom {T_count : Int32} {nT_heads : Nat} {T_heads : (Nat → Int32)} {nT_places : Nat} {T_places : (Nat → Int32)} {nT_olders : Nat} {T_olders : (Nat → Int32)} {nT_sizes : Nat} {T_sizes : (Nat → Int32)} {nT_withins : Nat} {T_withins : (Nat → Int64)} {o : Nat × (Nat → Int32) × Nat × (Nat → Int32) × Nat × (Nat → Int32) × Nat × (Nat → Int32) × Nat × (Nat → Int64)} (hf : f_T_makeRoom T_count nT_heads T_heads nT_places T_places nT_olders T_olders nT_sizes T_sizes nT_withins T_withins = some o) : nT_heads ≤ o.1 := by
  rw [f_T_makeRoom] at hf
  by_cases c1 : T_count + (100 : Int32) ≤ Int32.ofNat nT_heads
  · have hf := ite_t c1 hf
    obtain rfl := Option.some.inj hf
    exact Nat.le_refl _
  · have hf := ite_f c1 hf
    by_cases c2 : Int32.ofNat nT_heads < (10000 : Int32)
    · have hf := ite_t c2 hf
      obtain ⟨x1, ex1⟩ : ∃ y : Int32, y = (if (10000 : Int32) < (2 : Int32) * (Int32.ofNat nT_heads) then (10000 : Int32) else (2 : Int32) * (Int32.ofNat nT_heads)) := ⟨_, rfl⟩
      have hf := of_nm ex1 hf
      obtain ⟨_, hf⟩ := of_gd hf
      obtain ⟨_, hf⟩ := of_gd hf
      obtain ⟨_, hf⟩ := of_gd hf
      obtain ⟨_, hf⟩ := of_gd hf
      obtain ⟨_, hf⟩ := of_gd hf
      obtain ⟨_, hf⟩ := of_gd hf
      obtain ⟨hm, hf⟩ := of_gd hf
      obtain rfl := Option.some.inj hf
      exact of_decide_eq_true hm
    · have hf := ite_f c2 hf
      obtain rfl := Option.some.inj hf
      exact Nat.le_refl _
