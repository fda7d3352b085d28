abbrev b_JA_copyOf_AII : ByteArray := prog_22_method_123_code
abbrev y_JA_copyOf_AII : MethodName := ⟨"java/util/Arrays", "copyOf", "([II)[I"⟩
abbrev ws_JA_copyOf_AII : List Cond := .code y_JA_copyOf_AII b_JA_copyOf_AII 3 (Option.some (.array .int)) :: BG
theorem hd_JA_copyOf_AII : y_JA_copyOf_AII.cls ≠ "java/lang/invoke/MethodHandle" ∧ y_JA_copyOf_AII.cls ≠ "java/lang/invoke/VarHandle" ∧ (parseMethodDescriptor y_JA_copyOf_AII.desc).map (fun d => d.parameters.length) = some 2 := by decide +kernel
theorem d_JA_copyOf_AII_0 : decode b_JA_copyOf_AII 0 = .ok (.iload_n 1, 1) := by decide +kernel
theorem d_JA_copyOf_AII_1 : decode b_JA_copyOf_AII 1 = .ok (.aload_n 0, 1) := by decide +kernel
theorem d_JA_copyOf_AII_2 : decode b_JA_copyOf_AII 2 = .ok (.arraylength, 1) := by decide +kernel
theorem d_JA_copyOf_AII_3 : decode b_JA_copyOf_AII 3 = .ok (.if_icmp .ne 11, 3) := by decide +kernel
theorem d_JA_copyOf_AII_6 : decode b_JA_copyOf_AII 6 = .ok (.aload_n 0, 1) := by decide +kernel
theorem d_JA_copyOf_AII_7 : decode b_JA_copyOf_AII 7 = .ok (.invokevirtual 316, 3) := by decide +kernel
theorem d_JA_copyOf_AII_10 : decode b_JA_copyOf_AII 10 = .ok (.checkcast 317, 3) := by decide +kernel
theorem d_JA_copyOf_AII_13 : decode b_JA_copyOf_AII 13 = .ok (.areturn, 1) := by decide +kernel
theorem d_JA_copyOf_AII_14 : decode b_JA_copyOf_AII 14 = .ok (.iload_n 1, 1) := by decide +kernel
theorem d_JA_copyOf_AII_15 : decode b_JA_copyOf_AII 15 = .ok (.newarray .int, 2) := by decide +kernel
theorem d_JA_copyOf_AII_17 : decode b_JA_copyOf_AII 17 = .ok (.astore_n 2, 1) := by decide +kernel
theorem d_JA_copyOf_AII_18 : decode b_JA_copyOf_AII 18 = .ok (.aload_n 0, 1) := by decide +kernel
theorem d_JA_copyOf_AII_19 : decode b_JA_copyOf_AII 19 = .ok (.iconst 0, 1) := by decide +kernel
theorem d_JA_copyOf_AII_20 : decode b_JA_copyOf_AII 20 = .ok (.aload_n 2, 1) := by decide +kernel
theorem d_JA_copyOf_AII_21 : decode b_JA_copyOf_AII 21 = .ok (.iconst 0, 1) := by decide +kernel
theorem d_JA_copyOf_AII_22 : decode b_JA_copyOf_AII 22 = .ok (.aload_n 0, 1) := by decide +kernel
theorem d_JA_copyOf_AII_23 : decode b_JA_copyOf_AII 23 = .ok (.arraylength, 1) := by decide +kernel
theorem d_JA_copyOf_AII_24 : decode b_JA_copyOf_AII 24 = .ok (.iload_n 1, 1) := by decide +kernel
theorem d_JA_copyOf_AII_25 : decode b_JA_copyOf_AII 25 = .ok (.invokestatic 304, 3) := by decide +kernel
theorem d_JA_copyOf_AII_28 : decode b_JA_copyOf_AII 28 = .ok (.invokestatic 150, 3) := by decide +kernel
theorem d_JA_copyOf_AII_31 : decode b_JA_copyOf_AII 31 = .ok (.aload_n 2, 1) := by decide +kernel
theorem d_JA_copyOf_AII_32 : decode b_JA_copyOf_AII 32 = .ok (.areturn, 1) := by decide +kernel
abbrev b_JA_copyOf_AJI : ByteArray := prog_22_method_124_code
abbrev y_JA_copyOf_AJI : MethodName := ⟨"java/util/Arrays", "copyOf", "([JI)[J"⟩
abbrev ws_JA_copyOf_AJI : List Cond := .code y_JA_copyOf_AJI b_JA_copyOf_AJI 3 (Option.some (.array .long)) :: BG
theorem hd_JA_copyOf_AJI : y_JA_copyOf_AJI.cls ≠ "java/lang/invoke/MethodHandle" ∧ y_JA_copyOf_AJI.cls ≠ "java/lang/invoke/VarHandle" ∧ (parseMethodDescriptor y_JA_copyOf_AJI.desc).map (fun d => d.parameters.length) = some 2 := by decide +kernel
theorem d_JA_copyOf_AJI_0 : decode b_JA_copyOf_AJI 0 = .ok (.iload_n 1, 1) := by decide +kernel
theorem d_JA_copyOf_AJI_1 : decode b_JA_copyOf_AJI 1 = .ok (.aload_n 0, 1) := by decide +kernel
theorem d_JA_copyOf_AJI_2 : decode b_JA_copyOf_AJI 2 = .ok (.arraylength, 1) := by decide +kernel
theorem d_JA_copyOf_AJI_3 : decode b_JA_copyOf_AJI 3 = .ok (.if_icmp .ne 11, 3) := by decide +kernel
theorem d_JA_copyOf_AJI_6 : decode b_JA_copyOf_AJI 6 = .ok (.aload_n 0, 1) := by decide +kernel
theorem d_JA_copyOf_AJI_7 : decode b_JA_copyOf_AJI 7 = .ok (.invokevirtual 319, 3) := by decide +kernel
theorem d_JA_copyOf_AJI_10 : decode b_JA_copyOf_AJI 10 = .ok (.checkcast 320, 3) := by decide +kernel
theorem d_JA_copyOf_AJI_13 : decode b_JA_copyOf_AJI 13 = .ok (.areturn, 1) := by decide +kernel
theorem d_JA_copyOf_AJI_14 : decode b_JA_copyOf_AJI 14 = .ok (.iload_n 1, 1) := by decide +kernel
theorem d_JA_copyOf_AJI_15 : decode b_JA_copyOf_AJI 15 = .ok (.newarray .long, 2) := by decide +kernel
theorem d_JA_copyOf_AJI_17 : decode b_JA_copyOf_AJI 17 = .ok (.astore_n 2, 1) := by decide +kernel
theorem d_JA_copyOf_AJI_18 : decode b_JA_copyOf_AJI 18 = .ok (.aload_n 0, 1) := by decide +kernel
theorem d_JA_copyOf_AJI_19 : decode b_JA_copyOf_AJI 19 = .ok (.iconst 0, 1) := by decide +kernel
theorem d_JA_copyOf_AJI_20 : decode b_JA_copyOf_AJI 20 = .ok (.aload_n 2, 1) := by decide +kernel
theorem d_JA_copyOf_AJI_21 : decode b_JA_copyOf_AJI 21 = .ok (.iconst 0, 1) := by decide +kernel
theorem d_JA_copyOf_AJI_22 : decode b_JA_copyOf_AJI 22 = .ok (.aload_n 0, 1) := by decide +kernel
theorem d_JA_copyOf_AJI_23 : decode b_JA_copyOf_AJI 23 = .ok (.arraylength, 1) := by decide +kernel
theorem d_JA_copyOf_AJI_24 : decode b_JA_copyOf_AJI 24 = .ok (.iload_n 1, 1) := by decide +kernel
theorem d_JA_copyOf_AJI_25 : decode b_JA_copyOf_AJI 25 = .ok (.invokestatic 304, 3) := by decide +kernel
theorem d_JA_copyOf_AJI_28 : decode b_JA_copyOf_AJI 28 = .ok (.invokestatic 150, 3) := by decide +kernel
theorem d_JA_copyOf_AJI_31 : decode b_JA_copyOf_AJI 31 = .ok (.aload_n 2, 1) := by decide +kernel
theorem d_JA_copyOf_AJI_32 : decode b_JA_copyOf_AJI 32 = .ok (.areturn, 1) := by decide +kernel
theorem k4_30 : Cond.methodLink "java/util/Arrays" 304 ⟨"java/lang/Math", "min", "(II)I"⟩ ∈ BG := List.mem_filter.mpr ⟨in_4 (List.mem_of_getElem? (i := 30) rfl), rfl⟩
theorem k4_31 : Cond.methodLink "java/util/Arrays" 150 ⟨"java/lang/System", "arraycopy", "(Ljava/lang/Object;ILjava/lang/Object;II)V"⟩ ∈ BG := List.mem_filter.mpr ⟨in_4 (List.mem_of_getElem? (i := 31) rfl), rfl⟩
theorem k4_33 : Cond.native ⟨"java/lang/System", "arraycopy", "(Ljava/lang/Object;ILjava/lang/Object;II)V"⟩ ∈ BG := List.mem_filter.mpr ⟨in_4 (List.mem_of_getElem? (i := 33) rfl), rfl⟩
theorem k4_32 : Cond.static ⟨"java/lang/System", "arraycopy", "(Ljava/lang/Object;ILjava/lang/Object;II)V"⟩ ∈ BG := List.mem_filter.mpr ⟨in_4 (List.mem_of_getElem? (i := 32) rfl), rfl⟩
theorem k1_18 : Cond.initialized "java/lang/System" ∈ BG := List.mem_filter.mpr ⟨in_1 (List.mem_of_getElem? (i := 18) rfl), rfl⟩
abbrev rm_JA_copyOf_AII (k : Nat) : Room := { frames := 1, cells := 1, slots := k, locals := 60 }
set_option maxHeartbeats 4000000 in
set_option maxRecDepth 100000 in
theorem c_JA_copyOf_AII (l : Launch) (D : va_G) (cI cJ cZ : ClassId) (a : Nat) (sz n : Nat) (f : Nat → Int32) (k : Int32) (hk : cpk k n = true) : Met l y_JA_copyOf_AII (ws_JA_copyOf_AII) (rm_JA_copyOf_AII k.toNatClampNeg) (WPc D vwCl cI cJ cZ [.ref a, .int k] [(a, .inl (cI, n, .inl f))] sz) (WQr D vwCl (fun q => [(a, .inl (cI, n, .inl f)), (q, .inl (cI, k.toNatClampNeg, .inl (va_cpy f (fun _ => 0) 0 0 n)))]) (va_A [(a, .inl (cI, n, .inl f))] sz)) 1 k.toNatClampNeg (va_A [(a, .inl (cI, n, .inl f))] sz) := by
  obtain ⟨hmin, hn0, hnn, hle, hk0, hk6, hne⟩ := cpk_min hk
  refine Met.ofW (cc := b_JA_copyOf_AII) (maxL := 3) (ret := (some (.array .int))) (by decide) rfl ?_
  intro p e s m args below meth c s₁ B hml hv
  obtain ⟨rfl, rfl, hP, hK, hD0⟩ := hv
  have hx := B.exec
  have hb := B.bytes
  have hr := B.returns
  have hts : ∀ w ∈ BG, w.before _ s = true := fun w h => atoms_spec (ws := (ws_JA_copyOf_AII)) B.pre w (List.mem_cons_of_mem _ h)
  have hown : s.vm.findClass "java/util/Arrays" = some m.cls := findClass_of_methodNamed B.named
  have hlocks := B.notSynchronized
  have hD := hD0.self (sz := s.heap.size)
  have hA : ∀ q : Nat, s.heap.size ≤ q → va_A [(a, .inl (cI, n, .inl f))] s.heap.size q := fun q h => Or.inr h
  have hS : va_S (va_A [(a, .inl (cI, n, .inl f))] s.heap.size) s.heap s.heap [] := va_S.rf
  generalize va_A [(a, .inl (cI, n, .inl f))] s.heap.size = A at hD hA hS ⊢
  have hl := lv_entry ([.ref a, .int k]) (n := 3) (Nat.le_of_ble_eq_true rfl)
  rw [lg_entry_eq]
  generalize (lg_sl ([.ref a, .int k]) ++ List.replicate (3 - (lg_sl ([.ref a, .int k])).length) Slot.unset).toArray = ls at hl ⊢
  have hl : lv_has ls 3 [(0, .ref a), (1, .int k)] := hl
  refine lv_iload_n hx hb d_JA_copyOf_AII_0 rfl (lv_at hl 1 rfl) ?_
  refine lv_aload_n hx hb d_JA_copyOf_AII_1 rfl (lv_at hl 0 rfl) ?_
  refine va_alen (v := Int32.ofNat n) hx hb hK.1 hP 0 0 rfl rfl rfl d_JA_copyOf_AII_2 ?_
  refine lv_icmp_ne (tgt := 14) hx hb d_JA_copyOf_AII_3 (by decide) (fun c1 => ?_) (fun c1 => absurd c1 hne)
  refine lv_iload_n hx hb d_JA_copyOf_AII_14 rfl (lv_at hl 1 rfl) ?_
  refine my_newa (a0 := (k.toNatClampNeg, .inl (fun _ => 0))) (N' := k.toNatClampNeg) hx hb (hts _ k1_59) rfl hK.2.1 hP hD hS hA (fun _ => rfl) hk0 rfl (by show _ * 4 ≤ _; omega) (Nat.le_of_ble_eq_true rfl) (by show 0 + k.toNatClampNeg ≤ k.toNatClampNeg; omega) d_JA_copyOf_AII_15 (fun q H hP hD hS => ?_)
  have hP : va_P D vwCl [(a, .inl (cI, n, .inl f)), (q, .inl (cI, k.toNatClampNeg, .inl (fun _ => 0)))] H := hP
  have hD : va_D A [(a, .inl (cI, n, .inl f)), (q, .inl (cI, k.toNatClampNeg, .inl (fun _ => 0)))] := hD
  refine W.widen (k := 1) (n := k.toNatClampNeg) (by omega) (by omega) ?_
  refine lv_astore_n (lv' := [(2, .ref q), (0, .ref a), (1, .int k)]) hx hb d_JA_copyOf_AII_17 rfl hl (by decide) rfl (fun ls hl => ?_)
  refine lv_aload_n hx hb d_JA_copyOf_AII_18 rfl (lv_at hl 1 rfl) ?_
  refine lv_iconst (v := 0) hx hb d_JA_copyOf_AII_19 (by decide) ?_
  refine lv_aload_n hx hb d_JA_copyOf_AII_20 rfl (lv_at hl 0 rfl) ?_
  refine lv_iconst (v := 0) hx hb d_JA_copyOf_AII_21 (by decide) ?_
  refine lv_aload_n hx hb d_JA_copyOf_AII_22 rfl (lv_at hl 1 rfl) ?_
  refine va_alen (v := Int32.ofNat n) hx hb hK.1 hP 0 0 rfl rfl rfl d_JA_copyOf_AII_23 ?_
  refine lv_iload_n hx hb d_JA_copyOf_AII_24 rfl (lv_at hl 2 rfl) ?_
  refine va_mmin hx hb (hml.trans hl.1.symm) hown (hts _ k4_30) (hts _ k3_6) (hts _ k1_15) (mth_min hts k3_7) (Nat.le_of_ble_eq_true rfl) (Nat.le_of_ble_eq_true rfl) (Nat.le_refl _) (Nat.le_refl _) d_JA_copyOf_AII_25 ?_
  rw [hmin]
  refine va_copyi hx hb (hml.trans hl.1.symm) hown (hts _ k4_31) (hts _ k4_33) (hts _ k4_32) (hts _ k1_18) hK.1 hP hD hS 0 1 0 0 rfl rfl rfl rfl rfl (by decide) (by decide) hn0 (by rw [hnn]; show 0 + n ≤ n; omega) (by rw [hnn]; show 0 + n ≤ _; omega) (fun _ _ => rfl) (Nat.le_of_ble_eq_true rfl) (Nat.le_of_ble_eq_true rfl) d_JA_copyOf_AII_28 (fun H locs hP hD hS => ?_)
  rw [hnn] at hP hD
  have hP : va_P D vwCl [(a, .inl (cI, n, .inl f)), (q, .inl (cI, k.toNatClampNeg, .inl (va_cpy f (fun _ => 0) 0 0 n)))] H := hP
  have hD : va_D A [(a, .inl (cI, n, .inl f)), (q, .inl (cI, k.toNatClampNeg, .inl (va_cpy f (fun _ => 0) 0 0 n)))] := hD
  refine lv_aload_n hx hb d_JA_copyOf_AII_31 rfl (lv_at hl 0 rfl) ?_
  exact W.aret (v := .ref q) hx hb hr (Or.inr ⟨_, rfl⟩) (Or.inr ⟨_, rfl⟩) (fun t ht hW => ⟨q, rfl, by rw [ht]; exact hP, hD, hS.F ht⟩) hS.2.2 d_JA_copyOf_AII_32
abbrev rm_JA_copyOf_AJI (k : Nat) : Room := { frames := 1, cells := 1, slots := k, locals := 60 }
set_option maxHeartbeats 4000000 in
set_option maxRecDepth 100000 in
theorem c_JA_copyOf_AJI (l : Launch) (D : va_G) (cI cJ cZ : ClassId) (a : Nat) (sz n : Nat) (f : Nat → Int64) (k : Int32) (hk : cpk k n = true) : Met l y_JA_copyOf_AJI (ws_JA_copyOf_AJI) (rm_JA_copyOf_AJI k.toNatClampNeg) (WPc D vwCl cI cJ cZ [.ref a, .int k] [(a, .inl (cJ, n, .inr (.inl f)))] sz) (WQr D vwCl (fun q => [(a, .inl (cJ, n, .inr (.inl f))), (q, .inl (cJ, k.toNatClampNeg, .inr (.inl (va_cpy f (fun _ => 0) 0 0 n))))]) (va_A [(a, .inl (cJ, n, .inr (.inl f)))] sz)) 1 k.toNatClampNeg (va_A [(a, .inl (cJ, n, .inr (.inl f)))] sz) := by
  obtain ⟨hmin, hn0, hnn, hle, hk0, hk6, hne⟩ := cpk_min hk
  refine Met.ofW (cc := b_JA_copyOf_AJI) (maxL := 3) (ret := (some (.array .long))) (by decide) rfl ?_
  intro p e s m args below meth c s₁ B hml hv
  obtain ⟨rfl, rfl, hP, hK, hD0⟩ := hv
  have hx := B.exec
  have hb := B.bytes
  have hr := B.returns
  have hts : ∀ w ∈ BG, w.before _ s = true := fun w h => atoms_spec (ws := (ws_JA_copyOf_AJI)) B.pre w (List.mem_cons_of_mem _ h)
  have hown : s.vm.findClass "java/util/Arrays" = some m.cls := findClass_of_methodNamed B.named
  have hlocks := B.notSynchronized
  have hD := hD0.self (sz := s.heap.size)
  have hA : ∀ q : Nat, s.heap.size ≤ q → va_A [(a, .inl (cJ, n, .inr (.inl f)))] s.heap.size q := fun q h => Or.inr h
  have hS : va_S (va_A [(a, .inl (cJ, n, .inr (.inl f)))] s.heap.size) s.heap s.heap [] := va_S.rf
  generalize va_A [(a, .inl (cJ, n, .inr (.inl f)))] s.heap.size = A at hD hA hS ⊢
  have hl := lv_entry ([.ref a, .int k]) (n := 3) (Nat.le_of_ble_eq_true rfl)
  rw [lg_entry_eq]
  generalize (lg_sl ([.ref a, .int k]) ++ List.replicate (3 - (lg_sl ([.ref a, .int k])).length) Slot.unset).toArray = ls at hl ⊢
  have hl : lv_has ls 3 [(0, .ref a), (1, .int k)] := hl
  refine lv_iload_n hx hb d_JA_copyOf_AJI_0 rfl (lv_at hl 1 rfl) ?_
  refine lv_aload_n hx hb d_JA_copyOf_AJI_1 rfl (lv_at hl 0 rfl) ?_
  refine va_alen (v := Int32.ofNat n) hx hb hK.1 hP 0 1 rfl rfl rfl d_JA_copyOf_AJI_2 ?_
  refine lv_icmp_ne (tgt := 14) hx hb d_JA_copyOf_AJI_3 (by decide) (fun c1 => ?_) (fun c1 => absurd c1 hne)
  refine lv_iload_n hx hb d_JA_copyOf_AJI_14 rfl (lv_at hl 1 rfl) ?_
  refine my_newa (a0 := (k.toNatClampNeg, .inr (.inl (fun _ => 0)))) (N' := k.toNatClampNeg) hx hb (hts _ k1_60) rfl hK.2.2.1 hP hD hS hA (fun _ => rfl) hk0 rfl (by show _ * 8 ≤ _; omega) (Nat.le_of_ble_eq_true rfl) (by show 0 + k.toNatClampNeg ≤ k.toNatClampNeg; omega) d_JA_copyOf_AJI_15 (fun q H hP hD hS => ?_)
  have hP : va_P D vwCl [(a, .inl (cJ, n, .inr (.inl f))), (q, .inl (cJ, k.toNatClampNeg, .inr (.inl (fun _ => 0))))] H := hP
  have hD : va_D A [(a, .inl (cJ, n, .inr (.inl f))), (q, .inl (cJ, k.toNatClampNeg, .inr (.inl (fun _ => 0))))] := hD
  refine W.widen (k := 1) (n := k.toNatClampNeg) (by omega) (by omega) ?_
  refine lv_astore_n (lv' := [(2, .ref q), (0, .ref a), (1, .int k)]) hx hb d_JA_copyOf_AJI_17 rfl hl (by decide) rfl (fun ls hl => ?_)
  refine lv_aload_n hx hb d_JA_copyOf_AJI_18 rfl (lv_at hl 1 rfl) ?_
  refine lv_iconst (v := 0) hx hb d_JA_copyOf_AJI_19 (by decide) ?_
  refine lv_aload_n hx hb d_JA_copyOf_AJI_20 rfl (lv_at hl 0 rfl) ?_
  refine lv_iconst (v := 0) hx hb d_JA_copyOf_AJI_21 (by decide) ?_
  refine lv_aload_n hx hb d_JA_copyOf_AJI_22 rfl (lv_at hl 1 rfl) ?_
  refine va_alen (v := Int32.ofNat n) hx hb hK.1 hP 0 1 rfl rfl rfl d_JA_copyOf_AJI_23 ?_
  refine lv_iload_n hx hb d_JA_copyOf_AJI_24 rfl (lv_at hl 2 rfl) ?_
  refine va_mmin hx hb (hml.trans hl.1.symm) hown (hts _ k4_30) (hts _ k3_6) (hts _ k1_15) (mth_min hts k3_7) (Nat.le_of_ble_eq_true rfl) (Nat.le_of_ble_eq_true rfl) (Nat.le_refl _) (Nat.le_refl _) d_JA_copyOf_AJI_25 ?_
  rw [hmin]
  refine va_copyl hx hb (hml.trans hl.1.symm) hown (hts _ k4_31) (hts _ k4_33) (hts _ k4_32) (hts _ k1_18) hK.1 hP hD hS 0 1 1 1 rfl rfl rfl rfl rfl (by decide) (by decide) hn0 (by rw [hnn]; show 0 + n ≤ n; omega) (by rw [hnn]; show 0 + n ≤ _; omega) (fun _ _ => rfl) (Nat.le_of_ble_eq_true rfl) (Nat.le_of_ble_eq_true rfl) d_JA_copyOf_AJI_28 (fun H locs hP hD hS => ?_)
  rw [hnn] at hP hD
  have hP : va_P D vwCl [(a, .inl (cJ, n, .inr (.inl f))), (q, .inl (cJ, k.toNatClampNeg, .inr (.inl (va_cpy f (fun _ => 0) 0 0 n))))] H := hP
  have hD : va_D A [(a, .inl (cJ, n, .inr (.inl f))), (q, .inl (cJ, k.toNatClampNeg, .inr (.inl (va_cpy f (fun _ => 0) 0 0 n))))] := hD
  refine lv_aload_n hx hb d_JA_copyOf_AJI_31 rfl (lv_at hl 0 rfl) ?_
  exact W.aret (v := .ref q) hx hb hr (Or.inr ⟨_, rfl⟩) (Or.inr ⟨_, rfl⟩) (fun t ht hW => ⟨q, rfl, by rw [ht]; exact hP, hD, hS.F ht⟩) hS.2.2 d_JA_copyOf_AJI_32
