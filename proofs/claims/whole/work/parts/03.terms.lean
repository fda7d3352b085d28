abbrev b_T_count : ByteArray := prog_7_method_2_code
abbrev y_T_count : MethodName := ⟨"ShapeSearch$Terms", "count", "()I"⟩
abbrev ws_T_count : List Cond := .code y_T_count b_T_count 1 (some .int) :: BG
theorem hd_T_count : y_T_count.cls ≠ "java/lang/invoke/MethodHandle" ∧ y_T_count.cls ≠ "java/lang/invoke/VarHandle" ∧ (parseMethodDescriptor y_T_count.desc).map (fun d => d.parameters.length) = some 0 := by decide +kernel
theorem d_T_count_0 : decode b_T_count 0 = .ok (.aload_n 0, 1) := by decide +kernel
theorem d_T_count_1 : decode b_T_count 1 = .ok (.getfield 37, 3) := by decide +kernel
theorem d_T_count_4 : decode b_T_count 4 = .ok (.ireturn, 1) := by decide +kernel
abbrev b_T_has : ByteArray := prog_7_method_3_code
abbrev y_T_has : MethodName := ⟨"ShapeSearch$Terms", "has", "(I)Z"⟩
abbrev ws_T_has : List Cond := .code y_T_has b_T_has 2 (some .boolean) :: BG
theorem hd_T_has : y_T_has.cls ≠ "java/lang/invoke/MethodHandle" ∧ y_T_has.cls ≠ "java/lang/invoke/VarHandle" ∧ (parseMethodDescriptor y_T_has.desc).map (fun d => d.parameters.length) = some 1 := by decide +kernel
theorem d_T_has_0 : decode b_T_has 0 = .ok (.iload_n 1, 1) := by decide +kernel
theorem d_T_has_1 : decode b_T_has 1 = .ok (.ifCond .lt 15, 3) := by decide +kernel
theorem d_T_has_4 : decode b_T_has 4 = .ok (.iload_n 1, 1) := by decide +kernel
theorem d_T_has_5 : decode b_T_has 5 = .ok (.aload_n 0, 1) := by decide +kernel
theorem d_T_has_6 : decode b_T_has 6 = .ok (.getfield 37, 3) := by decide +kernel
theorem d_T_has_9 : decode b_T_has 9 = .ok (.if_icmp .ge 7, 3) := by decide +kernel
theorem d_T_has_12 : decode b_T_has 12 = .ok (.iconst 1, 1) := by decide +kernel
theorem d_T_has_13 : decode b_T_has 13 = .ok (.goto 4, 3) := by decide +kernel
theorem d_T_has_16 : decode b_T_has 16 = .ok (.iconst 0, 1) := by decide +kernel
theorem d_T_has_17 : decode b_T_has 17 = .ok (.ireturn, 1) := by decide +kernel
abbrev b_T_head : ByteArray := prog_7_method_4_code
abbrev y_T_head : MethodName := ⟨"ShapeSearch$Terms", "head", "(I)I"⟩
abbrev ws_T_head : List Cond := .code y_T_head b_T_head 2 (some .int) :: BG
theorem hd_T_head : y_T_head.cls ≠ "java/lang/invoke/MethodHandle" ∧ y_T_head.cls ≠ "java/lang/invoke/VarHandle" ∧ (parseMethodDescriptor y_T_head.desc).map (fun d => d.parameters.length) = some 1 := by decide +kernel
theorem d_T_head_0 : decode b_T_head 0 = .ok (.iload_n 1, 1) := by decide +kernel
theorem d_T_head_1 : decode b_T_head 1 = .ok (.ifCond .lt 20, 3) := by decide +kernel
theorem d_T_head_4 : decode b_T_head 4 = .ok (.iload_n 1, 1) := by decide +kernel
theorem d_T_head_5 : decode b_T_head 5 = .ok (.aload_n 0, 1) := by decide +kernel
theorem d_T_head_6 : decode b_T_head 6 = .ok (.getfield 37, 3) := by decide +kernel
theorem d_T_head_9 : decode b_T_head 9 = .ok (.if_icmp .ge 12, 3) := by decide +kernel
theorem d_T_head_12 : decode b_T_head 12 = .ok (.aload_n 0, 1) := by decide +kernel
theorem d_T_head_13 : decode b_T_head 13 = .ok (.getfield 11, 3) := by decide +kernel
theorem d_T_head_16 : decode b_T_head 16 = .ok (.iload_n 1, 1) := by decide +kernel
theorem d_T_head_17 : decode b_T_head 17 = .ok (.iaload, 1) := by decide +kernel
theorem d_T_head_18 : decode b_T_head 18 = .ok (.goto 4, 3) := by decide +kernel
theorem d_T_head_21 : decode b_T_head 21 = .ok (.iconst (-1), 1) := by decide +kernel
theorem d_T_head_22 : decode b_T_head 22 = .ok (.ireturn, 1) := by decide +kernel
abbrev b_T_place : ByteArray := prog_7_method_5_code
abbrev y_T_place : MethodName := ⟨"ShapeSearch$Terms", "place", "(II)I"⟩
abbrev ws_T_place : List Cond := .code y_T_place b_T_place 3 (some .int) :: BG
theorem hd_T_place : y_T_place.cls ≠ "java/lang/invoke/MethodHandle" ∧ y_T_place.cls ≠ "java/lang/invoke/VarHandle" ∧ (parseMethodDescriptor y_T_place.desc).map (fun d => d.parameters.length) = some 2 := by decide +kernel
theorem d_T_place_0 : decode b_T_place 0 = .ok (.iload_n 1, 1) := by decide +kernel
theorem d_T_place_1 : decode b_T_place 1 = .ok (.ifCond .lt 33, 3) := by decide +kernel
theorem d_T_place_4 : decode b_T_place 4 = .ok (.iload_n 1, 1) := by decide +kernel
theorem d_T_place_5 : decode b_T_place 5 = .ok (.aload_n 0, 1) := by decide +kernel
theorem d_T_place_6 : decode b_T_place 6 = .ok (.getfield 37, 3) := by decide +kernel
theorem d_T_place_9 : decode b_T_place 9 = .ok (.if_icmp .ge 25, 3) := by decide +kernel
theorem d_T_place_12 : decode b_T_place 12 = .ok (.iload_n 2, 1) := by decide +kernel
theorem d_T_place_13 : decode b_T_place 13 = .ok (.ifCond .lt 21, 3) := by decide +kernel
theorem d_T_place_16 : decode b_T_place 16 = .ok (.iload_n 2, 1) := by decide +kernel
theorem d_T_place_17 : decode b_T_place 17 = .ok (.iconst 3, 1) := by decide +kernel
theorem d_T_place_18 : decode b_T_place 18 = .ok (.if_icmp .ge 16, 3) := by decide +kernel
theorem d_T_place_21 : decode b_T_place 21 = .ok (.aload_n 0, 1) := by decide +kernel
theorem d_T_place_22 : decode b_T_place 22 = .ok (.getfield 15, 3) := by decide +kernel
theorem d_T_place_25 : decode b_T_place 25 = .ok (.iload_n 1, 1) := by decide +kernel
theorem d_T_place_26 : decode b_T_place 26 = .ok (.iconst 3, 1) := by decide +kernel
theorem d_T_place_27 : decode b_T_place 27 = .ok (.imul, 1) := by decide +kernel
theorem d_T_place_28 : decode b_T_place 28 = .ok (.iload_n 2, 1) := by decide +kernel
theorem d_T_place_29 : decode b_T_place 29 = .ok (.iadd, 1) := by decide +kernel
theorem d_T_place_30 : decode b_T_place 30 = .ok (.iaload, 1) := by decide +kernel
theorem d_T_place_31 : decode b_T_place 31 = .ok (.goto 4, 3) := by decide +kernel
theorem d_T_place_34 : decode b_T_place 34 = .ok (.iconst (-1), 1) := by decide +kernel
theorem d_T_place_35 : decode b_T_place 35 = .ok (.ireturn, 1) := by decide +kernel
abbrev b_T_size : ByteArray := prog_7_method_6_code
abbrev y_T_size : MethodName := ⟨"ShapeSearch$Terms", "size", "(I)I"⟩
abbrev ws_T_size : List Cond := .code y_T_size b_T_size 2 (some .int) :: BG
theorem hd_T_size : y_T_size.cls ≠ "java/lang/invoke/MethodHandle" ∧ y_T_size.cls ≠ "java/lang/invoke/VarHandle" ∧ (parseMethodDescriptor y_T_size.desc).map (fun d => d.parameters.length) = some 1 := by decide +kernel
theorem d_T_size_0 : decode b_T_size 0 = .ok (.iload_n 1, 1) := by decide +kernel
theorem d_T_size_1 : decode b_T_size 1 = .ok (.ifCond .lt 20, 3) := by decide +kernel
theorem d_T_size_4 : decode b_T_size 4 = .ok (.iload_n 1, 1) := by decide +kernel
theorem d_T_size_5 : decode b_T_size 5 = .ok (.aload_n 0, 1) := by decide +kernel
theorem d_T_size_6 : decode b_T_size 6 = .ok (.getfield 37, 3) := by decide +kernel
theorem d_T_size_9 : decode b_T_size 9 = .ok (.if_icmp .ge 12, 3) := by decide +kernel
theorem d_T_size_12 : decode b_T_size 12 = .ok (.aload_n 0, 1) := by decide +kernel
theorem d_T_size_13 : decode b_T_size 13 = .ok (.getfield 21, 3) := by decide +kernel
theorem d_T_size_16 : decode b_T_size 16 = .ok (.iload_n 1, 1) := by decide +kernel
theorem d_T_size_17 : decode b_T_size 17 = .ok (.iaload, 1) := by decide +kernel
theorem d_T_size_18 : decode b_T_size 18 = .ok (.goto 4, 3) := by decide +kernel
theorem d_T_size_21 : decode b_T_size 21 = .ok (.iconst 0, 1) := by decide +kernel
theorem d_T_size_22 : decode b_T_size 22 = .ok (.ireturn, 1) := by decide +kernel
abbrev b_T_within : ByteArray := prog_7_method_7_code
abbrev y_T_within : MethodName := ⟨"ShapeSearch$Terms", "within", "(I)J"⟩
abbrev ws_T_within : List Cond := .code y_T_within b_T_within 2 (some .long) :: BG
theorem hd_T_within : y_T_within.cls ≠ "java/lang/invoke/MethodHandle" ∧ y_T_within.cls ≠ "java/lang/invoke/VarHandle" ∧ (parseMethodDescriptor y_T_within.desc).map (fun d => d.parameters.length) = some 1 := by decide +kernel
theorem d_T_within_0 : decode b_T_within 0 = .ok (.iload_n 1, 1) := by decide +kernel
theorem d_T_within_1 : decode b_T_within 1 = .ok (.ifCond .lt 20, 3) := by decide +kernel
theorem d_T_within_4 : decode b_T_within 4 = .ok (.iload_n 1, 1) := by decide +kernel
theorem d_T_within_5 : decode b_T_within 5 = .ok (.aload_n 0, 1) := by decide +kernel
theorem d_T_within_6 : decode b_T_within 6 = .ok (.getfield 37, 3) := by decide +kernel
theorem d_T_within_9 : decode b_T_within 9 = .ok (.if_icmp .ge 12, 3) := by decide +kernel
theorem d_T_within_12 : decode b_T_within 12 = .ok (.aload_n 0, 1) := by decide +kernel
theorem d_T_within_13 : decode b_T_within 13 = .ok (.getfield 24, 3) := by decide +kernel
theorem d_T_within_16 : decode b_T_within 16 = .ok (.iload_n 1, 1) := by decide +kernel
theorem d_T_within_17 : decode b_T_within 17 = .ok (.laload, 1) := by decide +kernel
theorem d_T_within_18 : decode b_T_within 18 = .ok (.goto 4, 3) := by decide +kernel
theorem d_T_within_21 : decode b_T_within 21 = .ok (.lconst 0, 1) := by decide +kernel
theorem d_T_within_22 : decode b_T_within 22 = .ok (.lreturn, 1) := by decide +kernel
abbrev b_T_holds : ByteArray := prog_7_method_8_code
abbrev y_T_holds : MethodName := ⟨"ShapeSearch$Terms", "holds", "(IJ)Z"⟩
abbrev ws_T_holds : List Cond := .code y_T_holds b_T_holds 4 (some .boolean) :: BG
theorem hd_T_holds : y_T_holds.cls ≠ "java/lang/invoke/MethodHandle" ∧ y_T_holds.cls ≠ "java/lang/invoke/VarHandle" ∧ (parseMethodDescriptor y_T_holds.desc).map (fun d => d.parameters.length) = some 2 := by decide +kernel
theorem d_T_holds_0 : decode b_T_holds 0 = .ok (.iload_n 1, 1) := by decide +kernel
theorem d_T_holds_1 : decode b_T_holds 1 = .ok (.ifCond .lt 28, 3) := by decide +kernel
theorem d_T_holds_4 : decode b_T_holds 4 = .ok (.iload_n 1, 1) := by decide +kernel
theorem d_T_holds_5 : decode b_T_holds 5 = .ok (.aload_n 0, 1) := by decide +kernel
theorem d_T_holds_6 : decode b_T_holds 6 = .ok (.getfield 37, 3) := by decide +kernel
theorem d_T_holds_9 : decode b_T_holds 9 = .ok (.if_icmp .ge 20, 3) := by decide +kernel
theorem d_T_holds_12 : decode b_T_holds 12 = .ok (.aload_n 0, 1) := by decide +kernel
theorem d_T_holds_13 : decode b_T_holds 13 = .ok (.getfield 24, 3) := by decide +kernel
theorem d_T_holds_16 : decode b_T_holds 16 = .ok (.iload_n 1, 1) := by decide +kernel
theorem d_T_holds_17 : decode b_T_holds 17 = .ok (.laload, 1) := by decide +kernel
theorem d_T_holds_18 : decode b_T_holds 18 = .ok (.lload_n 2, 1) := by decide +kernel
theorem d_T_holds_19 : decode b_T_holds 19 = .ok (.land, 1) := by decide +kernel
theorem d_T_holds_20 : decode b_T_holds 20 = .ok (.lconst 0, 1) := by decide +kernel
theorem d_T_holds_21 : decode b_T_holds 21 = .ok (.lcmp, 1) := by decide +kernel
theorem d_T_holds_22 : decode b_T_holds 22 = .ok (.ifCond .eq 7, 3) := by decide +kernel
theorem d_T_holds_25 : decode b_T_holds 25 = .ok (.iconst 1, 1) := by decide +kernel
theorem d_T_holds_26 : decode b_T_holds 26 = .ok (.goto 4, 3) := by decide +kernel
theorem d_T_holds_29 : decode b_T_holds 29 = .ok (.iconst 0, 1) := by decide +kernel
theorem d_T_holds_30 : decode b_T_holds 30 = .ok (.ireturn, 1) := by decide +kernel
abbrev b_T_bucket : ByteArray := prog_7_method_14_code
abbrev y_T_bucket : MethodName := ⟨"ShapeSearch$Terms", "bucket", "(IIII)I"⟩
abbrev ws_T_bucket : List Cond := .code y_T_bucket b_T_bucket 4 (some .int) :: BG
theorem hd_T_bucket : y_T_bucket.cls ≠ "java/lang/invoke/MethodHandle" ∧ y_T_bucket.cls ≠ "java/lang/invoke/VarHandle" ∧ (parseMethodDescriptor y_T_bucket.desc).map (fun d => d.parameters.length) = some 4 := by decide +kernel
theorem d_T_bucket_0 : decode b_T_bucket 0 = .ok (.iload_n 0, 1) := by decide +kernel
theorem d_T_bucket_1 : decode b_T_bucket 1 = .ok (.bipush 37, 2) := by decide +kernel
theorem d_T_bucket_3 : decode b_T_bucket 3 = .ok (.iload_n 1, 1) := by decide +kernel
theorem d_T_bucket_4 : decode b_T_bucket 4 = .ok (.imul, 1) := by decide +kernel
theorem d_T_bucket_5 : decode b_T_bucket 5 = .ok (.iadd, 1) := by decide +kernel
theorem d_T_bucket_6 : decode b_T_bucket 6 = .ok (.bipush 101, 2) := by decide +kernel
theorem d_T_bucket_8 : decode b_T_bucket 8 = .ok (.iload_n 2, 1) := by decide +kernel
theorem d_T_bucket_9 : decode b_T_bucket 9 = .ok (.imul, 1) := by decide +kernel
theorem d_T_bucket_10 : decode b_T_bucket 10 = .ok (.iadd, 1) := by decide +kernel
theorem d_T_bucket_11 : decode b_T_bucket 11 = .ok (.sipush 171, 3) := by decide +kernel
theorem d_T_bucket_14 : decode b_T_bucket 14 = .ok (.iload_n 3, 1) := by decide +kernel
theorem d_T_bucket_15 : decode b_T_bucket 15 = .ok (.imul, 1) := by decide +kernel
theorem d_T_bucket_16 : decode b_T_bucket 16 = .ok (.iadd, 1) := by decide +kernel
theorem d_T_bucket_17 : decode b_T_bucket 17 = .ok (.sipush 255, 3) := by decide +kernel
theorem d_T_bucket_20 : decode b_T_bucket 20 = .ok (.iand, 1) := by decide +kernel
theorem d_T_bucket_21 : decode b_T_bucket 21 = .ok (.ireturn, 1) := by decide +kernel
abbrev b_T_seek : ByteArray := prog_7_method_13_code
abbrev y_T_seek : MethodName := ⟨"ShapeSearch$Terms", "seek", "(IIIII)I"⟩
abbrev ws_T_seek : List Cond := .code y_T_seek b_T_seek 9 (some .int) :: BG
theorem hd_T_seek : y_T_seek.cls ≠ "java/lang/invoke/MethodHandle" ∧ y_T_seek.cls ≠ "java/lang/invoke/VarHandle" ∧ (parseMethodDescriptor y_T_seek.desc).map (fun d => d.parameters.length) = some 5 := by decide +kernel
theorem d_T_seek_0 : decode b_T_seek 0 = .ok (.aload_n 0, 1) := by decide +kernel
theorem d_T_seek_1 : decode b_T_seek 1 = .ok (.getfield 28, 3) := by decide +kernel
theorem d_T_seek_4 : decode b_T_seek 4 = .ok (.iload_n 1, 1) := by decide +kernel
theorem d_T_seek_5 : decode b_T_seek 5 = .ok (.iaload, 1) := by decide +kernel
theorem d_T_seek_6 : decode b_T_seek 6 = .ok (.istore 6, 2) := by decide +kernel
theorem d_T_seek_8 : decode b_T_seek 8 = .ok (.iconst 0, 1) := by decide +kernel
theorem d_T_seek_9 : decode b_T_seek 9 = .ok (.istore 7, 2) := by decide +kernel
theorem d_T_seek_11 : decode b_T_seek 11 = .ok (.iload 7, 2) := by decide +kernel
theorem d_T_seek_13 : decode b_T_seek 13 = .ok (.aload_n 0, 1) := by decide +kernel
theorem d_T_seek_14 : decode b_T_seek 14 = .ok (.getfield 37, 3) := by decide +kernel
theorem d_T_seek_17 : decode b_T_seek 17 = .ok (.if_icmp .ge 91, 3) := by decide +kernel
theorem d_T_seek_20 : decode b_T_seek 20 = .ok (.iload 6, 2) := by decide +kernel
theorem d_T_seek_22 : decode b_T_seek 22 = .ok (.ifCond .lt 86, 3) := by decide +kernel
theorem d_T_seek_25 : decode b_T_seek 25 = .ok (.iload 6, 2) := by decide +kernel
theorem d_T_seek_27 : decode b_T_seek 27 = .ok (.aload_n 0, 1) := by decide +kernel
theorem d_T_seek_28 : decode b_T_seek 28 = .ok (.getfield 37, 3) := by decide +kernel
theorem d_T_seek_31 : decode b_T_seek 31 = .ok (.if_icmp .ge 77, 3) := by decide +kernel
theorem d_T_seek_34 : decode b_T_seek 34 = .ok (.iload 6, 2) := by decide +kernel
theorem d_T_seek_36 : decode b_T_seek 36 = .ok (.iconst 3, 1) := by decide +kernel
theorem d_T_seek_37 : decode b_T_seek 37 = .ok (.imul, 1) := by decide +kernel
theorem d_T_seek_38 : decode b_T_seek 38 = .ok (.istore 8, 2) := by decide +kernel
theorem d_T_seek_40 : decode b_T_seek 40 = .ok (.aload_n 0, 1) := by decide +kernel
theorem d_T_seek_41 : decode b_T_seek 41 = .ok (.getfield 11, 3) := by decide +kernel
theorem d_T_seek_44 : decode b_T_seek 44 = .ok (.iload 6, 2) := by decide +kernel
theorem d_T_seek_46 : decode b_T_seek 46 = .ok (.iaload, 1) := by decide +kernel
theorem d_T_seek_47 : decode b_T_seek 47 = .ok (.iload_n 2, 1) := by decide +kernel
theorem d_T_seek_48 : decode b_T_seek 48 = .ok (.if_icmp .ne 45, 3) := by decide +kernel
theorem d_T_seek_51 : decode b_T_seek 51 = .ok (.aload_n 0, 1) := by decide +kernel
theorem d_T_seek_52 : decode b_T_seek 52 = .ok (.getfield 15, 3) := by decide +kernel
theorem d_T_seek_55 : decode b_T_seek 55 = .ok (.iload 8, 2) := by decide +kernel
theorem d_T_seek_57 : decode b_T_seek 57 = .ok (.iaload, 1) := by decide +kernel
theorem d_T_seek_58 : decode b_T_seek 58 = .ok (.iload_n 3, 1) := by decide +kernel
theorem d_T_seek_59 : decode b_T_seek 59 = .ok (.if_icmp .ne 34, 3) := by decide +kernel
theorem d_T_seek_62 : decode b_T_seek 62 = .ok (.aload_n 0, 1) := by decide +kernel
theorem d_T_seek_63 : decode b_T_seek 63 = .ok (.getfield 15, 3) := by decide +kernel
theorem d_T_seek_66 : decode b_T_seek 66 = .ok (.iload 8, 2) := by decide +kernel
theorem d_T_seek_68 : decode b_T_seek 68 = .ok (.iconst 1, 1) := by decide +kernel
theorem d_T_seek_69 : decode b_T_seek 69 = .ok (.iadd, 1) := by decide +kernel
theorem d_T_seek_70 : decode b_T_seek 70 = .ok (.iaload, 1) := by decide +kernel
theorem d_T_seek_71 : decode b_T_seek 71 = .ok (.iload 4, 2) := by decide +kernel
theorem d_T_seek_73 : decode b_T_seek 73 = .ok (.if_icmp .ne 20, 3) := by decide +kernel
theorem d_T_seek_76 : decode b_T_seek 76 = .ok (.aload_n 0, 1) := by decide +kernel
theorem d_T_seek_77 : decode b_T_seek 77 = .ok (.getfield 15, 3) := by decide +kernel
theorem d_T_seek_80 : decode b_T_seek 80 = .ok (.iload 8, 2) := by decide +kernel
theorem d_T_seek_82 : decode b_T_seek 82 = .ok (.iconst 2, 1) := by decide +kernel
theorem d_T_seek_83 : decode b_T_seek 83 = .ok (.iadd, 1) := by decide +kernel
theorem d_T_seek_84 : decode b_T_seek 84 = .ok (.iaload, 1) := by decide +kernel
theorem d_T_seek_85 : decode b_T_seek 85 = .ok (.iload 5, 2) := by decide +kernel
theorem d_T_seek_87 : decode b_T_seek 87 = .ok (.if_icmp .ne 6, 3) := by decide +kernel
theorem d_T_seek_90 : decode b_T_seek 90 = .ok (.iload 6, 2) := by decide +kernel
theorem d_T_seek_92 : decode b_T_seek 92 = .ok (.ireturn, 1) := by decide +kernel
theorem d_T_seek_93 : decode b_T_seek 93 = .ok (.aload_n 0, 1) := by decide +kernel
theorem d_T_seek_94 : decode b_T_seek 94 = .ok (.getfield 18, 3) := by decide +kernel
theorem d_T_seek_97 : decode b_T_seek 97 = .ok (.iload 6, 2) := by decide +kernel
theorem d_T_seek_99 : decode b_T_seek 99 = .ok (.iaload, 1) := by decide +kernel
theorem d_T_seek_100 : decode b_T_seek 100 = .ok (.istore 6, 2) := by decide +kernel
theorem d_T_seek_102 : decode b_T_seek 102 = .ok (.iinc 7 1, 3) := by decide +kernel
theorem d_T_seek_105 : decode b_T_seek 105 = .ok (.goto (-94), 3) := by decide +kernel
theorem d_T_seek_108 : decode b_T_seek 108 = .ok (.iconst (-1), 1) := by decide +kernel
theorem d_T_seek_109 : decode b_T_seek 109 = .ok (.ireturn, 1) := by decide +kernel
abbrev b_T_seekLeaf : ByteArray := prog_7_method_9_code
abbrev y_T_seekLeaf : MethodName := ⟨"ShapeSearch$Terms", "seekLeaf", "(I)I"⟩
abbrev ws_T_seekLeaf : List Cond := .code y_T_seekLeaf b_T_seekLeaf 2 (some .int) :: BG
theorem hd_T_seekLeaf : y_T_seekLeaf.cls ≠ "java/lang/invoke/MethodHandle" ∧ y_T_seekLeaf.cls ≠ "java/lang/invoke/VarHandle" ∧ (parseMethodDescriptor y_T_seekLeaf.desc).map (fun d => d.parameters.length) = some 1 := by decide +kernel
theorem d_T_seekLeaf_0 : decode b_T_seekLeaf 0 = .ok (.aload_n 0, 1) := by decide +kernel
theorem d_T_seekLeaf_1 : decode b_T_seekLeaf 1 = .ok (.iload_n 1, 1) := by decide +kernel
theorem d_T_seekLeaf_2 : decode b_T_seekLeaf 2 = .ok (.iconst (-1), 1) := by decide +kernel
theorem d_T_seekLeaf_3 : decode b_T_seekLeaf 3 = .ok (.iconst (-1), 1) := by decide +kernel
theorem d_T_seekLeaf_4 : decode b_T_seekLeaf 4 = .ok (.iconst (-1), 1) := by decide +kernel
theorem d_T_seekLeaf_5 : decode b_T_seekLeaf 5 = .ok (.invokestatic 41, 3) := by decide +kernel
theorem d_T_seekLeaf_8 : decode b_T_seekLeaf 8 = .ok (.iload_n 1, 1) := by decide +kernel
theorem d_T_seekLeaf_9 : decode b_T_seekLeaf 9 = .ok (.iconst (-1), 1) := by decide +kernel
theorem d_T_seekLeaf_10 : decode b_T_seekLeaf 10 = .ok (.iconst (-1), 1) := by decide +kernel
theorem d_T_seekLeaf_11 : decode b_T_seekLeaf 11 = .ok (.iconst (-1), 1) := by decide +kernel
theorem d_T_seekLeaf_12 : decode b_T_seekLeaf 12 = .ok (.invokevirtual 45, 3) := by decide +kernel
theorem d_T_seekLeaf_15 : decode b_T_seekLeaf 15 = .ok (.ireturn, 1) := by decide +kernel
theorem k1_43 : Cond.fieldLink "ShapeSearch$Terms" 37 "ShapeSearch$Terms" "count" "I" ∈ BG := List.mem_filter.mpr ⟨in_1 (List.mem_of_getElem? (i := 43) rfl), rfl⟩
theorem k1_37 : Cond.fieldLink "ShapeSearch$Terms" 11 "ShapeSearch$Terms" "heads" "[I" ∈ BG := List.mem_filter.mpr ⟨in_1 (List.mem_of_getElem? (i := 37) rfl), rfl⟩
theorem k1_38 : Cond.fieldLink "ShapeSearch$Terms" 15 "ShapeSearch$Terms" "places" "[I" ∈ BG := List.mem_filter.mpr ⟨in_1 (List.mem_of_getElem? (i := 38) rfl), rfl⟩
theorem k1_40 : Cond.fieldLink "ShapeSearch$Terms" 21 "ShapeSearch$Terms" "sizes" "[I" ∈ BG := List.mem_filter.mpr ⟨in_1 (List.mem_of_getElem? (i := 40) rfl), rfl⟩
theorem k1_41 : Cond.fieldLink "ShapeSearch$Terms" 24 "ShapeSearch$Terms" "withins" "[J" ∈ BG := List.mem_filter.mpr ⟨in_1 (List.mem_of_getElem? (i := 41) rfl), rfl⟩
theorem k1_42 : Cond.fieldLink "ShapeSearch$Terms" 28 "ShapeSearch$Terms" "newest" "[I" ∈ BG := List.mem_filter.mpr ⟨in_1 (List.mem_of_getElem? (i := 42) rfl), rfl⟩
theorem k1_39 : Cond.fieldLink "ShapeSearch$Terms" 18 "ShapeSearch$Terms" "olders" "[I" ∈ BG := List.mem_filter.mpr ⟨in_1 (List.mem_of_getElem? (i := 39) rfl), rfl⟩
theorem k2_89 : Cond.methodLink "ShapeSearch$Terms" 41 ⟨"ShapeSearch$Terms", "bucket", "(IIII)I"⟩ ∈ BG := List.mem_filter.mpr ⟨in_2 (List.mem_of_getElem? (i := 89) rfl), rfl⟩
theorem k2_91 : Cond.code ⟨"ShapeSearch$Terms", "bucket", "(IIII)I"⟩ prog_7_method_14_code 4 (some .int) ∈ BG := List.mem_filter.mpr ⟨in_2 (List.mem_of_getElem? (i := 91) rfl), rfl⟩
theorem k1_2 : Cond.initialized "ShapeSearch$Terms" ∈ BG := List.mem_filter.mpr ⟨in_1 (List.mem_of_getElem? (i := 2) rfl), rfl⟩
theorem k2_90 : Cond.static ⟨"ShapeSearch$Terms", "bucket", "(IIII)I"⟩ ∈ BG := List.mem_filter.mpr ⟨in_2 (List.mem_of_getElem? (i := 90) rfl), rfl⟩
theorem k2_92 : Cond.methodLink "ShapeSearch$Terms" 45 ⟨"ShapeSearch$Terms", "seek", "(IIIII)I"⟩ ∈ BG := List.mem_filter.mpr ⟨in_2 (List.mem_of_getElem? (i := 92) rfl), rfl⟩
theorem k2_95 : Cond.code ⟨"ShapeSearch$Terms", "seek", "(IIIII)I"⟩ prog_7_method_13_code 9 (some .int) ∈ BG := List.mem_filter.mpr ⟨in_2 (List.mem_of_getElem? (i := 95) rfl), rfl⟩
theorem k2_94 : Cond.instanceMethod ⟨"ShapeSearch$Terms", "seek", "(IIIII)I"⟩ ∈ BG := List.mem_filter.mpr ⟨in_2 (List.mem_of_getElem? (i := 94) rfl), rfl⟩
abbrev wv_0 (cI cJ cZ : ClassId) (aT aT_heads aT_places aT_olders aT_sizes aT_withins aT_newest : Nat) (T_count : Int32) : va_W := [(aT, .inr (1, [.ref aT_heads, .ref aT_places, .ref aT_olders, .ref aT_sizes, .ref aT_withins, .ref aT_newest, .int T_count]))]
abbrev wv_1 (cI cJ cZ : ClassId) (aT aT_heads aT_places aT_olders aT_sizes aT_withins aT_newest : Nat) (T_count : Int32) (nT_heads : Nat) (T_heads : (Nat → Int32)) : va_W := [(aT, .inr (1, [.ref aT_heads, .ref aT_places, .ref aT_olders, .ref aT_sizes, .ref aT_withins, .ref aT_newest, .int T_count])), (aT_heads, .inl (cI, nT_heads, .inl T_heads))]
abbrev wv_2 (cI cJ cZ : ClassId) (aT aT_heads aT_places aT_olders aT_sizes aT_withins aT_newest : Nat) (T_count : Int32) (nT_places : Nat) (T_places : (Nat → Int32)) : va_W := [(aT, .inr (1, [.ref aT_heads, .ref aT_places, .ref aT_olders, .ref aT_sizes, .ref aT_withins, .ref aT_newest, .int T_count])), (aT_places, .inl (cI, nT_places, .inl T_places))]
abbrev wv_3 (cI cJ cZ : ClassId) (aT aT_heads aT_places aT_olders aT_sizes aT_withins aT_newest : Nat) (T_count : Int32) (nT_sizes : Nat) (T_sizes : (Nat → Int32)) : va_W := [(aT, .inr (1, [.ref aT_heads, .ref aT_places, .ref aT_olders, .ref aT_sizes, .ref aT_withins, .ref aT_newest, .int T_count])), (aT_sizes, .inl (cI, nT_sizes, .inl T_sizes))]
abbrev wv_4 (cI cJ cZ : ClassId) (aT aT_heads aT_places aT_olders aT_sizes aT_withins aT_newest : Nat) (T_count : Int32) (nT_withins : Nat) (T_withins : (Nat → Int64)) : va_W := [(aT, .inr (1, [.ref aT_heads, .ref aT_places, .ref aT_olders, .ref aT_sizes, .ref aT_withins, .ref aT_newest, .int T_count])), (aT_withins, .inl (cJ, nT_withins, .inr (.inl T_withins)))]
abbrev wv_5 (cI cJ cZ : ClassId) : va_W := []
abbrev wv_6 (cI cJ cZ : ClassId) (aT aT_heads aT_places aT_olders aT_sizes aT_withins aT_newest : Nat) (T_count : Int32) (nT_heads : Nat) (T_heads : (Nat → Int32)) (nT_places : Nat) (T_places : (Nat → Int32)) (nT_olders : Nat) (T_olders : (Nat → Int32)) (T_newest : (Nat → Int32)) : va_W := [(aT, .inr (1, [.ref aT_heads, .ref aT_places, .ref aT_olders, .ref aT_sizes, .ref aT_withins, .ref aT_newest, .int T_count])), (aT_heads, .inl (cI, nT_heads, .inl T_heads)), (aT_places, .inl (cI, nT_places, .inl T_places)), (aT_olders, .inl (cI, nT_olders, .inl T_olders)), (aT_newest, .inl (cI, 256, .inl T_newest))]
def f_T_count (T_count : Int32) : Option (Int32) :=
  some T_count
abbrev rm_T_count : Room := { frames := 0, cells := 0, slots := 0, locals := 0 }
set_option maxHeartbeats 4000000 in
set_option maxRecDepth 100000 in
theorem c_T_count (l : Launch) (D : va_G) (cI cJ cZ : ClassId) (aT aT_heads aT_places aT_olders aT_sizes aT_withins aT_newest : Nat) (T_count : Int32) (o : Int32) (hf : f_T_count T_count = some o) : Met l y_T_count (ws_T_count) rm_T_count (RPc D vwCl cI cJ cZ [.ref aT] (wv_0 cI cJ cZ aT aT_heads aT_places aT_olders aT_sizes aT_withins aT_newest T_count)) (RQ (some (.int o))) 0 0 (fun _ => False) := by
  refine Met.ofW (cc := b_T_count) (maxL := 1) (ret := (some .int)) (by decide) rfl ?_
  intro p e s m args below meth c s₁ B hml hv
  obtain ⟨rfl, hP, hK⟩ := hv
  have hx := B.exec
  have hb := B.bytes
  have hr := B.returns
  have hts : ∀ w ∈ BG, w.before _ s = true := fun w h => atoms_spec (ws := (ws_T_count)) B.pre w (List.mem_cons_of_mem _ h)
  have hown : s.vm.findClass RR_T = some m.cls := findClass_of_methodNamed B.named
  have hlocks := B.notSynchronized
  have hl := lv_entry ([.ref aT]) (n := 1) (Nat.le_of_ble_eq_true rfl)
  rw [lg_entry_eq]
  generalize (lg_sl ([.ref aT]) ++ List.replicate (1 - (lg_sl ([.ref aT])).length) Slot.unset).toArray = ls at hl ⊢
  have hl : lv_has ls 1 [(0, .ref aT)] := hl
  rw [f_T_count] at hf
  refine lv_aload_n hx hb d_T_count_0 rfl (lv_at hl 0 rfl) ?_
  refine va_get (D := D) (ci := 1) (v := .int T_count) (C := RR_T) (T := FF_T) (N := 7) hx hb hts kin_T hown hK.1 hP 0 rfl rfl 6 (by decide) (hts _ k1_43) (fun _ h9 => h9) rfl d_T_count_1 ?_
  obtain rfl := Option.some.inj hf
  exact W.iret (v := T_count) hx hb hr (fun t ht hW => ⟨rfl, ht⟩) (fun q h => by cases h) d_T_count_4
def f_T_has (T_count : Int32) (p0 : Int32) : Option (Int32) :=
  if p0 < 0 then
    some (0 : Int32)
  else
    if T_count ≤ p0 then
      some (0 : Int32)
    else
      some (1 : Int32)
abbrev rm_T_has : Room := { frames := 0, cells := 0, slots := 0, locals := 0 }
set_option maxHeartbeats 4000000 in
set_option maxRecDepth 100000 in
theorem c_T_has (l : Launch) (D : va_G) (cI cJ cZ : ClassId) (aT aT_heads aT_places aT_olders aT_sizes aT_withins aT_newest : Nat) (T_count : Int32) (p0 : Int32) (o : Int32) (hf : f_T_has T_count p0 = some o) : Met l y_T_has (ws_T_has) rm_T_has (RPc D vwCl cI cJ cZ [.ref aT, .int p0] (wv_0 cI cJ cZ aT aT_heads aT_places aT_olders aT_sizes aT_withins aT_newest T_count)) (RQ (some (.int o))) 0 0 (fun _ => False) := by
  refine Met.ofW (cc := b_T_has) (maxL := 2) (ret := (some .boolean)) (by decide) rfl ?_
  intro p e s m args below meth c s₁ B hml hv
  obtain ⟨rfl, hP, hK⟩ := hv
  have hx := B.exec
  have hb := B.bytes
  have hr := B.returns
  have hts : ∀ w ∈ BG, w.before _ s = true := fun w h => atoms_spec (ws := (ws_T_has)) B.pre w (List.mem_cons_of_mem _ h)
  have hown : s.vm.findClass RR_T = some m.cls := findClass_of_methodNamed B.named
  have hlocks := B.notSynchronized
  have hl := lv_entry ([.ref aT, .int p0]) (n := 2) (Nat.le_of_ble_eq_true rfl)
  rw [lg_entry_eq]
  generalize (lg_sl ([.ref aT, .int p0]) ++ List.replicate (2 - (lg_sl ([.ref aT, .int p0])).length) Slot.unset).toArray = ls at hl ⊢
  have hl : lv_has ls 2 [(0, .ref aT), (1, .int p0)] := hl
  rw [f_T_has] at hf
  refine lv_iload_n hx hb d_T_has_0 rfl (lv_at hl 1 rfl) ?_
  refine lv_if_lt (tgt := 16) hx hb d_T_has_1 (by decide) (fun c1 => ?_) (fun c1 => ?_)
  · have hf := ite_t c1 hf
    refine lv_iconst (v := 0) hx hb d_T_has_16 (by decide) ?_
    obtain rfl := Option.some.inj hf
    exact W.zret (v := (0 : Int32)) hx hb hr rfl (fun t ht hW => ⟨rfl, ht⟩) (fun q h => by cases h) d_T_has_17
  · have hf := ite_f c1 hf
    refine lv_iload_n hx hb d_T_has_4 rfl (lv_at hl 1 rfl) ?_
    refine lv_aload_n hx hb d_T_has_5 rfl (lv_at hl 0 rfl) ?_
    refine va_get (D := D) (ci := 1) (v := .int T_count) (C := RR_T) (T := FF_T) (N := 7) hx hb hts kin_T hown hK.1 hP 0 rfl rfl 6 (by decide) (hts _ k1_43) (fun _ h9 => h9) rfl d_T_has_6 ?_
    refine lv_icmp_ge (tgt := 16) hx hb d_T_has_9 (by decide) (fun c2 => ?_) (fun c2 => ?_)
    · have hf := ite_t c2 hf
      refine lv_iconst (v := 0) hx hb d_T_has_16 (by decide) ?_
      obtain rfl := Option.some.inj hf
      exact W.zret (v := (0 : Int32)) hx hb hr rfl (fun t ht hW => ⟨rfl, ht⟩) (fun q h => by cases h) d_T_has_17
    · have hf := ite_f c2 hf
      refine lv_iconst (v := 1) hx hb d_T_has_12 (by decide) ?_
      refine lv_goto (tgt := 17) hx hb d_T_has_13 (by decide) ?_
      obtain rfl := Option.some.inj hf
      exact W.zret (v := (1 : Int32)) hx hb hr rfl (fun t ht hW => ⟨rfl, ht⟩) (fun q h => by cases h) d_T_has_17
def f_T_head (T_count : Int32) (nT_heads : Nat) (T_heads : (Nat → Int32)) (p0 : Int32) : Option (Int32) :=
  if p0 < 0 then
    some (-1 : Int32)
  else
    if T_count ≤ p0 then
      some (-1 : Int32)
    else
      gd (ixb p0 nT_heads) <|
      some (T_heads p0.toNatClampNeg)
abbrev rm_T_head : Room := { frames := 0, cells := 0, slots := 0, locals := 0 }
set_option maxHeartbeats 4000000 in
set_option maxRecDepth 100000 in
theorem c_T_head (l : Launch) (D : va_G) (cI cJ cZ : ClassId) (aT aT_heads aT_places aT_olders aT_sizes aT_withins aT_newest : Nat) (T_count : Int32) (nT_heads : Nat) (T_heads : (Nat → Int32)) (p0 : Int32) (o : Int32) (hf : f_T_head T_count nT_heads T_heads p0 = some o) : Met l y_T_head (ws_T_head) rm_T_head (RPc D vwCl cI cJ cZ [.ref aT, .int p0] (wv_1 cI cJ cZ aT aT_heads aT_places aT_olders aT_sizes aT_withins aT_newest T_count nT_heads T_heads)) (RQ (some (.int o))) 0 0 (fun _ => False) := by
  refine Met.ofW (cc := b_T_head) (maxL := 2) (ret := (some .int)) (by decide) rfl ?_
  intro p e s m args below meth c s₁ B hml hv
  obtain ⟨rfl, hP, hK⟩ := hv
  have hx := B.exec
  have hb := B.bytes
  have hr := B.returns
  have hts : ∀ w ∈ BG, w.before _ s = true := fun w h => atoms_spec (ws := (ws_T_head)) B.pre w (List.mem_cons_of_mem _ h)
  have hown : s.vm.findClass RR_T = some m.cls := findClass_of_methodNamed B.named
  have hlocks := B.notSynchronized
  have hl := lv_entry ([.ref aT, .int p0]) (n := 2) (Nat.le_of_ble_eq_true rfl)
  rw [lg_entry_eq]
  generalize (lg_sl ([.ref aT, .int p0]) ++ List.replicate (2 - (lg_sl ([.ref aT, .int p0])).length) Slot.unset).toArray = ls at hl ⊢
  have hl : lv_has ls 2 [(0, .ref aT), (1, .int p0)] := hl
  rw [f_T_head] at hf
  refine lv_iload_n hx hb d_T_head_0 rfl (lv_at hl 1 rfl) ?_
  refine lv_if_lt (tgt := 21) hx hb d_T_head_1 (by decide) (fun c1 => ?_) (fun c1 => ?_)
  · have hf := ite_t c1 hf
    refine lv_iconst (v := -1) hx hb d_T_head_21 (by decide) ?_
    obtain rfl := Option.some.inj hf
    exact W.iret (v := (-1 : Int32)) hx hb hr (fun t ht hW => ⟨rfl, ht⟩) (fun q h => by cases h) d_T_head_22
  · have hf := ite_f c1 hf
    refine lv_iload_n hx hb d_T_head_4 rfl (lv_at hl 1 rfl) ?_
    refine lv_aload_n hx hb d_T_head_5 rfl (lv_at hl 0 rfl) ?_
    refine va_get (D := D) (ci := 1) (v := .int T_count) (C := RR_T) (T := FF_T) (N := 7) hx hb hts kin_T hown hK.1 hP 0 rfl rfl 6 (by decide) (hts _ k1_43) (fun _ h9 => h9) rfl d_T_head_6 ?_
    refine lv_icmp_ge (tgt := 21) hx hb d_T_head_9 (by decide) (fun c2 => ?_) (fun c2 => ?_)
    · have hf := ite_t c2 hf
      refine lv_iconst (v := -1) hx hb d_T_head_21 (by decide) ?_
      obtain rfl := Option.some.inj hf
      exact W.iret (v := (-1 : Int32)) hx hb hr (fun t ht hW => ⟨rfl, ht⟩) (fun q h => by cases h) d_T_head_22
    · have hf := ite_f c2 hf
      refine lv_aload_n hx hb d_T_head_12 rfl (lv_at hl 0 rfl) ?_
      refine va_get (D := D) (ci := 1) (v := .ref aT_heads) (C := RR_T) (T := FF_T) (N := 7) hx hb hts kin_T hown hK.1 hP 0 rfl rfl 0 (by decide) (hts _ k1_37) (fun _ h9 => h9) rfl d_T_head_13 ?_
      refine lv_iload_n hx hb d_T_head_16 rfl (lv_at hl 1 rfl) ?_
      obtain ⟨h3, hf⟩ := of_gd hf
      refine va_iald hx hb hK.1 hP 1 0 rfl rfl (ixb_in h3) d_T_head_17 ?_
      refine lv_goto (tgt := 22) hx hb d_T_head_18 (by decide) ?_
      obtain rfl := Option.some.inj hf
      exact W.iret (v := T_heads p0.toNatClampNeg) hx hb hr (fun t ht hW => ⟨rfl, ht⟩) (fun q h => by cases h) d_T_head_22
def f_T_place (T_count : Int32) (nT_places : Nat) (T_places : (Nat → Int32)) (p0 : Int32) (p1 : Int32) : Option (Int32) :=
  if p0 < 0 then
    some (-1 : Int32)
  else
    if T_count ≤ p0 then
      some (-1 : Int32)
    else
      if p1 < 0 then
        some (-1 : Int32)
      else
        if (3 : Int32) ≤ p1 then
          some (-1 : Int32)
        else
          gd (ixb ((p0 * (3 : Int32)) + p1) nT_places) <|
          some (T_places ((p0 * (3 : Int32)) + p1).toNatClampNeg)
abbrev rm_T_place : Room := { frames := 0, cells := 0, slots := 0, locals := 0 }
set_option maxHeartbeats 4000000 in
set_option maxRecDepth 100000 in
theorem c_T_place (l : Launch) (D : va_G) (cI cJ cZ : ClassId) (aT aT_heads aT_places aT_olders aT_sizes aT_withins aT_newest : Nat) (T_count : Int32) (nT_places : Nat) (T_places : (Nat → Int32)) (p0 : Int32) (p1 : Int32) (o : Int32) (hf : f_T_place T_count nT_places T_places p0 p1 = some o) : Met l y_T_place (ws_T_place) rm_T_place (RPc D vwCl cI cJ cZ [.ref aT, .int p0, .int p1] (wv_2 cI cJ cZ aT aT_heads aT_places aT_olders aT_sizes aT_withins aT_newest T_count nT_places T_places)) (RQ (some (.int o))) 0 0 (fun _ => False) := by
  refine Met.ofW (cc := b_T_place) (maxL := 3) (ret := (some .int)) (by decide) rfl ?_
  intro p e s m args below meth c s₁ B hml hv
  obtain ⟨rfl, hP, hK⟩ := hv
  have hx := B.exec
  have hb := B.bytes
  have hr := B.returns
  have hts : ∀ w ∈ BG, w.before _ s = true := fun w h => atoms_spec (ws := (ws_T_place)) B.pre w (List.mem_cons_of_mem _ h)
  have hown : s.vm.findClass RR_T = some m.cls := findClass_of_methodNamed B.named
  have hlocks := B.notSynchronized
  have hl := lv_entry ([.ref aT, .int p0, .int p1]) (n := 3) (Nat.le_of_ble_eq_true rfl)
  rw [lg_entry_eq]
  generalize (lg_sl ([.ref aT, .int p0, .int p1]) ++ List.replicate (3 - (lg_sl ([.ref aT, .int p0, .int p1])).length) Slot.unset).toArray = ls at hl ⊢
  have hl : lv_has ls 3 [(0, .ref aT), (1, .int p0), (2, .int p1)] := hl
  rw [f_T_place] at hf
  refine lv_iload_n hx hb d_T_place_0 rfl (lv_at hl 1 rfl) ?_
  refine lv_if_lt (tgt := 34) hx hb d_T_place_1 (by decide) (fun c1 => ?_) (fun c1 => ?_)
  · have hf := ite_t c1 hf
    refine lv_iconst (v := -1) hx hb d_T_place_34 (by decide) ?_
    obtain rfl := Option.some.inj hf
    exact W.iret (v := (-1 : Int32)) hx hb hr (fun t ht hW => ⟨rfl, ht⟩) (fun q h => by cases h) d_T_place_35
  · have hf := ite_f c1 hf
    refine lv_iload_n hx hb d_T_place_4 rfl (lv_at hl 1 rfl) ?_
    refine lv_aload_n hx hb d_T_place_5 rfl (lv_at hl 0 rfl) ?_
    refine va_get (D := D) (ci := 1) (v := .int T_count) (C := RR_T) (T := FF_T) (N := 7) hx hb hts kin_T hown hK.1 hP 0 rfl rfl 6 (by decide) (hts _ k1_43) (fun _ h9 => h9) rfl d_T_place_6 ?_
    refine lv_icmp_ge (tgt := 34) hx hb d_T_place_9 (by decide) (fun c2 => ?_) (fun c2 => ?_)
    · have hf := ite_t c2 hf
      refine lv_iconst (v := -1) hx hb d_T_place_34 (by decide) ?_
      obtain rfl := Option.some.inj hf
      exact W.iret (v := (-1 : Int32)) hx hb hr (fun t ht hW => ⟨rfl, ht⟩) (fun q h => by cases h) d_T_place_35
    · have hf := ite_f c2 hf
      refine lv_iload_n hx hb d_T_place_12 rfl (lv_at hl 2 rfl) ?_
      refine lv_if_lt (tgt := 34) hx hb d_T_place_13 (by decide) (fun c3 => ?_) (fun c3 => ?_)
      · have hf := ite_t c3 hf
        refine lv_iconst (v := -1) hx hb d_T_place_34 (by decide) ?_
        obtain rfl := Option.some.inj hf
        exact W.iret (v := (-1 : Int32)) hx hb hr (fun t ht hW => ⟨rfl, ht⟩) (fun q h => by cases h) d_T_place_35
      · have hf := ite_f c3 hf
        refine lv_iload_n hx hb d_T_place_16 rfl (lv_at hl 2 rfl) ?_
        refine lv_iconst (v := 3) hx hb d_T_place_17 (by decide) ?_
        refine lv_icmp_ge (tgt := 34) hx hb d_T_place_18 (by decide) (fun c4 => ?_) (fun c4 => ?_)
        · have hf := ite_t c4 hf
          refine lv_iconst (v := -1) hx hb d_T_place_34 (by decide) ?_
          obtain rfl := Option.some.inj hf
          exact W.iret (v := (-1 : Int32)) hx hb hr (fun t ht hW => ⟨rfl, ht⟩) (fun q h => by cases h) d_T_place_35
        · have hf := ite_f c4 hf
          refine lv_aload_n hx hb d_T_place_21 rfl (lv_at hl 0 rfl) ?_
          refine va_get (D := D) (ci := 1) (v := .ref aT_places) (C := RR_T) (T := FF_T) (N := 7) hx hb hts kin_T hown hK.1 hP 0 rfl rfl 1 (by decide) (hts _ k1_38) (fun _ h9 => h9) rfl d_T_place_22 ?_
          refine lv_iload_n hx hb d_T_place_25 rfl (lv_at hl 1 rfl) ?_
          refine lv_iconst (v := 3) hx hb d_T_place_26 (by decide) ?_
          refine lv_imul hx hb d_T_place_27 ?_
          refine lv_iload_n hx hb d_T_place_28 rfl (lv_at hl 2 rfl) ?_
          refine lv_iadd hx hb d_T_place_29 ?_
          obtain ⟨h5, hf⟩ := of_gd hf
          refine va_iald hx hb hK.1 hP 1 0 rfl rfl (ixb_in h5) d_T_place_30 ?_
          refine lv_goto (tgt := 35) hx hb d_T_place_31 (by decide) ?_
          obtain rfl := Option.some.inj hf
          exact W.iret (v := T_places ((p0 * (3 : Int32)) + p1).toNatClampNeg) hx hb hr (fun t ht hW => ⟨rfl, ht⟩) (fun q h => by cases h) d_T_place_35
def f_T_size (T_count : Int32) (nT_sizes : Nat) (T_sizes : (Nat → Int32)) (p0 : Int32) : Option (Int32) :=
  if p0 < 0 then
    some (0 : Int32)
  else
    if T_count ≤ p0 then
      some (0 : Int32)
    else
      gd (ixb p0 nT_sizes) <|
      some (T_sizes p0.toNatClampNeg)
abbrev rm_T_size : Room := { frames := 0, cells := 0, slots := 0, locals := 0 }
set_option maxHeartbeats 4000000 in
set_option maxRecDepth 100000 in
theorem c_T_size (l : Launch) (D : va_G) (cI cJ cZ : ClassId) (aT aT_heads aT_places aT_olders aT_sizes aT_withins aT_newest : Nat) (T_count : Int32) (nT_sizes : Nat) (T_sizes : (Nat → Int32)) (p0 : Int32) (o : Int32) (hf : f_T_size T_count nT_sizes T_sizes p0 = some o) : Met l y_T_size (ws_T_size) rm_T_size (RPc D vwCl cI cJ cZ [.ref aT, .int p0] (wv_3 cI cJ cZ aT aT_heads aT_places aT_olders aT_sizes aT_withins aT_newest T_count nT_sizes T_sizes)) (RQ (some (.int o))) 0 0 (fun _ => False) := by
  refine Met.ofW (cc := b_T_size) (maxL := 2) (ret := (some .int)) (by decide) rfl ?_
  intro p e s m args below meth c s₁ B hml hv
  obtain ⟨rfl, hP, hK⟩ := hv
  have hx := B.exec
  have hb := B.bytes
  have hr := B.returns
  have hts : ∀ w ∈ BG, w.before _ s = true := fun w h => atoms_spec (ws := (ws_T_size)) B.pre w (List.mem_cons_of_mem _ h)
  have hown : s.vm.findClass RR_T = some m.cls := findClass_of_methodNamed B.named
  have hlocks := B.notSynchronized
  have hl := lv_entry ([.ref aT, .int p0]) (n := 2) (Nat.le_of_ble_eq_true rfl)
  rw [lg_entry_eq]
  generalize (lg_sl ([.ref aT, .int p0]) ++ List.replicate (2 - (lg_sl ([.ref aT, .int p0])).length) Slot.unset).toArray = ls at hl ⊢
  have hl : lv_has ls 2 [(0, .ref aT), (1, .int p0)] := hl
  rw [f_T_size] at hf
  refine lv_iload_n hx hb d_T_size_0 rfl (lv_at hl 1 rfl) ?_
  refine lv_if_lt (tgt := 21) hx hb d_T_size_1 (by decide) (fun c1 => ?_) (fun c1 => ?_)
  · have hf := ite_t c1 hf
    refine lv_iconst (v := 0) hx hb d_T_size_21 (by decide) ?_
    obtain rfl := Option.some.inj hf
    exact W.iret (v := (0 : Int32)) hx hb hr (fun t ht hW => ⟨rfl, ht⟩) (fun q h => by cases h) d_T_size_22
  · have hf := ite_f c1 hf
    refine lv_iload_n hx hb d_T_size_4 rfl (lv_at hl 1 rfl) ?_
    refine lv_aload_n hx hb d_T_size_5 rfl (lv_at hl 0 rfl) ?_
    refine va_get (D := D) (ci := 1) (v := .int T_count) (C := RR_T) (T := FF_T) (N := 7) hx hb hts kin_T hown hK.1 hP 0 rfl rfl 6 (by decide) (hts _ k1_43) (fun _ h9 => h9) rfl d_T_size_6 ?_
    refine lv_icmp_ge (tgt := 21) hx hb d_T_size_9 (by decide) (fun c2 => ?_) (fun c2 => ?_)
    · have hf := ite_t c2 hf
      refine lv_iconst (v := 0) hx hb d_T_size_21 (by decide) ?_
      obtain rfl := Option.some.inj hf
      exact W.iret (v := (0 : Int32)) hx hb hr (fun t ht hW => ⟨rfl, ht⟩) (fun q h => by cases h) d_T_size_22
    · have hf := ite_f c2 hf
      refine lv_aload_n hx hb d_T_size_12 rfl (lv_at hl 0 rfl) ?_
      refine va_get (D := D) (ci := 1) (v := .ref aT_sizes) (C := RR_T) (T := FF_T) (N := 7) hx hb hts kin_T hown hK.1 hP 0 rfl rfl 3 (by decide) (hts _ k1_40) (fun _ h9 => h9) rfl d_T_size_13 ?_
      refine lv_iload_n hx hb d_T_size_16 rfl (lv_at hl 1 rfl) ?_
      obtain ⟨h3, hf⟩ := of_gd hf
      refine va_iald hx hb hK.1 hP 1 0 rfl rfl (ixb_in h3) d_T_size_17 ?_
      refine lv_goto (tgt := 22) hx hb d_T_size_18 (by decide) ?_
      obtain rfl := Option.some.inj hf
      exact W.iret (v := T_sizes p0.toNatClampNeg) hx hb hr (fun t ht hW => ⟨rfl, ht⟩) (fun q h => by cases h) d_T_size_22
def f_T_within (T_count : Int32) (nT_withins : Nat) (T_withins : (Nat → Int64)) (p0 : Int32) : Option (Int64) :=
  if p0 < 0 then
    some (0 : Int64)
  else
    if T_count ≤ p0 then
      some (0 : Int64)
    else
      gd (ixb p0 nT_withins) <|
      some (T_withins p0.toNatClampNeg)
abbrev rm_T_within : Room := { frames := 0, cells := 0, slots := 0, locals := 0 }
set_option maxHeartbeats 4000000 in
set_option maxRecDepth 100000 in
theorem c_T_within (l : Launch) (D : va_G) (cI cJ cZ : ClassId) (aT aT_heads aT_places aT_olders aT_sizes aT_withins aT_newest : Nat) (T_count : Int32) (nT_withins : Nat) (T_withins : (Nat → Int64)) (p0 : Int32) (o : Int64) (hf : f_T_within T_count nT_withins T_withins p0 = some o) : Met l y_T_within (ws_T_within) rm_T_within (RPc D vwCl cI cJ cZ [.ref aT, .int p0] (wv_4 cI cJ cZ aT aT_heads aT_places aT_olders aT_sizes aT_withins aT_newest T_count nT_withins T_withins)) (RQ (some (.long o))) 0 0 (fun _ => False) := by
  refine Met.ofW (cc := b_T_within) (maxL := 2) (ret := (some .long)) (by decide) rfl ?_
  intro p e s m args below meth c s₁ B hml hv
  obtain ⟨rfl, hP, hK⟩ := hv
  have hx := B.exec
  have hb := B.bytes
  have hr := B.returns
  have hts : ∀ w ∈ BG, w.before _ s = true := fun w h => atoms_spec (ws := (ws_T_within)) B.pre w (List.mem_cons_of_mem _ h)
  have hown : s.vm.findClass RR_T = some m.cls := findClass_of_methodNamed B.named
  have hlocks := B.notSynchronized
  have hl := lv_entry ([.ref aT, .int p0]) (n := 2) (Nat.le_of_ble_eq_true rfl)
  rw [lg_entry_eq]
  generalize (lg_sl ([.ref aT, .int p0]) ++ List.replicate (2 - (lg_sl ([.ref aT, .int p0])).length) Slot.unset).toArray = ls at hl ⊢
  have hl : lv_has ls 2 [(0, .ref aT), (1, .int p0)] := hl
  rw [f_T_within] at hf
  refine lv_iload_n hx hb d_T_within_0 rfl (lv_at hl 1 rfl) ?_
  refine lv_if_lt (tgt := 21) hx hb d_T_within_1 (by decide) (fun c1 => ?_) (fun c1 => ?_)
  · have hf := ite_t c1 hf
    refine lv_lconst (v := 0) hx hb d_T_within_21 (by decide) ?_
    obtain rfl := Option.some.inj hf
    exact W.lret (v := (0 : Int64)) hx hb hr (fun t ht hW => ⟨rfl, ht⟩) (fun q h => by cases h) d_T_within_22
  · have hf := ite_f c1 hf
    refine lv_iload_n hx hb d_T_within_4 rfl (lv_at hl 1 rfl) ?_
    refine lv_aload_n hx hb d_T_within_5 rfl (lv_at hl 0 rfl) ?_
    refine va_get (D := D) (ci := 1) (v := .int T_count) (C := RR_T) (T := FF_T) (N := 7) hx hb hts kin_T hown hK.1 hP 0 rfl rfl 6 (by decide) (hts _ k1_43) (fun _ h9 => h9) rfl d_T_within_6 ?_
    refine lv_icmp_ge (tgt := 21) hx hb d_T_within_9 (by decide) (fun c2 => ?_) (fun c2 => ?_)
    · have hf := ite_t c2 hf
      refine lv_lconst (v := 0) hx hb d_T_within_21 (by decide) ?_
      obtain rfl := Option.some.inj hf
      exact W.lret (v := (0 : Int64)) hx hb hr (fun t ht hW => ⟨rfl, ht⟩) (fun q h => by cases h) d_T_within_22
    · have hf := ite_f c2 hf
      refine lv_aload_n hx hb d_T_within_12 rfl (lv_at hl 0 rfl) ?_
      refine va_get (D := D) (ci := 1) (v := .ref aT_withins) (C := RR_T) (T := FF_T) (N := 7) hx hb hts kin_T hown hK.1 hP 0 rfl rfl 4 (by decide) (hts _ k1_41) (fun _ h9 => h9) rfl d_T_within_13 ?_
      refine lv_iload_n hx hb d_T_within_16 rfl (lv_at hl 1 rfl) ?_
      obtain ⟨h3, hf⟩ := of_gd hf
      refine va_lald hx hb hK.1 hP 1 1 rfl rfl (ixb_in h3) d_T_within_17 ?_
      refine lv_goto (tgt := 22) hx hb d_T_within_18 (by decide) ?_
      obtain rfl := Option.some.inj hf
      exact W.lret (v := T_withins p0.toNatClampNeg) hx hb hr (fun t ht hW => ⟨rfl, ht⟩) (fun q h => by cases h) d_T_within_22
def f_T_holds (T_count : Int32) (nT_withins : Nat) (T_withins : (Nat → Int64)) (p0 : Int32) (p1 : Int64) : Option (Int32) :=
  if p0 < 0 then
    some (0 : Int32)
  else
    if T_count ≤ p0 then
      some (0 : Int32)
    else
      gd (ixb p0 nT_withins) <|
      if (lg_cmp ((T_withins p0.toNatClampNeg) &&& p1) (0 : Int64)) = 0 then
        some (0 : Int32)
      else
        some (1 : Int32)
abbrev rm_T_holds : Room := { frames := 0, cells := 0, slots := 0, locals := 0 }
set_option maxHeartbeats 4000000 in
set_option maxRecDepth 100000 in
theorem c_T_holds (l : Launch) (D : va_G) (cI cJ cZ : ClassId) (aT aT_heads aT_places aT_olders aT_sizes aT_withins aT_newest : Nat) (T_count : Int32) (nT_withins : Nat) (T_withins : (Nat → Int64)) (p0 : Int32) (p1 : Int64) (o : Int32) (hf : f_T_holds T_count nT_withins T_withins p0 p1 = some o) : Met l y_T_holds (ws_T_holds) rm_T_holds (RPc D vwCl cI cJ cZ [.ref aT, .int p0, .long p1] (wv_4 cI cJ cZ aT aT_heads aT_places aT_olders aT_sizes aT_withins aT_newest T_count nT_withins T_withins)) (RQ (some (.int o))) 0 0 (fun _ => False) := by
  refine Met.ofW (cc := b_T_holds) (maxL := 4) (ret := (some .boolean)) (by decide) rfl ?_
  intro p e s m args below meth c s₁ B hml hv
  obtain ⟨rfl, hP, hK⟩ := hv
  have hx := B.exec
  have hb := B.bytes
  have hr := B.returns
  have hts : ∀ w ∈ BG, w.before _ s = true := fun w h => atoms_spec (ws := (ws_T_holds)) B.pre w (List.mem_cons_of_mem _ h)
  have hown : s.vm.findClass RR_T = some m.cls := findClass_of_methodNamed B.named
  have hlocks := B.notSynchronized
  have hl := lv_entry ([.ref aT, .int p0, .long p1]) (n := 4) (Nat.le_of_ble_eq_true rfl)
  rw [lg_entry_eq]
  generalize (lg_sl ([.ref aT, .int p0, .long p1]) ++ List.replicate (4 - (lg_sl ([.ref aT, .int p0, .long p1])).length) Slot.unset).toArray = ls at hl ⊢
  have hl : lv_has ls 4 [(0, .ref aT), (1, .int p0), (2, .long p1)] := hl
  rw [f_T_holds] at hf
  refine lv_iload_n hx hb d_T_holds_0 rfl (lv_at hl 1 rfl) ?_
  refine lv_if_lt (tgt := 29) hx hb d_T_holds_1 (by decide) (fun c1 => ?_) (fun c1 => ?_)
  · have hf := ite_t c1 hf
    refine lv_iconst (v := 0) hx hb d_T_holds_29 (by decide) ?_
    obtain rfl := Option.some.inj hf
    exact W.zret (v := (0 : Int32)) hx hb hr rfl (fun t ht hW => ⟨rfl, ht⟩) (fun q h => by cases h) d_T_holds_30
  · have hf := ite_f c1 hf
    refine lv_iload_n hx hb d_T_holds_4 rfl (lv_at hl 1 rfl) ?_
    refine lv_aload_n hx hb d_T_holds_5 rfl (lv_at hl 0 rfl) ?_
    refine va_get (D := D) (ci := 1) (v := .int T_count) (C := RR_T) (T := FF_T) (N := 7) hx hb hts kin_T hown hK.1 hP 0 rfl rfl 6 (by decide) (hts _ k1_43) (fun _ h9 => h9) rfl d_T_holds_6 ?_
    refine lv_icmp_ge (tgt := 29) hx hb d_T_holds_9 (by decide) (fun c2 => ?_) (fun c2 => ?_)
    · have hf := ite_t c2 hf
      refine lv_iconst (v := 0) hx hb d_T_holds_29 (by decide) ?_
      obtain rfl := Option.some.inj hf
      exact W.zret (v := (0 : Int32)) hx hb hr rfl (fun t ht hW => ⟨rfl, ht⟩) (fun q h => by cases h) d_T_holds_30
    · have hf := ite_f c2 hf
      refine lv_aload_n hx hb d_T_holds_12 rfl (lv_at hl 0 rfl) ?_
      refine va_get (D := D) (ci := 1) (v := .ref aT_withins) (C := RR_T) (T := FF_T) (N := 7) hx hb hts kin_T hown hK.1 hP 0 rfl rfl 4 (by decide) (hts _ k1_41) (fun _ h9 => h9) rfl d_T_holds_13 ?_
      refine lv_iload_n hx hb d_T_holds_16 rfl (lv_at hl 1 rfl) ?_
      obtain ⟨h3, hf⟩ := of_gd hf
      refine va_lald hx hb hK.1 hP 1 1 rfl rfl (ixb_in h3) d_T_holds_17 ?_
      refine lv_lload_n hx hb d_T_holds_18 rfl (lv_at hl 2 rfl) ?_
      refine lv_land hx hb d_T_holds_19 ?_
      refine lv_lconst (v := 0) hx hb d_T_holds_20 (by decide) ?_
      refine W.lcmp hx hb d_T_holds_21 ?_
      refine lv_if_eq (tgt := 29) hx hb d_T_holds_22 (by decide) (fun c4 => ?_) (fun c4 => ?_)
      · have hf := ite_t c4 hf
        refine lv_iconst (v := 0) hx hb d_T_holds_29 (by decide) ?_
        obtain rfl := Option.some.inj hf
        exact W.zret (v := (0 : Int32)) hx hb hr rfl (fun t ht hW => ⟨rfl, ht⟩) (fun q h => by cases h) d_T_holds_30
      · have hf := ite_f c4 hf
        refine lv_iconst (v := 1) hx hb d_T_holds_25 (by decide) ?_
        refine lv_goto (tgt := 30) hx hb d_T_holds_26 (by decide) ?_
        obtain rfl := Option.some.inj hf
        exact W.zret (v := (1 : Int32)) hx hb hr rfl (fun t ht hW => ⟨rfl, ht⟩) (fun q h => by cases h) d_T_holds_30
def f_T_bucket (p0 : Int32) (p1 : Int32) (p2 : Int32) (p3 : Int32) : Option (Int32) :=
  some ((((p0 + ((37 : Int32) * p1)) + ((101 : Int32) * p2)) + ((171 : Int32) * p3)) &&& (255 : Int32))
abbrev rm_T_bucket : Room := { frames := 0, cells := 0, slots := 0, locals := 0 }
set_option maxHeartbeats 4000000 in
set_option maxRecDepth 100000 in
theorem c_T_bucket (l : Launch) (D : va_G) (cI cJ cZ : ClassId) (p0 : Int32) (p1 : Int32) (p2 : Int32) (p3 : Int32) (o : Int32) (hf : f_T_bucket p0 p1 p2 p3 = some o) : Met l y_T_bucket (ws_T_bucket) rm_T_bucket (RPc D vwCl cI cJ cZ [.int p0, .int p1, .int p2, .int p3] (wv_5 cI cJ cZ)) (RQ (some (.int o))) 0 0 (fun _ => False) := by
  refine Met.ofW (cc := b_T_bucket) (maxL := 4) (ret := (some .int)) (by decide) rfl ?_
  intro p e s m args below meth c s₁ B hml hv
  obtain ⟨rfl, hP, hK⟩ := hv
  have hx := B.exec
  have hb := B.bytes
  have hr := B.returns
  have hts : ∀ w ∈ BG, w.before _ s = true := fun w h => atoms_spec (ws := (ws_T_bucket)) B.pre w (List.mem_cons_of_mem _ h)
  have hown : s.vm.findClass RR_T = some m.cls := findClass_of_methodNamed B.named
  have hlocks := B.notSynchronized
  have hl := lv_entry ([.int p0, .int p1, .int p2, .int p3]) (n := 4) (Nat.le_of_ble_eq_true rfl)
  rw [lg_entry_eq]
  generalize (lg_sl ([.int p0, .int p1, .int p2, .int p3]) ++ List.replicate (4 - (lg_sl ([.int p0, .int p1, .int p2, .int p3])).length) Slot.unset).toArray = ls at hl ⊢
  have hl : lv_has ls 4 [(0, .int p0), (1, .int p1), (2, .int p2), (3, .int p3)] := hl
  rw [f_T_bucket] at hf
  refine lv_iload_n hx hb d_T_bucket_0 rfl (lv_at hl 0 rfl) ?_
  refine lv_bipush (v := 37) hx hb d_T_bucket_1 (by decide) ?_
  refine lv_iload_n hx hb d_T_bucket_3 rfl (lv_at hl 1 rfl) ?_
  refine lv_imul hx hb d_T_bucket_4 ?_
  refine lv_iadd hx hb d_T_bucket_5 ?_
  refine lv_bipush (v := 101) hx hb d_T_bucket_6 (by decide) ?_
  refine lv_iload_n hx hb d_T_bucket_8 rfl (lv_at hl 2 rfl) ?_
  refine lv_imul hx hb d_T_bucket_9 ?_
  refine lv_iadd hx hb d_T_bucket_10 ?_
  refine lv_sipush (v := 171) hx hb d_T_bucket_11 (by decide) ?_
  refine lv_iload_n hx hb d_T_bucket_14 rfl (lv_at hl 3 rfl) ?_
  refine lv_imul hx hb d_T_bucket_15 ?_
  refine lv_iadd hx hb d_T_bucket_16 ?_
  refine lv_sipush (v := 255) hx hb d_T_bucket_17 (by decide) ?_
  refine lv_iand hx hb d_T_bucket_20 ?_
  obtain rfl := Option.some.inj hf
  exact W.iret (v := (((p0 + ((37 : Int32) * p1)) + ((101 : Int32) * p2)) + ((171 : Int32) * p3)) &&& (255 : Int32)) hx hb hr (fun t ht hW => ⟨rfl, ht⟩) (fun q h => by cases h) d_T_bucket_21
def f_T_seek_B93 (T_count : Int32) (nT_heads : Nat) (T_heads : (Nat → Int32)) (nT_places : Nat) (T_places : (Nat → Int32)) (nT_olders : Nat) (T_olders : (Nat → Int32)) (T_newest : (Nat → Int32)) (K11 : Int32 → Int32 → Int32 → Int32 → Int32 → Int32 → Option (Int32)) (x2_93 : Int32) (x3_93 : Int32) (x4_93 : Int32) (x5_93 : Int32) (x6_93 : Int32) (x7_93 : Int32) : Option (Int32) :=
  gd (ixb x6_93 nT_olders) <|
  nm (T_olders x6_93.toNatClampNeg) fun x16 =>
  nm (x7_93 + (1 : Int32)) fun x17 =>
  K11 x2_93 x3_93 x4_93 x5_93 x16 x17
def f_T_seek_L11 (T_count : Int32) (nT_heads : Nat) (T_heads : (Nat → Int32)) (nT_places : Nat) (T_places : (Nat → Int32)) (nT_olders : Nat) (T_olders : (Nat → Int32)) (T_newest : (Nat → Int32)) : Nat → Int32 → Int32 → Int32 → Int32 → Int32 → Int32 → Option (Int32)
  | 0, _, _, _, _, _, _ => none
  | n + 1, x2_11, x3_11, x4_11, x5_11, x6_11, x7_11 =>
    if T_count ≤ x7_11 then
      some (-1 : Int32)
    else
      if x6_11 < 0 then
        some (-1 : Int32)
      else
        if T_count ≤ x6_11 then
          some (-1 : Int32)
        else
          nm (x6_11 * (3 : Int32)) fun x6 =>
          gd (ixb x6_11 nT_heads) <|
          if (T_heads x6_11.toNatClampNeg) = x2_11 then
            gd (ixb x6 nT_places) <|
            if (T_places x6.toNatClampNeg) = x3_11 then
              gd (ixb (x6 + (1 : Int32)) nT_places) <|
              if (T_places (x6 + (1 : Int32)).toNatClampNeg) = x4_11 then
                gd (ixb (x6 + (2 : Int32)) nT_places) <|
                if (T_places (x6 + (2 : Int32)).toNatClampNeg) = x5_11 then
                  some x6_11
                else
                  f_T_seek_B93 T_count nT_heads T_heads nT_places T_places nT_olders T_olders T_newest (f_T_seek_L11 T_count nT_heads T_heads nT_places T_places nT_olders T_olders T_newest n) x2_11 x3_11 x4_11 x5_11 x6_11 x7_11
              else
                f_T_seek_B93 T_count nT_heads T_heads nT_places T_places nT_olders T_olders T_newest (f_T_seek_L11 T_count nT_heads T_heads nT_places T_places nT_olders T_olders T_newest n) x2_11 x3_11 x4_11 x5_11 x6_11 x7_11
            else
              f_T_seek_B93 T_count nT_heads T_heads nT_places T_places nT_olders T_olders T_newest (f_T_seek_L11 T_count nT_heads T_heads nT_places T_places nT_olders T_olders T_newest n) x2_11 x3_11 x4_11 x5_11 x6_11 x7_11
          else
            f_T_seek_B93 T_count nT_heads T_heads nT_places T_places nT_olders T_olders T_newest (f_T_seek_L11 T_count nT_heads T_heads nT_places T_places nT_olders T_olders T_newest n) x2_11 x3_11 x4_11 x5_11 x6_11 x7_11
def f_T_seek (T_count : Int32) (nT_heads : Nat) (T_heads : (Nat → Int32)) (nT_places : Nat) (T_places : (Nat → Int32)) (nT_olders : Nat) (T_olders : (Nat → Int32)) (T_newest : (Nat → Int32)) (p0 : Int32) (p1 : Int32) (p2 : Int32) (p3 : Int32) (p4 : Int32) : Option (Int32) :=
  gd (ixb p0 256) <|
  nm (T_newest p0.toNatClampNeg) fun x2 =>
  f_T_seek_L11 T_count nT_heads T_heads nT_places T_places nT_olders T_olders T_newest FU p1 p2 p3 p4 x2 (0 : Int32)
abbrev rm_T_seek : Room := { frames := 0, cells := 0, slots := 0, locals := 0 }
set_option maxHeartbeats 4000000 in
set_option maxRecDepth 100000 in
theorem c_T_seek (l : Launch) (D : va_G) (cI cJ cZ : ClassId) (aT aT_heads aT_places aT_olders aT_sizes aT_withins aT_newest : Nat) (T_count : Int32) (nT_heads : Nat) (T_heads : (Nat → Int32)) (nT_places : Nat) (T_places : (Nat → Int32)) (nT_olders : Nat) (T_olders : (Nat → Int32)) (T_newest : (Nat → Int32)) (p0 : Int32) (p1 : Int32) (p2 : Int32) (p3 : Int32) (p4 : Int32) (o : Int32) (hf : f_T_seek T_count nT_heads T_heads nT_places T_places nT_olders T_olders T_newest p0 p1 p2 p3 p4 = some o) : Met l y_T_seek (ws_T_seek) rm_T_seek (RPc D vwCl cI cJ cZ [.ref aT, .int p0, .int p1, .int p2, .int p3, .int p4] (wv_6 cI cJ cZ aT aT_heads aT_places aT_olders aT_sizes aT_withins aT_newest T_count nT_heads T_heads nT_places T_places nT_olders T_olders T_newest)) (RQ (some (.int o))) 0 0 (fun _ => False) := by
  refine Met.ofW (cc := b_T_seek) (maxL := 9) (ret := (some .int)) (by decide) rfl ?_
  intro p e s m args below meth c s₁ B hml hv
  obtain ⟨rfl, hP, hK⟩ := hv
  have hx := B.exec
  have hb := B.bytes
  have hr := B.returns
  have hts : ∀ w ∈ BG, w.before _ s = true := fun w h => atoms_spec (ws := (ws_T_seek)) B.pre w (List.mem_cons_of_mem _ h)
  have hown : s.vm.findClass RR_T = some m.cls := findClass_of_methodNamed B.named
  have hlocks := B.notSynchronized
  have hl := lv_entry ([.ref aT, .int p0, .int p1, .int p2, .int p3, .int p4]) (n := 9) (Nat.le_of_ble_eq_true rfl)
  rw [lg_entry_eq]
  generalize (lg_sl ([.ref aT, .int p0, .int p1, .int p2, .int p3, .int p4]) ++ List.replicate (9 - (lg_sl ([.ref aT, .int p0, .int p1, .int p2, .int p3, .int p4])).length) Slot.unset).toArray = ls at hl ⊢
  have hl : lv_has ls 9 [(0, .ref aT), (1, .int p0), (2, .int p1), (3, .int p2), (4, .int p3), (5, .int p4)] := hl
  have hL11 : ∀ (n11 : Nat), ∀ (x2_11 : Int32) (x3_11 : Int32) (x4_11 : Int32) (x5_11 : Int32) (x6_11 : Int32) (x7_11 : Int32), ∀ (ls : Array Slot), lv_has ls 9 [(0, .ref aT), (2, .int x2_11), (3, .int x3_11), (4, .int x4_11), (5, .int x5_11), (6, .int x6_11), (7, .int x7_11)] → f_T_seek_L11 T_count nT_heads T_heads nT_places T_places nT_olders T_olders T_newest n11 x2_11 x3_11 x4_11 x5_11 x6_11 x7_11 = some o → W p l e (headSpec (ws_T_seek) rm_T_seek).room s m ([.ref aT, .int p0, .int p1, .int p2, .int p3, .int p4] : List Value).toArray below meth c s.heap [] 0 0 (MQ below (RQ (some (.int o))) ([.ref aT, .int p0, .int p1, .int p2, .int p3, .int p4] : List Value).toArray s 0 0 (fun _ => False)) (F0 m 11 ls []) := by
    intro n11
    induction n11 with
    | zero =>
      intro x2_11 x3_11 x4_11 x5_11 x6_11 x7_11 ls hl hf
      rw [f_T_seek_L11] at hf
      cases hf
    | succ n11 ih11 =>
      have hB93 : ∀ (x2_93 : Int32) (x3_93 : Int32) (x4_93 : Int32) (x5_93 : Int32) (x6_93 : Int32) (x7_93 : Int32), ∀ (ls : Array Slot), lv_has ls 9 [(0, .ref aT), (2, .int x2_93), (3, .int x3_93), (4, .int x4_93), (5, .int x5_93), (6, .int x6_93), (7, .int x7_93)] → f_T_seek_B93 T_count nT_heads T_heads nT_places T_places nT_olders T_olders T_newest (f_T_seek_L11 T_count nT_heads T_heads nT_places T_places nT_olders T_olders T_newest n11) x2_93 x3_93 x4_93 x5_93 x6_93 x7_93 = some o → W p l e (headSpec (ws_T_seek) rm_T_seek).room s m ([.ref aT, .int p0, .int p1, .int p2, .int p3, .int p4] : List Value).toArray below meth c s.heap [] 0 0 (MQ below (RQ (some (.int o))) ([.ref aT, .int p0, .int p1, .int p2, .int p3, .int p4] : List Value).toArray s 0 0 (fun _ => False)) (F0 m 93 ls []) := by
        intro x2_93 x3_93 x4_93 x5_93 x6_93 x7_93 ls hl hf
        rw [f_T_seek_B93] at hf
        refine lv_aload_n hx hb d_T_seek_93 rfl (lv_at hl 0 rfl) ?_
        refine va_get (D := D) (ci := 1) (v := .ref aT_olders) (C := RR_T) (T := FF_T) (N := 7) hx hb hts kin_T hown hK.1 hP 0 rfl rfl 2 (by decide) (hts _ k1_39) (fun _ h9 => h9) rfl d_T_seek_94 ?_
        refine lv_iload hx hb d_T_seek_97 (lv_at hl 5 rfl) ?_
        obtain ⟨h15, hf⟩ := of_gd hf
        refine va_iald hx hb hK.1 hP 3 0 rfl rfl (ixb_in h15) d_T_seek_99 ?_
        refine lv_topi (fun x16 ex16 => ?_)
        have hf := of_nm ex16 hf
        refine lv_istore (lv' := [(6, .int x16), (0, .ref aT), (2, .int x2_93), (3, .int x3_93), (4, .int x4_93), (5, .int x5_93), (7, .int x7_93)]) hx hb d_T_seek_100 hl (by decide) rfl (fun ls hl => ?_)
        obtain ⟨x17, ex17⟩ : ∃ y : Int32, y = x7_93 + (1 : Int32) := ⟨_, rfl⟩
        refine lv_iinc (v := x17) (lv' := [(7, .int x17), (6, .int x16), (0, .ref aT), (2, .int x2_93), (3, .int x3_93), (4, .int x4_93), (5, .int x5_93)]) hx hb d_T_seek_102 hl (k := 6) rfl (by rw [ex17]; rfl) (by decide) rfl (fun ls hl => ?_)
        have hf := of_nm ex17 hf
        refine lv_goto (tgt := 11) hx hb d_T_seek_105 (by decide) ?_
        exact ih11 _ _ _ _ _ _ _ (lv_sub hl [2, 3, 4, 5, 6, 1, 0] rfl) hf
      intro x2_11 x3_11 x4_11 x5_11 x6_11 x7_11 ls hl hf
      rw [f_T_seek_L11] at hf
      refine lv_iload hx hb d_T_seek_11 (lv_at hl 6 rfl) ?_
      refine lv_aload_n hx hb d_T_seek_13 rfl (lv_at hl 0 rfl) ?_
      refine va_get (D := D) (ci := 1) (v := .int T_count) (C := RR_T) (T := FF_T) (N := 7) hx hb hts kin_T hown hK.1 hP 0 rfl rfl 6 (by decide) (hts _ k1_43) (fun _ h9 => h9) rfl d_T_seek_14 ?_
      refine lv_icmp_ge (tgt := 108) hx hb d_T_seek_17 (by decide) (fun c3 => ?_) (fun c3 => ?_)
      · have hf := ite_t c3 hf
        refine lv_iconst (v := -1) hx hb d_T_seek_108 (by decide) ?_
        obtain rfl := Option.some.inj hf
        exact W.iret (v := (-1 : Int32)) hx hb hr (fun t ht hW => ⟨rfl, ht⟩) (fun q h => by cases h) d_T_seek_109
      · have hf := ite_f c3 hf
        refine lv_iload hx hb d_T_seek_20 (lv_at hl 5 rfl) ?_
        refine lv_if_lt (tgt := 108) hx hb d_T_seek_22 (by decide) (fun c4 => ?_) (fun c4 => ?_)
        · have hf := ite_t c4 hf
          refine lv_iconst (v := -1) hx hb d_T_seek_108 (by decide) ?_
          obtain rfl := Option.some.inj hf
          exact W.iret (v := (-1 : Int32)) hx hb hr (fun t ht hW => ⟨rfl, ht⟩) (fun q h => by cases h) d_T_seek_109
        · have hf := ite_f c4 hf
          refine lv_iload hx hb d_T_seek_25 (lv_at hl 5 rfl) ?_
          refine lv_aload_n hx hb d_T_seek_27 rfl (lv_at hl 0 rfl) ?_
          refine va_get (D := D) (ci := 1) (v := .int T_count) (C := RR_T) (T := FF_T) (N := 7) hx hb hts kin_T hown hK.1 hP 0 rfl rfl 6 (by decide) (hts _ k1_43) (fun _ h9 => h9) rfl d_T_seek_28 ?_
          refine lv_icmp_ge (tgt := 108) hx hb d_T_seek_31 (by decide) (fun c5 => ?_) (fun c5 => ?_)
          · have hf := ite_t c5 hf
            refine lv_iconst (v := -1) hx hb d_T_seek_108 (by decide) ?_
            obtain rfl := Option.some.inj hf
            exact W.iret (v := (-1 : Int32)) hx hb hr (fun t ht hW => ⟨rfl, ht⟩) (fun q h => by cases h) d_T_seek_109
          · have hf := ite_f c5 hf
            refine lv_iload hx hb d_T_seek_34 (lv_at hl 5 rfl) ?_
            refine lv_iconst (v := 3) hx hb d_T_seek_36 (by decide) ?_
            refine lv_imul hx hb d_T_seek_37 ?_
            refine lv_topi (fun x6 ex6 => ?_)
            have hf := of_nm ex6 hf
            refine lv_istore (lv' := [(8, .int x6), (0, .ref aT), (2, .int x2_11), (3, .int x3_11), (4, .int x4_11), (5, .int x5_11), (6, .int x6_11), (7, .int x7_11)]) hx hb d_T_seek_38 hl (by decide) rfl (fun ls hl => ?_)
            refine lv_aload_n hx hb d_T_seek_40 rfl (lv_at hl 1 rfl) ?_
            refine va_get (D := D) (ci := 1) (v := .ref aT_heads) (C := RR_T) (T := FF_T) (N := 7) hx hb hts kin_T hown hK.1 hP 0 rfl rfl 0 (by decide) (hts _ k1_37) (fun _ h9 => h9) rfl d_T_seek_41 ?_
            refine lv_iload hx hb d_T_seek_44 (lv_at hl 6 rfl) ?_
            obtain ⟨h7, hf⟩ := of_gd hf
            refine va_iald hx hb hK.1 hP 1 0 rfl rfl (ixb_in h7) d_T_seek_46 ?_
            refine lv_iload_n hx hb d_T_seek_47 rfl (lv_at hl 2 rfl) ?_
            refine lv_icmp_ne (tgt := 93) hx hb d_T_seek_48 (by decide) (fun c8 => ?_) (fun c8 => ?_)
            · have hf := ite_f c8 hf
              exact hB93 _ _ _ _ _ _ _ (lv_sub hl [1, 2, 3, 4, 5, 6, 7] rfl) hf
            · have hf := ite_t c8 hf
              refine lv_aload_n hx hb d_T_seek_51 rfl (lv_at hl 1 rfl) ?_
              refine va_get (D := D) (ci := 1) (v := .ref aT_places) (C := RR_T) (T := FF_T) (N := 7) hx hb hts kin_T hown hK.1 hP 0 rfl rfl 1 (by decide) (hts _ k1_38) (fun _ h9 => h9) rfl d_T_seek_52 ?_
              refine lv_iload hx hb d_T_seek_55 (lv_at hl 0 rfl) ?_
              obtain ⟨h9, hf⟩ := of_gd hf
              refine va_iald hx hb hK.1 hP 2 0 rfl rfl (ixb_in h9) d_T_seek_57 ?_
              refine lv_iload_n hx hb d_T_seek_58 rfl (lv_at hl 3 rfl) ?_
              refine lv_icmp_ne (tgt := 93) hx hb d_T_seek_59 (by decide) (fun c10 => ?_) (fun c10 => ?_)
              · have hf := ite_f c10 hf
                exact hB93 _ _ _ _ _ _ _ (lv_sub hl [1, 2, 3, 4, 5, 6, 7] rfl) hf
              · have hf := ite_t c10 hf
                refine lv_aload_n hx hb d_T_seek_62 rfl (lv_at hl 1 rfl) ?_
                refine va_get (D := D) (ci := 1) (v := .ref aT_places) (C := RR_T) (T := FF_T) (N := 7) hx hb hts kin_T hown hK.1 hP 0 rfl rfl 1 (by decide) (hts _ k1_38) (fun _ h9 => h9) rfl d_T_seek_63 ?_
                refine lv_iload hx hb d_T_seek_66 (lv_at hl 0 rfl) ?_
                refine lv_iconst (v := 1) hx hb d_T_seek_68 (by decide) ?_
                refine lv_iadd hx hb d_T_seek_69 ?_
                obtain ⟨h11, hf⟩ := of_gd hf
                refine va_iald hx hb hK.1 hP 2 0 rfl rfl (ixb_in h11) d_T_seek_70 ?_
                refine lv_iload hx hb d_T_seek_71 (lv_at hl 4 rfl) ?_
                refine lv_icmp_ne (tgt := 93) hx hb d_T_seek_73 (by decide) (fun c12 => ?_) (fun c12 => ?_)
                · have hf := ite_f c12 hf
                  exact hB93 _ _ _ _ _ _ _ (lv_sub hl [1, 2, 3, 4, 5, 6, 7] rfl) hf
                · have hf := ite_t c12 hf
                  refine lv_aload_n hx hb d_T_seek_76 rfl (lv_at hl 1 rfl) ?_
                  refine va_get (D := D) (ci := 1) (v := .ref aT_places) (C := RR_T) (T := FF_T) (N := 7) hx hb hts kin_T hown hK.1 hP 0 rfl rfl 1 (by decide) (hts _ k1_38) (fun _ h9 => h9) rfl d_T_seek_77 ?_
                  refine lv_iload hx hb d_T_seek_80 (lv_at hl 0 rfl) ?_
                  refine lv_iconst (v := 2) hx hb d_T_seek_82 (by decide) ?_
                  refine lv_iadd hx hb d_T_seek_83 ?_
                  obtain ⟨h13, hf⟩ := of_gd hf
                  refine va_iald hx hb hK.1 hP 2 0 rfl rfl (ixb_in h13) d_T_seek_84 ?_
                  refine lv_iload hx hb d_T_seek_85 (lv_at hl 5 rfl) ?_
                  refine lv_icmp_ne (tgt := 93) hx hb d_T_seek_87 (by decide) (fun c14 => ?_) (fun c14 => ?_)
                  · have hf := ite_f c14 hf
                    exact hB93 _ _ _ _ _ _ _ (lv_sub hl [1, 2, 3, 4, 5, 6, 7] rfl) hf
                  · have hf := ite_t c14 hf
                    refine lv_iload hx hb d_T_seek_90 (lv_at hl 6 rfl) ?_
                    obtain rfl := Option.some.inj hf
                    exact W.iret (v := x6_11) hx hb hr (fun t ht hW => ⟨rfl, ht⟩) (fun q h => by cases h) d_T_seek_92
  rw [f_T_seek] at hf
  refine lv_aload_n hx hb d_T_seek_0 rfl (lv_at hl 0 rfl) ?_
  refine va_get (D := D) (ci := 1) (v := .ref aT_newest) (C := RR_T) (T := FF_T) (N := 7) hx hb hts kin_T hown hK.1 hP 0 rfl rfl 5 (by decide) (hts _ k1_42) (fun _ h9 => h9) rfl d_T_seek_1 ?_
  refine lv_iload_n hx hb d_T_seek_4 rfl (lv_at hl 1 rfl) ?_
  obtain ⟨h1, hf⟩ := of_gd hf
  refine va_iald hx hb hK.1 hP 4 0 rfl rfl (ixb_in h1) d_T_seek_5 ?_
  refine lv_topi (fun x2 ex2 => ?_)
  have hf := of_nm ex2 hf
  refine lv_istore (lv' := [(6, .int x2), (0, .ref aT), (1, .int p0), (2, .int p1), (3, .int p2), (4, .int p3), (5, .int p4)]) hx hb d_T_seek_6 hl (by decide) rfl (fun ls hl => ?_)
  refine lv_iconst (v := 0) hx hb d_T_seek_8 (by decide) ?_
  refine lv_istore (lv' := [(7, .int (0 : Int32)), (6, .int x2), (0, .ref aT), (1, .int p0), (2, .int p1), (3, .int p2), (4, .int p3), (5, .int p4)]) hx hb d_T_seek_9 hl (by decide) rfl (fun ls hl => ?_)
  exact hL11 FU _ _ _ _ _ _ _ (lv_sub hl [2, 4, 5, 6, 7, 1, 0] rfl) hf
def f_T_seekLeaf (T_count : Int32) (nT_heads : Nat) (T_heads : (Nat → Int32)) (nT_places : Nat) (T_places : (Nat → Int32)) (nT_olders : Nat) (T_olders : (Nat → Int32)) (T_newest : (Nat → Int32)) (p0 : Int32) : Option (Int32) :=
  (f_T_bucket p0 (-1 : Int32) (-1 : Int32) (-1 : Int32)).bind fun r1 =>
  (f_T_seek T_count nT_heads T_heads nT_places T_places nT_olders T_olders T_newest r1 p0 (-1 : Int32) (-1 : Int32) (-1 : Int32)).bind fun r2 =>
  some r2
abbrev rm_T_seekLeaf : Room := { frames := 1, cells := 0, slots := 0, locals := 28 }
set_option maxHeartbeats 4000000 in
set_option maxRecDepth 100000 in
theorem c_T_seekLeaf (l : Launch) (D : va_G) (cI cJ cZ : ClassId) (aT aT_heads aT_places aT_olders aT_sizes aT_withins aT_newest : Nat) (T_count : Int32) (nT_heads : Nat) (T_heads : (Nat → Int32)) (nT_places : Nat) (T_places : (Nat → Int32)) (nT_olders : Nat) (T_olders : (Nat → Int32)) (T_newest : (Nat → Int32)) (p0 : Int32) (o : Int32) (hf : f_T_seekLeaf T_count nT_heads T_heads nT_places T_places nT_olders T_olders T_newest p0 = some o) : Met l y_T_seekLeaf (ws_T_seekLeaf) rm_T_seekLeaf (RPc D vwCl cI cJ cZ [.ref aT, .int p0] (wv_6 cI cJ cZ aT aT_heads aT_places aT_olders aT_sizes aT_withins aT_newest T_count nT_heads T_heads nT_places T_places nT_olders T_olders T_newest)) (RQ (some (.int o))) 0 0 (fun _ => False) := by
  refine Met.ofW (cc := b_T_seekLeaf) (maxL := 2) (ret := (some .int)) (by decide) rfl ?_
  intro p e s m args below meth c s₁ B hml hv
  obtain ⟨rfl, hP, hK⟩ := hv
  have hx := B.exec
  have hb := B.bytes
  have hr := B.returns
  have hts : ∀ w ∈ BG, w.before _ s = true := fun w h => atoms_spec (ws := (ws_T_seekLeaf)) B.pre w (List.mem_cons_of_mem _ h)
  have hown : s.vm.findClass RR_T = some m.cls := findClass_of_methodNamed B.named
  have hlocks := B.notSynchronized
  have hl := lv_entry ([.ref aT, .int p0]) (n := 2) (Nat.le_of_ble_eq_true rfl)
  rw [lg_entry_eq]
  generalize (lg_sl ([.ref aT, .int p0]) ++ List.replicate (2 - (lg_sl ([.ref aT, .int p0])).length) Slot.unset).toArray = ls at hl ⊢
  have hl : lv_has ls 2 [(0, .ref aT), (1, .int p0)] := hl
  rw [f_T_seekLeaf] at hf
  refine lv_aload_n hx hb d_T_seekLeaf_0 rfl (lv_at hl 0 rfl) ?_
  refine lv_iload_n hx hb d_T_seekLeaf_1 rfl (lv_at hl 1 rfl) ?_
  refine lv_iconst (v := -1) hx hb d_T_seekLeaf_2 (by decide) ?_
  refine lv_iconst (v := -1) hx hb d_T_seekLeaf_3 (by decide) ?_
  refine lv_iconst (v := -1) hx hb d_T_seekLeaf_4 (by decide) ?_
  obtain ⟨r1, hr1, hf⟩ := of_bd hf
  refine rd_call (va_runS (As := [.int p0, .int (-1 : Int32), .int (-1 : Int32), .int (-1 : Int32)]) (rest := [.ref aT]) ⟨hx, hb, hml, hown, hts⟩ (c_T_bucket l D cI cJ cZ p0 (-1 : Int32) (-1 : Int32) (-1 : Int32) r1 hr1) (bigS 4 hts k2_89 k2_90 k1_2 k2_91 rfl rfl hd_T_bucket ⟨Nat.le_of_ble_eq_true rfl, Nat.le_of_ble_eq_true rfl⟩) (rd_preS hK hP [] rfl) rfl rfl hl.1 rfl (lv_room (Nat.le_of_ble_eq_true rfl)) d_T_seekLeaf_5 ⟨Nat.le_of_ble_eq_true rfl, Nat.le_of_ble_eq_true rfl⟩) ?_
  refine lv_iload_n hx hb d_T_seekLeaf_8 rfl (lv_at hl 1 rfl) ?_
  refine lv_iconst (v := -1) hx hb d_T_seekLeaf_9 (by decide) ?_
  refine lv_iconst (v := -1) hx hb d_T_seekLeaf_10 (by decide) ?_
  refine lv_iconst (v := -1) hx hb d_T_seekLeaf_11 (by decide) ?_
  obtain ⟨r2, hr2, hf⟩ := of_bd hf
  refine rd_call (va_runV (As := [.int r1, .int p0, .int (-1 : Int32), .int (-1 : Int32), .int (-1 : Int32)]) (rest := []) ⟨hx, hb, hml, hown, hts⟩ (c_T_seek l D cI cJ cZ aT aT_heads aT_places aT_olders aT_sizes aT_withins aT_newest T_count nT_heads T_heads nT_places T_places nT_olders T_olders T_newest r1 p0 (-1 : Int32) (-1 : Int32) (-1 : Int32) r2 hr2) (bigV 5 hts k2_92 k2_94 ks_T_seek k1_2 k2_95 rfl rfl hd_T_seek ⟨Nat.le_of_ble_eq_true rfl, Nat.le_of_ble_eq_true rfl⟩) (rd_preV hK hP [0, 1, 2, 3, 4] rfl 0 rfl rfl rfl) rfl rfl hl.1 rfl (lv_room (Nat.le_of_ble_eq_true rfl)) d_T_seekLeaf_12 ⟨Nat.le_of_ble_eq_true rfl, Nat.le_of_ble_eq_true rfl⟩) ?_
  obtain rfl := Option.some.inj hf
  exact W.iret (v := r2) hx hb hr (fun t ht hW => ⟨rfl, ht⟩) (fun q h => by cases h) d_T_seekLeaf_15
