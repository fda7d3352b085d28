abbrev b_M_image : ByteArray := prog_4_method_6_code
abbrev y_M_image : MethodName := ⟨"ShapeSearch$Matcher", "image", "(I)I"⟩
abbrev ws_M_image : List Cond := .code y_M_image b_M_image 2 (some .int) :: BG
theorem hd_M_image : y_M_image.cls ≠ "java/lang/invoke/MethodHandle" ∧ y_M_image.cls ≠ "java/lang/invoke/VarHandle" ∧ (parseMethodDescriptor y_M_image.desc).map (fun d => d.parameters.length) = some 1 := by decide +kernel
theorem d_M_image_0 : decode b_M_image 0 = .ok (.iload_n 1, 1) := by decide +kernel
theorem d_M_image_1 : decode b_M_image 1 = .ok (.ifCond .lt 18, 3) := by decide +kernel
theorem d_M_image_4 : decode b_M_image 4 = .ok (.iload_n 1, 1) := by decide +kernel
theorem d_M_image_5 : decode b_M_image 5 = .ok (.bipush 100, 2) := by decide +kernel
theorem d_M_image_7 : decode b_M_image 7 = .ok (.if_icmp .ge 12, 3) := by decide +kernel
theorem d_M_image_10 : decode b_M_image 10 = .ok (.aload_n 0, 1) := by decide +kernel
theorem d_M_image_11 : decode b_M_image 11 = .ok (.getfield 15, 3) := by decide +kernel
theorem d_M_image_14 : decode b_M_image 14 = .ok (.iload_n 1, 1) := by decide +kernel
theorem d_M_image_15 : decode b_M_image 15 = .ok (.iaload, 1) := by decide +kernel
theorem d_M_image_16 : decode b_M_image 16 = .ok (.goto 4, 3) := by decide +kernel
theorem d_M_image_19 : decode b_M_image 19 = .ok (.iconst (-1), 1) := by decide +kernel
theorem d_M_image_20 : decode b_M_image 20 = .ok (.ireturn, 1) := by decide +kernel
abbrev b_M_pair : ByteArray := prog_4_method_7_code
abbrev y_M_pair : MethodName := ⟨"ShapeSearch$Matcher", "pair", "(II)Z"⟩
abbrev ws_M_pair : List Cond := .code y_M_pair b_M_pair 3 (some .boolean) :: BG
theorem hd_M_pair : y_M_pair.cls ≠ "java/lang/invoke/MethodHandle" ∧ y_M_pair.cls ≠ "java/lang/invoke/VarHandle" ∧ (parseMethodDescriptor y_M_pair.desc).map (fun d => d.parameters.length) = some 2 := by decide +kernel
theorem d_M_pair_0 : decode b_M_pair 0 = .ok (.iload_n 1, 1) := by decide +kernel
theorem d_M_pair_1 : decode b_M_pair 1 = .ok (.ifCond .lt 14, 3) := by decide +kernel
theorem d_M_pair_4 : decode b_M_pair 4 = .ok (.iload_n 1, 1) := by decide +kernel
theorem d_M_pair_5 : decode b_M_pair 5 = .ok (.bipush 100, 2) := by decide +kernel
theorem d_M_pair_7 : decode b_M_pair 7 = .ok (.if_icmp .ge 8, 3) := by decide +kernel
theorem d_M_pair_10 : decode b_M_pair 10 = .ok (.iload_n 2, 1) := by decide +kernel
theorem d_M_pair_11 : decode b_M_pair 11 = .ok (.iconst (-1), 1) := by decide +kernel
theorem d_M_pair_12 : decode b_M_pair 12 = .ok (.if_icmp .ne 5, 3) := by decide +kernel
theorem d_M_pair_15 : decode b_M_pair 15 = .ok (.iconst 0, 1) := by decide +kernel
theorem d_M_pair_16 : decode b_M_pair 16 = .ok (.ireturn, 1) := by decide +kernel
theorem d_M_pair_17 : decode b_M_pair 17 = .ok (.aload_n 0, 1) := by decide +kernel
theorem d_M_pair_18 : decode b_M_pair 18 = .ok (.getfield 15, 3) := by decide +kernel
theorem d_M_pair_21 : decode b_M_pair 21 = .ok (.iload_n 1, 1) := by decide +kernel
theorem d_M_pair_22 : decode b_M_pair 22 = .ok (.iaload, 1) := by decide +kernel
theorem d_M_pair_23 : decode b_M_pair 23 = .ok (.iconst (-1), 1) := by decide +kernel
theorem d_M_pair_24 : decode b_M_pair 24 = .ok (.if_icmp .ne 10, 3) := by decide +kernel
theorem d_M_pair_27 : decode b_M_pair 27 = .ok (.aload_n 0, 1) := by decide +kernel
theorem d_M_pair_28 : decode b_M_pair 28 = .ok (.getfield 15, 3) := by decide +kernel
theorem d_M_pair_31 : decode b_M_pair 31 = .ok (.iload_n 1, 1) := by decide +kernel
theorem d_M_pair_32 : decode b_M_pair 32 = .ok (.iload_n 2, 1) := by decide +kernel
theorem d_M_pair_33 : decode b_M_pair 33 = .ok (.iastore, 1) := by decide +kernel
theorem d_M_pair_34 : decode b_M_pair 34 = .ok (.aload_n 0, 1) := by decide +kernel
theorem d_M_pair_35 : decode b_M_pair 35 = .ok (.getfield 15, 3) := by decide +kernel
theorem d_M_pair_38 : decode b_M_pair 38 = .ok (.iload_n 1, 1) := by decide +kernel
theorem d_M_pair_39 : decode b_M_pair 39 = .ok (.iaload, 1) := by decide +kernel
theorem d_M_pair_40 : decode b_M_pair 40 = .ok (.iload_n 2, 1) := by decide +kernel
theorem d_M_pair_41 : decode b_M_pair 41 = .ok (.if_icmp .ne 7, 3) := by decide +kernel
theorem d_M_pair_44 : decode b_M_pair 44 = .ok (.iconst 1, 1) := by decide +kernel
theorem d_M_pair_45 : decode b_M_pair 45 = .ok (.goto 4, 3) := by decide +kernel
theorem d_M_pair_48 : decode b_M_pair 48 = .ok (.iconst 0, 1) := by decide +kernel
theorem d_M_pair_49 : decode b_M_pair 49 = .ok (.ireturn, 1) := by decide +kernel
abbrev b_M_agrees : ByteArray := prog_4_method_9_code
abbrev y_M_agrees : MethodName := ⟨"ShapeSearch$Matcher", "agrees", "(IIJ)Z"⟩
abbrev ws_M_agrees : List Cond := .code y_M_agrees b_M_agrees 8 (some .boolean) :: BG
theorem hd_M_agrees : y_M_agrees.cls ≠ "java/lang/invoke/MethodHandle" ∧ y_M_agrees.cls ≠ "java/lang/invoke/VarHandle" ∧ (parseMethodDescriptor y_M_agrees.desc).map (fun d => d.parameters.length) = some 3 := by decide +kernel
theorem d_M_agrees_0 : decode b_M_agrees 0 = .ok (.aload_n 0, 1) := by decide +kernel
theorem d_M_agrees_1 : decode b_M_agrees 1 = .ok (.getfield 9, 3) := by decide +kernel
theorem d_M_agrees_4 : decode b_M_agrees 4 = .ok (.iload_n 1, 1) := by decide +kernel
theorem d_M_agrees_5 : decode b_M_agrees 5 = .ok (.lload_n 3, 1) := by decide +kernel
theorem d_M_agrees_6 : decode b_M_agrees 6 = .ok (.invokevirtual 72, 3) := by decide +kernel
theorem d_M_agrees_9 : decode b_M_agrees 9 = .ok (.ifCond .ne 14, 3) := by decide +kernel
theorem d_M_agrees_12 : decode b_M_agrees 12 = .ok (.iload_n 1, 1) := by decide +kernel
theorem d_M_agrees_13 : decode b_M_agrees 13 = .ok (.iload_n 2, 1) := by decide +kernel
theorem d_M_agrees_14 : decode b_M_agrees 14 = .ok (.if_icmp .ne 7, 3) := by decide +kernel
theorem d_M_agrees_17 : decode b_M_agrees 17 = .ok (.iconst 1, 1) := by decide +kernel
theorem d_M_agrees_18 : decode b_M_agrees 18 = .ok (.goto 4, 3) := by decide +kernel
theorem d_M_agrees_21 : decode b_M_agrees 21 = .ok (.iconst 0, 1) := by decide +kernel
theorem d_M_agrees_22 : decode b_M_agrees 22 = .ok (.ireturn, 1) := by decide +kernel
theorem d_M_agrees_23 : decode b_M_agrees 23 = .ok (.aload_n 0, 1) := by decide +kernel
theorem d_M_agrees_24 : decode b_M_agrees 24 = .ok (.getfield 9, 3) := by decide +kernel
theorem d_M_agrees_27 : decode b_M_agrees 27 = .ok (.iload_n 1, 1) := by decide +kernel
theorem d_M_agrees_28 : decode b_M_agrees 28 = .ok (.invokevirtual 22, 3) := by decide +kernel
theorem d_M_agrees_31 : decode b_M_agrees 31 = .ok (.istore 5, 2) := by decide +kernel
theorem d_M_agrees_33 : decode b_M_agrees 33 = .ok (.iload 5, 2) := by decide +kernel
theorem d_M_agrees_35 : decode b_M_agrees 35 = .ok (.bipush 30, 2) := by decide +kernel
theorem d_M_agrees_37 : decode b_M_agrees 37 = .ok (.if_icmp .lt 5, 3) := by decide +kernel
theorem d_M_agrees_40 : decode b_M_agrees 40 = .ok (.iconst 1, 1) := by decide +kernel
theorem d_M_agrees_41 : decode b_M_agrees 41 = .ok (.ireturn, 1) := by decide +kernel
theorem d_M_agrees_42 : decode b_M_agrees 42 = .ok (.iload 5, 2) := by decide +kernel
theorem d_M_agrees_44 : decode b_M_agrees 44 = .ok (.aload_n 0, 1) := by decide +kernel
theorem d_M_agrees_45 : decode b_M_agrees 45 = .ok (.getfield 9, 3) := by decide +kernel
theorem d_M_agrees_48 : decode b_M_agrees 48 = .ok (.iload_n 2, 1) := by decide +kernel
theorem d_M_agrees_49 : decode b_M_agrees 49 = .ok (.invokevirtual 22, 3) := by decide +kernel
theorem d_M_agrees_52 : decode b_M_agrees 52 = .ok (.if_icmp .eq 5, 3) := by decide +kernel
theorem d_M_agrees_55 : decode b_M_agrees 55 = .ok (.iconst 0, 1) := by decide +kernel
theorem d_M_agrees_56 : decode b_M_agrees 56 = .ok (.ireturn, 1) := by decide +kernel
theorem d_M_agrees_57 : decode b_M_agrees 57 = .ok (.iconst 0, 1) := by decide +kernel
theorem d_M_agrees_58 : decode b_M_agrees 58 = .ok (.istore 6, 2) := by decide +kernel
theorem d_M_agrees_60 : decode b_M_agrees 60 = .ok (.iload 6, 2) := by decide +kernel
theorem d_M_agrees_62 : decode b_M_agrees 62 = .ok (.iconst 3, 1) := by decide +kernel
theorem d_M_agrees_63 : decode b_M_agrees 63 = .ok (.if_icmp .ge 48, 3) := by decide +kernel
theorem d_M_agrees_66 : decode b_M_agrees 66 = .ok (.aload_n 0, 1) := by decide +kernel
theorem d_M_agrees_67 : decode b_M_agrees 67 = .ok (.getfield 9, 3) := by decide +kernel
theorem d_M_agrees_70 : decode b_M_agrees 70 = .ok (.iload_n 1, 1) := by decide +kernel
theorem d_M_agrees_71 : decode b_M_agrees 71 = .ok (.iload 6, 2) := by decide +kernel
theorem d_M_agrees_73 : decode b_M_agrees 73 = .ok (.invokevirtual 76, 3) := by decide +kernel
theorem d_M_agrees_76 : decode b_M_agrees 76 = .ok (.istore 7, 2) := by decide +kernel
theorem d_M_agrees_78 : decode b_M_agrees 78 = .ok (.iload 7, 2) := by decide +kernel
theorem d_M_agrees_80 : decode b_M_agrees 80 = .ok (.iconst (-1), 1) := by decide +kernel
theorem d_M_agrees_81 : decode b_M_agrees 81 = .ok (.if_icmp .eq 24, 3) := by decide +kernel
theorem d_M_agrees_84 : decode b_M_agrees 84 = .ok (.aload_n 0, 1) := by decide +kernel
theorem d_M_agrees_85 : decode b_M_agrees 85 = .ok (.iload 7, 2) := by decide +kernel
theorem d_M_agrees_87 : decode b_M_agrees 87 = .ok (.aload_n 0, 1) := by decide +kernel
theorem d_M_agrees_88 : decode b_M_agrees 88 = .ok (.getfield 9, 3) := by decide +kernel
theorem d_M_agrees_91 : decode b_M_agrees 91 = .ok (.iload_n 2, 1) := by decide +kernel
theorem d_M_agrees_92 : decode b_M_agrees 92 = .ok (.iload 6, 2) := by decide +kernel
theorem d_M_agrees_94 : decode b_M_agrees 94 = .ok (.invokevirtual 76, 3) := by decide +kernel
theorem d_M_agrees_97 : decode b_M_agrees 97 = .ok (.invokevirtual 34, 3) := by decide +kernel
theorem d_M_agrees_100 : decode b_M_agrees 100 = .ok (.ifCond .ne 5, 3) := by decide +kernel
theorem d_M_agrees_103 : decode b_M_agrees 103 = .ok (.iconst 0, 1) := by decide +kernel
theorem d_M_agrees_104 : decode b_M_agrees 104 = .ok (.ireturn, 1) := by decide +kernel
theorem d_M_agrees_105 : decode b_M_agrees 105 = .ok (.iinc 6 1, 3) := by decide +kernel
theorem d_M_agrees_108 : decode b_M_agrees 108 = .ok (.goto (-48), 3) := by decide +kernel
theorem d_M_agrees_111 : decode b_M_agrees 111 = .ok (.iconst 1, 1) := by decide +kernel
theorem d_M_agrees_112 : decode b_M_agrees 112 = .ok (.ireturn, 1) := by decide +kernel
abbrev b_M_settle : ByteArray := prog_4_method_8_code
abbrev y_M_settle : MethodName := ⟨"ShapeSearch$Matcher", "settle", "(J)Z"⟩
abbrev ws_M_settle : List Cond := .code y_M_settle b_M_settle 4 (some .boolean) :: BG
theorem hd_M_settle : y_M_settle.cls ≠ "java/lang/invoke/MethodHandle" ∧ y_M_settle.cls ≠ "java/lang/invoke/VarHandle" ∧ (parseMethodDescriptor y_M_settle.desc).map (fun d => d.parameters.length) = some 1 := by decide +kernel
theorem d_M_settle_0 : decode b_M_settle 0 = .ok (.bipush 99, 2) := by decide +kernel
theorem d_M_settle_2 : decode b_M_settle 2 = .ok (.istore_n 3, 1) := by decide +kernel
theorem d_M_settle_3 : decode b_M_settle 3 = .ok (.iload_n 3, 1) := by decide +kernel
theorem d_M_settle_4 : decode b_M_settle 4 = .ok (.ifCond .lt 36, 3) := by decide +kernel
theorem d_M_settle_7 : decode b_M_settle 7 = .ok (.aload_n 0, 1) := by decide +kernel
theorem d_M_settle_8 : decode b_M_settle 8 = .ok (.getfield 15, 3) := by decide +kernel
theorem d_M_settle_11 : decode b_M_settle 11 = .ok (.iload_n 3, 1) := by decide +kernel
theorem d_M_settle_12 : decode b_M_settle 12 = .ok (.iaload, 1) := by decide +kernel
theorem d_M_settle_13 : decode b_M_settle 13 = .ok (.iconst (-1), 1) := by decide +kernel
theorem d_M_settle_14 : decode b_M_settle 14 = .ok (.if_icmp .eq 20, 3) := by decide +kernel
theorem d_M_settle_17 : decode b_M_settle 17 = .ok (.aload_n 0, 1) := by decide +kernel
theorem d_M_settle_18 : decode b_M_settle 18 = .ok (.iload_n 3, 1) := by decide +kernel
theorem d_M_settle_19 : decode b_M_settle 19 = .ok (.aload_n 0, 1) := by decide +kernel
theorem d_M_settle_20 : decode b_M_settle 20 = .ok (.getfield 15, 3) := by decide +kernel
theorem d_M_settle_23 : decode b_M_settle 23 = .ok (.iload_n 3, 1) := by decide +kernel
theorem d_M_settle_24 : decode b_M_settle 24 = .ok (.iaload, 1) := by decide +kernel
theorem d_M_settle_25 : decode b_M_settle 25 = .ok (.lload_n 1, 1) := by decide +kernel
theorem d_M_settle_26 : decode b_M_settle 26 = .ok (.invokevirtual 68, 3) := by decide +kernel
theorem d_M_settle_29 : decode b_M_settle 29 = .ok (.ifCond .ne 5, 3) := by decide +kernel
theorem d_M_settle_32 : decode b_M_settle 32 = .ok (.iconst 0, 1) := by decide +kernel
theorem d_M_settle_33 : decode b_M_settle 33 = .ok (.ireturn, 1) := by decide +kernel
theorem d_M_settle_34 : decode b_M_settle 34 = .ok (.iinc 3 (-1), 3) := by decide +kernel
theorem d_M_settle_37 : decode b_M_settle 37 = .ok (.goto (-34), 3) := by decide +kernel
theorem d_M_settle_40 : decode b_M_settle 40 = .ok (.iconst 1, 1) := by decide +kernel
theorem d_M_settle_41 : decode b_M_settle 41 = .ok (.ireturn, 1) := by decide +kernel
abbrev b_M_matches : ByteArray := prog_4_method_2_code
abbrev y_M_matches : MethodName := ⟨"ShapeSearch$Matcher", "matches", "(IIJ)Z"⟩
abbrev ws_M_matches : List Cond := .code y_M_matches b_M_matches 6 (some .boolean) :: BG
theorem hd_M_matches : y_M_matches.cls ≠ "java/lang/invoke/MethodHandle" ∧ y_M_matches.cls ≠ "java/lang/invoke/VarHandle" ∧ (parseMethodDescriptor y_M_matches.desc).map (fun d => d.parameters.length) = some 3 := by decide +kernel
theorem d_M_matches_0 : decode b_M_matches 0 = .ok (.aload_n 0, 1) := by decide +kernel
theorem d_M_matches_1 : decode b_M_matches 1 = .ok (.getfield 9, 3) := by decide +kernel
theorem d_M_matches_4 : decode b_M_matches 4 = .ok (.iload_n 1, 1) := by decide +kernel
theorem d_M_matches_5 : decode b_M_matches 5 = .ok (.invokevirtual 22, 3) := by decide +kernel
theorem d_M_matches_8 : decode b_M_matches 8 = .ok (.istore 5, 2) := by decide +kernel
theorem d_M_matches_10 : decode b_M_matches 10 = .ok (.iload 5, 2) := by decide +kernel
theorem d_M_matches_12 : decode b_M_matches 12 = .ok (.bipush 30, 2) := by decide +kernel
theorem d_M_matches_14 : decode b_M_matches 14 = .ok (.if_icmp .ge 18, 3) := by decide +kernel
theorem d_M_matches_17 : decode b_M_matches 17 = .ok (.iload 5, 2) := by decide +kernel
theorem d_M_matches_19 : decode b_M_matches 19 = .ok (.aload_n 0, 1) := by decide +kernel
theorem d_M_matches_20 : decode b_M_matches 20 = .ok (.getfield 9, 3) := by decide +kernel
theorem d_M_matches_23 : decode b_M_matches 23 = .ok (.iload_n 2, 1) := by decide +kernel
theorem d_M_matches_24 : decode b_M_matches 24 = .ok (.invokevirtual 22, 3) := by decide +kernel
theorem d_M_matches_27 : decode b_M_matches 27 = .ok (.if_icmp .eq 5, 3) := by decide +kernel
theorem d_M_matches_30 : decode b_M_matches 30 = .ok (.iconst 0, 1) := by decide +kernel
theorem d_M_matches_31 : decode b_M_matches 31 = .ok (.ireturn, 1) := by decide +kernel
theorem d_M_matches_32 : decode b_M_matches 32 = .ok (.aload_n 0, 1) := by decide +kernel
theorem d_M_matches_33 : decode b_M_matches 33 = .ok (.getfield 15, 3) := by decide +kernel
theorem d_M_matches_36 : decode b_M_matches 36 = .ok (.iconst (-1), 1) := by decide +kernel
theorem d_M_matches_37 : decode b_M_matches 37 = .ok (.invokestatic 28, 3) := by decide +kernel
theorem d_M_matches_40 : decode b_M_matches 40 = .ok (.aload_n 0, 1) := by decide +kernel
theorem d_M_matches_41 : decode b_M_matches 41 = .ok (.iload_n 1, 1) := by decide +kernel
theorem d_M_matches_42 : decode b_M_matches 42 = .ok (.iload_n 2, 1) := by decide +kernel
theorem d_M_matches_43 : decode b_M_matches 43 = .ok (.invokevirtual 34, 3) := by decide +kernel
theorem d_M_matches_46 : decode b_M_matches 46 = .ok (.ifCond .eq 15, 3) := by decide +kernel
theorem d_M_matches_49 : decode b_M_matches 49 = .ok (.aload_n 0, 1) := by decide +kernel
theorem d_M_matches_50 : decode b_M_matches 50 = .ok (.lload_n 3, 1) := by decide +kernel
theorem d_M_matches_51 : decode b_M_matches 51 = .ok (.invokevirtual 38, 3) := by decide +kernel
theorem d_M_matches_54 : decode b_M_matches 54 = .ok (.ifCond .eq 7, 3) := by decide +kernel
theorem d_M_matches_57 : decode b_M_matches 57 = .ok (.iconst 1, 1) := by decide +kernel
theorem d_M_matches_58 : decode b_M_matches 58 = .ok (.goto 4, 3) := by decide +kernel
theorem d_M_matches_61 : decode b_M_matches 61 = .ok (.iconst 0, 1) := by decide +kernel
theorem d_M_matches_62 : decode b_M_matches 62 = .ok (.ireturn, 1) := by decide +kernel
abbrev b_M_covers : ByteArray := prog_4_method_3_code
abbrev y_M_covers : MethodName := ⟨"ShapeSearch$Matcher", "covers", "(LShapeSearch$Statements;II)Z"⟩
abbrev ws_M_covers : List Cond := .code y_M_covers b_M_covers 7 (some .boolean) :: BG
theorem hd_M_covers : y_M_covers.cls ≠ "java/lang/invoke/MethodHandle" ∧ y_M_covers.cls ≠ "java/lang/invoke/VarHandle" ∧ (parseMethodDescriptor y_M_covers.desc).map (fun d => d.parameters.length) = some 3 := by decide +kernel
theorem d_M_covers_0 : decode b_M_covers 0 = .ok (.aload_n 1, 1) := by decide +kernel
theorem d_M_covers_1 : decode b_M_covers 1 = .ok (.iload_n 2, 1) := by decide +kernel
theorem d_M_covers_2 : decode b_M_covers 2 = .ok (.invokevirtual 42, 3) := by decide +kernel
theorem d_M_covers_5 : decode b_M_covers 5 = .ok (.istore 4, 2) := by decide +kernel
theorem d_M_covers_7 : decode b_M_covers 7 = .ok (.iload 4, 2) := by decide +kernel
theorem d_M_covers_9 : decode b_M_covers 9 = .ok (.aload_n 1, 1) := by decide +kernel
theorem d_M_covers_10 : decode b_M_covers 10 = .ok (.iload_n 3, 1) := by decide +kernel
theorem d_M_covers_11 : decode b_M_covers 11 = .ok (.invokevirtual 42, 3) := by decide +kernel
theorem d_M_covers_14 : decode b_M_covers 14 = .ok (.if_icmp .eq 5, 3) := by decide +kernel
theorem d_M_covers_17 : decode b_M_covers 17 = .ok (.iconst 0, 1) := by decide +kernel
theorem d_M_covers_18 : decode b_M_covers 18 = .ok (.ireturn, 1) := by decide +kernel
theorem d_M_covers_19 : decode b_M_covers 19 = .ok (.aload_n 0, 1) := by decide +kernel
theorem d_M_covers_20 : decode b_M_covers 20 = .ok (.getfield 15, 3) := by decide +kernel
theorem d_M_covers_23 : decode b_M_covers 23 = .ok (.iconst (-1), 1) := by decide +kernel
theorem d_M_covers_24 : decode b_M_covers 24 = .ok (.invokestatic 28, 3) := by decide +kernel
theorem d_M_covers_27 : decode b_M_covers 27 = .ok (.aload_n 0, 1) := by decide +kernel
theorem d_M_covers_28 : decode b_M_covers 28 = .ok (.aload_n 1, 1) := by decide +kernel
theorem d_M_covers_29 : decode b_M_covers 29 = .ok (.iload_n 2, 1) := by decide +kernel
theorem d_M_covers_30 : decode b_M_covers 30 = .ok (.invokevirtual 47, 3) := by decide +kernel
theorem d_M_covers_33 : decode b_M_covers 33 = .ok (.aload_n 1, 1) := by decide +kernel
theorem d_M_covers_34 : decode b_M_covers 34 = .ok (.iload_n 3, 1) := by decide +kernel
theorem d_M_covers_35 : decode b_M_covers 35 = .ok (.invokevirtual 47, 3) := by decide +kernel
theorem d_M_covers_38 : decode b_M_covers 38 = .ok (.invokevirtual 34, 3) := by decide +kernel
theorem d_M_covers_41 : decode b_M_covers 41 = .ok (.istore 5, 2) := by decide +kernel
theorem d_M_covers_43 : decode b_M_covers 43 = .ok (.iconst 0, 1) := by decide +kernel
theorem d_M_covers_44 : decode b_M_covers 44 = .ok (.istore 6, 2) := by decide +kernel
theorem d_M_covers_46 : decode b_M_covers 46 = .ok (.iload 6, 2) := by decide +kernel
theorem d_M_covers_48 : decode b_M_covers 48 = .ok (.iload 4, 2) := by decide +kernel
theorem d_M_covers_50 : decode b_M_covers 50 = .ok (.if_icmp .ge 34, 3) := by decide +kernel
theorem d_M_covers_53 : decode b_M_covers 53 = .ok (.iload 5, 2) := by decide +kernel
theorem d_M_covers_55 : decode b_M_covers 55 = .ok (.ifCond .eq 29, 3) := by decide +kernel
theorem d_M_covers_58 : decode b_M_covers 58 = .ok (.aload_n 0, 1) := by decide +kernel
theorem d_M_covers_59 : decode b_M_covers 59 = .ok (.aload_n 1, 1) := by decide +kernel
theorem d_M_covers_60 : decode b_M_covers 60 = .ok (.iload_n 2, 1) := by decide +kernel
theorem d_M_covers_61 : decode b_M_covers 61 = .ok (.iload 6, 2) := by decide +kernel
theorem d_M_covers_63 : decode b_M_covers 63 = .ok (.invokevirtual 50, 3) := by decide +kernel
theorem d_M_covers_66 : decode b_M_covers 66 = .ok (.aload_n 1, 1) := by decide +kernel
theorem d_M_covers_67 : decode b_M_covers 67 = .ok (.iload_n 3, 1) := by decide +kernel
theorem d_M_covers_68 : decode b_M_covers 68 = .ok (.iload 6, 2) := by decide +kernel
theorem d_M_covers_70 : decode b_M_covers 70 = .ok (.invokevirtual 50, 3) := by decide +kernel
theorem d_M_covers_73 : decode b_M_covers 73 = .ok (.invokevirtual 34, 3) := by decide +kernel
theorem d_M_covers_76 : decode b_M_covers 76 = .ok (.istore 5, 2) := by decide +kernel
theorem d_M_covers_78 : decode b_M_covers 78 = .ok (.iinc 6 1, 3) := by decide +kernel
theorem d_M_covers_81 : decode b_M_covers 81 = .ok (.goto (-35), 3) := by decide +kernel
theorem d_M_covers_84 : decode b_M_covers 84 = .ok (.iload 5, 2) := by decide +kernel
theorem d_M_covers_86 : decode b_M_covers 86 = .ok (.ifCond .eq 17, 3) := by decide +kernel
theorem d_M_covers_89 : decode b_M_covers 89 = .ok (.aload_n 0, 1) := by decide +kernel
theorem d_M_covers_90 : decode b_M_covers 90 = .ok (.ldc2_w 54, 3) := by decide +kernel
theorem d_M_covers_93 : decode b_M_covers 93 = .ok (.invokevirtual 38, 3) := by decide +kernel
theorem d_M_covers_96 : decode b_M_covers 96 = .ok (.ifCond .eq 7, 3) := by decide +kernel
theorem d_M_covers_99 : decode b_M_covers 99 = .ok (.iconst 1, 1) := by decide +kernel
theorem d_M_covers_100 : decode b_M_covers 100 = .ok (.goto 4, 3) := by decide +kernel
theorem d_M_covers_103 : decode b_M_covers 103 = .ok (.iconst 0, 1) := by decide +kernel
theorem d_M_covers_104 : decode b_M_covers 104 = .ok (.ireturn, 1) := by decide +kernel
abbrev b_M_imageOfLeaf : ByteArray := prog_4_method_4_code
abbrev y_M_imageOfLeaf : MethodName := ⟨"ShapeSearch$Matcher", "imageOfLeaf", "(I)I"⟩
abbrev ws_M_imageOfLeaf : List Cond := .code y_M_imageOfLeaf b_M_imageOfLeaf 2 (some .int) :: BG
theorem hd_M_imageOfLeaf : y_M_imageOfLeaf.cls ≠ "java/lang/invoke/MethodHandle" ∧ y_M_imageOfLeaf.cls ≠ "java/lang/invoke/VarHandle" ∧ (parseMethodDescriptor y_M_imageOfLeaf.desc).map (fun d => d.parameters.length) = some 1 := by decide +kernel
theorem d_M_imageOfLeaf_0 : decode b_M_imageOfLeaf 0 = .ok (.aload_n 0, 1) := by decide +kernel
theorem d_M_imageOfLeaf_1 : decode b_M_imageOfLeaf 1 = .ok (.aload_n 0, 1) := by decide +kernel
theorem d_M_imageOfLeaf_2 : decode b_M_imageOfLeaf 2 = .ok (.getfield 9, 3) := by decide +kernel
theorem d_M_imageOfLeaf_5 : decode b_M_imageOfLeaf 5 = .ok (.iload_n 1, 1) := by decide +kernel
theorem d_M_imageOfLeaf_6 : decode b_M_imageOfLeaf 6 = .ok (.invokevirtual 56, 3) := by decide +kernel
theorem d_M_imageOfLeaf_9 : decode b_M_imageOfLeaf 9 = .ok (.invokevirtual 59, 3) := by decide +kernel
theorem d_M_imageOfLeaf_12 : decode b_M_imageOfLeaf 12 = .ok (.ireturn, 1) := by decide +kernel
abbrev b_M_placeWithoutImage : ByteArray := prog_4_method_10_code
abbrev y_M_placeWithoutImage : MethodName := ⟨"ShapeSearch$Matcher", "placeWithoutImage", "(I)I"⟩
abbrev ws_M_placeWithoutImage : List Cond := .code y_M_placeWithoutImage b_M_placeWithoutImage 4 (some .int) :: BG
theorem hd_M_placeWithoutImage : y_M_placeWithoutImage.cls ≠ "java/lang/invoke/MethodHandle" ∧ y_M_placeWithoutImage.cls ≠ "java/lang/invoke/VarHandle" ∧ (parseMethodDescriptor y_M_placeWithoutImage.desc).map (fun d => d.parameters.length) = some 1 := by decide +kernel
theorem d_M_placeWithoutImage_0 : decode b_M_placeWithoutImage 0 = .ok (.iconst 0, 1) := by decide +kernel
theorem d_M_placeWithoutImage_1 : decode b_M_placeWithoutImage 1 = .ok (.istore_n 2, 1) := by decide +kernel
theorem d_M_placeWithoutImage_2 : decode b_M_placeWithoutImage 2 = .ok (.iload_n 2, 1) := by decide +kernel
theorem d_M_placeWithoutImage_3 : decode b_M_placeWithoutImage 3 = .ok (.iconst 3, 1) := by decide +kernel
theorem d_M_placeWithoutImage_4 : decode b_M_placeWithoutImage 4 = .ok (.if_icmp .ge 35, 3) := by decide +kernel
theorem d_M_placeWithoutImage_7 : decode b_M_placeWithoutImage 7 = .ok (.aload_n 0, 1) := by decide +kernel
theorem d_M_placeWithoutImage_8 : decode b_M_placeWithoutImage 8 = .ok (.getfield 9, 3) := by decide +kernel
theorem d_M_placeWithoutImage_11 : decode b_M_placeWithoutImage 11 = .ok (.iload_n 1, 1) := by decide +kernel
theorem d_M_placeWithoutImage_12 : decode b_M_placeWithoutImage 12 = .ok (.iload_n 2, 1) := by decide +kernel
theorem d_M_placeWithoutImage_13 : decode b_M_placeWithoutImage 13 = .ok (.invokevirtual 76, 3) := by decide +kernel
theorem d_M_placeWithoutImage_16 : decode b_M_placeWithoutImage 16 = .ok (.istore_n 3, 1) := by decide +kernel
theorem d_M_placeWithoutImage_17 : decode b_M_placeWithoutImage 17 = .ok (.iload_n 3, 1) := by decide +kernel
theorem d_M_placeWithoutImage_18 : decode b_M_placeWithoutImage 18 = .ok (.iconst (-1), 1) := by decide +kernel
theorem d_M_placeWithoutImage_19 : decode b_M_placeWithoutImage 19 = .ok (.if_icmp .eq 14, 3) := by decide +kernel
theorem d_M_placeWithoutImage_22 : decode b_M_placeWithoutImage 22 = .ok (.aload_n 0, 1) := by decide +kernel
theorem d_M_placeWithoutImage_23 : decode b_M_placeWithoutImage 23 = .ok (.iload_n 3, 1) := by decide +kernel
theorem d_M_placeWithoutImage_24 : decode b_M_placeWithoutImage 24 = .ok (.invokevirtual 59, 3) := by decide +kernel
theorem d_M_placeWithoutImage_27 : decode b_M_placeWithoutImage 27 = .ok (.iconst (-1), 1) := by decide +kernel
theorem d_M_placeWithoutImage_28 : decode b_M_placeWithoutImage 28 = .ok (.if_icmp .ne 5, 3) := by decide +kernel
theorem d_M_placeWithoutImage_31 : decode b_M_placeWithoutImage 31 = .ok (.iload_n 3, 1) := by decide +kernel
theorem d_M_placeWithoutImage_32 : decode b_M_placeWithoutImage 32 = .ok (.ireturn, 1) := by decide +kernel
theorem d_M_placeWithoutImage_33 : decode b_M_placeWithoutImage 33 = .ok (.iinc 2 1, 3) := by decide +kernel
theorem d_M_placeWithoutImage_36 : decode b_M_placeWithoutImage 36 = .ok (.goto (-34), 3) := by decide +kernel
theorem d_M_placeWithoutImage_39 : decode b_M_placeWithoutImage 39 = .ok (.iconst (-1), 1) := by decide +kernel
theorem d_M_placeWithoutImage_40 : decode b_M_placeWithoutImage 40 = .ok (.ireturn, 1) := by decide +kernel
abbrev b_M_putImage : ByteArray := prog_4_method_11_code
abbrev y_M_putImage : MethodName := ⟨"ShapeSearch$Matcher", "putImage", "(II)Z"⟩
abbrev ws_M_putImage : List Cond := .code y_M_putImage b_M_putImage 5 (some .boolean) :: BG
theorem hd_M_putImage : y_M_putImage.cls ≠ "java/lang/invoke/MethodHandle" ∧ y_M_putImage.cls ≠ "java/lang/invoke/VarHandle" ∧ (parseMethodDescriptor y_M_putImage.desc).map (fun d => d.parameters.length) = some 2 := by decide +kernel
theorem d_M_putImage_0 : decode b_M_putImage 0 = .ok (.aload_n 0, 1) := by decide +kernel
theorem d_M_putImage_1 : decode b_M_putImage 1 = .ok (.getfield 9, 3) := by decide +kernel
theorem d_M_putImage_4 : decode b_M_putImage 4 = .ok (.iload_n 1, 1) := by decide +kernel
theorem d_M_putImage_5 : decode b_M_putImage 5 = .ok (.invokevirtual 22, 3) := by decide +kernel
theorem d_M_putImage_8 : decode b_M_putImage 8 = .ok (.istore_n 3, 1) := by decide +kernel
theorem d_M_putImage_9 : decode b_M_putImage 9 = .ok (.iload_n 1, 1) := by decide +kernel
theorem d_M_putImage_10 : decode b_M_putImage 10 = .ok (.istore 4, 2) := by decide +kernel
theorem d_M_putImage_12 : decode b_M_putImage 12 = .ok (.iload_n 3, 1) := by decide +kernel
theorem d_M_putImage_13 : decode b_M_putImage 13 = .ok (.bipush 30, 2) := by decide +kernel
theorem d_M_putImage_15 : decode b_M_putImage 15 = .ok (.if_icmp .ge 53, 3) := by decide +kernel
theorem d_M_putImage_18 : decode b_M_putImage 18 = .ok (.aload_n 0, 1) := by decide +kernel
theorem d_M_putImage_19 : decode b_M_putImage 19 = .ok (.getfield 9, 3) := by decide +kernel
theorem d_M_putImage_22 : decode b_M_putImage 22 = .ok (.iload_n 3, 1) := by decide +kernel
theorem d_M_putImage_23 : decode b_M_putImage 23 = .ok (.aload_n 0, 1) := by decide +kernel
theorem d_M_putImage_24 : decode b_M_putImage 24 = .ok (.aload_n 0, 1) := by decide +kernel
theorem d_M_putImage_25 : decode b_M_putImage 25 = .ok (.getfield 9, 3) := by decide +kernel
theorem d_M_putImage_28 : decode b_M_putImage 28 = .ok (.iload_n 1, 1) := by decide +kernel
theorem d_M_putImage_29 : decode b_M_putImage 29 = .ok (.iconst 0, 1) := by decide +kernel
theorem d_M_putImage_30 : decode b_M_putImage 30 = .ok (.invokevirtual 76, 3) := by decide +kernel
theorem d_M_putImage_33 : decode b_M_putImage 33 = .ok (.invokevirtual 59, 3) := by decide +kernel
theorem d_M_putImage_36 : decode b_M_putImage 36 = .ok (.aload_n 0, 1) := by decide +kernel
theorem d_M_putImage_37 : decode b_M_putImage 37 = .ok (.aload_n 0, 1) := by decide +kernel
theorem d_M_putImage_38 : decode b_M_putImage 38 = .ok (.getfield 9, 3) := by decide +kernel
theorem d_M_putImage_41 : decode b_M_putImage 41 = .ok (.iload_n 1, 1) := by decide +kernel
theorem d_M_putImage_42 : decode b_M_putImage 42 = .ok (.iconst 1, 1) := by decide +kernel
theorem d_M_putImage_43 : decode b_M_putImage 43 = .ok (.invokevirtual 76, 3) := by decide +kernel
theorem d_M_putImage_46 : decode b_M_putImage 46 = .ok (.invokevirtual 59, 3) := by decide +kernel
theorem d_M_putImage_49 : decode b_M_putImage 49 = .ok (.aload_n 0, 1) := by decide +kernel
theorem d_M_putImage_50 : decode b_M_putImage 50 = .ok (.aload_n 0, 1) := by decide +kernel
theorem d_M_putImage_51 : decode b_M_putImage 51 = .ok (.getfield 9, 3) := by decide +kernel
theorem d_M_putImage_54 : decode b_M_putImage 54 = .ok (.iload_n 1, 1) := by decide +kernel
theorem d_M_putImage_55 : decode b_M_putImage 55 = .ok (.iconst 2, 1) := by decide +kernel
theorem d_M_putImage_56 : decode b_M_putImage 56 = .ok (.invokevirtual 76, 3) := by decide +kernel
theorem d_M_putImage_59 : decode b_M_putImage 59 = .ok (.invokevirtual 59, 3) := by decide +kernel
theorem d_M_putImage_62 : decode b_M_putImage 62 = .ok (.iload_n 2, 1) := by decide +kernel
theorem d_M_putImage_63 : decode b_M_putImage 63 = .ok (.invokevirtual 79, 3) := by decide +kernel
theorem d_M_putImage_66 : decode b_M_putImage 66 = .ok (.istore 4, 2) := by decide +kernel
theorem d_M_putImage_68 : decode b_M_putImage 68 = .ok (.iload_n 1, 1) := by decide +kernel
theorem d_M_putImage_69 : decode b_M_putImage 69 = .ok (.ifCond .lt 17, 3) := by decide +kernel
theorem d_M_putImage_72 : decode b_M_putImage 72 = .ok (.iload_n 1, 1) := by decide +kernel
theorem d_M_putImage_73 : decode b_M_putImage 73 = .ok (.bipush 100, 2) := by decide +kernel
theorem d_M_putImage_75 : decode b_M_putImage 75 = .ok (.if_icmp .ge 11, 3) := by decide +kernel
theorem d_M_putImage_78 : decode b_M_putImage 78 = .ok (.aload_n 0, 1) := by decide +kernel
theorem d_M_putImage_79 : decode b_M_putImage 79 = .ok (.getfield 15, 3) := by decide +kernel
theorem d_M_putImage_82 : decode b_M_putImage 82 = .ok (.iload_n 1, 1) := by decide +kernel
theorem d_M_putImage_83 : decode b_M_putImage 83 = .ok (.iload 4, 2) := by decide +kernel
theorem d_M_putImage_85 : decode b_M_putImage 85 = .ok (.iastore, 1) := by decide +kernel
theorem d_M_putImage_86 : decode b_M_putImage 86 = .ok (.iload 4, 2) := by decide +kernel
theorem d_M_putImage_88 : decode b_M_putImage 88 = .ok (.iconst (-1), 1) := by decide +kernel
theorem d_M_putImage_89 : decode b_M_putImage 89 = .ok (.if_icmp .eq 7, 3) := by decide +kernel
theorem d_M_putImage_92 : decode b_M_putImage 92 = .ok (.iconst 1, 1) := by decide +kernel
theorem d_M_putImage_93 : decode b_M_putImage 93 = .ok (.goto 4, 3) := by decide +kernel
theorem d_M_putImage_96 : decode b_M_putImage 96 = .ok (.iconst 0, 1) := by decide +kernel
theorem d_M_putImage_97 : decode b_M_putImage 97 = .ok (.ireturn, 1) := by decide +kernel
abbrev b_M_instance : ByteArray := prog_4_method_5_code
abbrev y_M_instance : MethodName := ⟨"ShapeSearch$Matcher", "instance", "(II)I"⟩
abbrev ws_M_instance : List Cond := .code y_M_instance b_M_instance 7 (some .int) :: BG
theorem hd_M_instance : y_M_instance.cls ≠ "java/lang/invoke/MethodHandle" ∧ y_M_instance.cls ≠ "java/lang/invoke/VarHandle" ∧ (parseMethodDescriptor y_M_instance.desc).map (fun d => d.parameters.length) = some 2 := by decide +kernel
theorem d_M_instance_0 : decode b_M_instance 0 = .ok (.iload_n 1, 1) := by decide +kernel
theorem d_M_instance_1 : decode b_M_instance 1 = .ok (.ifCond .lt 19, 3) := by decide +kernel
theorem d_M_instance_4 : decode b_M_instance 4 = .ok (.iload_n 1, 1) := by decide +kernel
theorem d_M_instance_5 : decode b_M_instance 5 = .ok (.bipush 100, 2) := by decide +kernel
theorem d_M_instance_7 : decode b_M_instance 7 = .ok (.if_icmp .ge 13, 3) := by decide +kernel
theorem d_M_instance_10 : decode b_M_instance 10 = .ok (.aload_n 0, 1) := by decide +kernel
theorem d_M_instance_11 : decode b_M_instance 11 = .ok (.getfield 15, 3) := by decide +kernel
theorem d_M_instance_14 : decode b_M_instance 14 = .ok (.iload_n 1, 1) := by decide +kernel
theorem d_M_instance_15 : decode b_M_instance 15 = .ok (.iaload, 1) := by decide +kernel
theorem d_M_instance_16 : decode b_M_instance 16 = .ok (.iconst (-1), 1) := by decide +kernel
theorem d_M_instance_17 : decode b_M_instance 17 = .ok (.if_icmp .eq 9, 3) := by decide +kernel
theorem d_M_instance_20 : decode b_M_instance 20 = .ok (.aload_n 0, 1) := by decide +kernel
theorem d_M_instance_21 : decode b_M_instance 21 = .ok (.iload_n 1, 1) := by decide +kernel
theorem d_M_instance_22 : decode b_M_instance 22 = .ok (.invokevirtual 59, 3) := by decide +kernel
theorem d_M_instance_25 : decode b_M_instance 25 = .ok (.ireturn, 1) := by decide +kernel
theorem d_M_instance_26 : decode b_M_instance 26 = .ok (.aload_n 0, 1) := by decide +kernel
theorem d_M_instance_27 : decode b_M_instance 27 = .ok (.getfield 19, 3) := by decide +kernel
theorem d_M_instance_30 : decode b_M_instance 30 = .ok (.iconst 0, 1) := by decide +kernel
theorem d_M_instance_31 : decode b_M_instance 31 = .ok (.iload_n 1, 1) := by decide +kernel
theorem d_M_instance_32 : decode b_M_instance 32 = .ok (.iastore, 1) := by decide +kernel
theorem d_M_instance_33 : decode b_M_instance 33 = .ok (.iconst 1, 1) := by decide +kernel
theorem d_M_instance_34 : decode b_M_instance 34 = .ok (.istore_n 3, 1) := by decide +kernel
theorem d_M_instance_35 : decode b_M_instance 35 = .ok (.iconst 0, 1) := by decide +kernel
theorem d_M_instance_36 : decode b_M_instance 36 = .ok (.istore 4, 2) := by decide +kernel
theorem d_M_instance_38 : decode b_M_instance 38 = .ok (.iload 4, 2) := by decide +kernel
theorem d_M_instance_40 : decode b_M_instance 40 = .ok (.sipush 200, 3) := by decide +kernel
theorem d_M_instance_43 : decode b_M_instance 43 = .ok (.if_icmp .ge 75, 3) := by decide +kernel
theorem d_M_instance_46 : decode b_M_instance 46 = .ok (.iload_n 3, 1) := by decide +kernel
theorem d_M_instance_47 : decode b_M_instance 47 = .ok (.ifCond .le 71, 3) := by decide +kernel
theorem d_M_instance_50 : decode b_M_instance 50 = .ok (.aload_n 0, 1) := by decide +kernel
theorem d_M_instance_51 : decode b_M_instance 51 = .ok (.getfield 19, 3) := by decide +kernel
theorem d_M_instance_54 : decode b_M_instance 54 = .ok (.iload_n 3, 1) := by decide +kernel
theorem d_M_instance_55 : decode b_M_instance 55 = .ok (.iconst 1, 1) := by decide +kernel
theorem d_M_instance_56 : decode b_M_instance 56 = .ok (.isub, 1) := by decide +kernel
theorem d_M_instance_57 : decode b_M_instance 57 = .ok (.iaload, 1) := by decide +kernel
theorem d_M_instance_58 : decode b_M_instance 58 = .ok (.istore 5, 2) := by decide +kernel
theorem d_M_instance_60 : decode b_M_instance 60 = .ok (.aload_n 0, 1) := by decide +kernel
theorem d_M_instance_61 : decode b_M_instance 61 = .ok (.iload 5, 2) := by decide +kernel
theorem d_M_instance_63 : decode b_M_instance 63 = .ok (.invokevirtual 62, 3) := by decide +kernel
theorem d_M_instance_66 : decode b_M_instance 66 = .ok (.istore 6, 2) := by decide +kernel
theorem d_M_instance_68 : decode b_M_instance 68 = .ok (.iload 6, 2) := by decide +kernel
theorem d_M_instance_70 : decode b_M_instance 70 = .ok (.iconst (-1), 1) := by decide +kernel
theorem d_M_instance_71 : decode b_M_instance 71 = .ok (.if_icmp .eq 23, 3) := by decide +kernel
theorem d_M_instance_74 : decode b_M_instance 74 = .ok (.iload_n 3, 1) := by decide +kernel
theorem d_M_instance_75 : decode b_M_instance 75 = .ok (.bipush 100, 2) := by decide +kernel
theorem d_M_instance_77 : decode b_M_instance 77 = .ok (.if_icmp .ge 17, 3) := by decide +kernel
theorem d_M_instance_80 : decode b_M_instance 80 = .ok (.aload_n 0, 1) := by decide +kernel
theorem d_M_instance_81 : decode b_M_instance 81 = .ok (.getfield 19, 3) := by decide +kernel
theorem d_M_instance_84 : decode b_M_instance 84 = .ok (.iload_n 3, 1) := by decide +kernel
theorem d_M_instance_85 : decode b_M_instance 85 = .ok (.iload 6, 2) := by decide +kernel
theorem d_M_instance_87 : decode b_M_instance 87 = .ok (.iastore, 1) := by decide +kernel
theorem d_M_instance_88 : decode b_M_instance 88 = .ok (.iinc 3 1, 3) := by decide +kernel
theorem d_M_instance_91 : decode b_M_instance 91 = .ok (.goto 21, 3) := by decide +kernel
theorem d_M_instance_94 : decode b_M_instance 94 = .ok (.aload_n 0, 1) := by decide +kernel
theorem d_M_instance_95 : decode b_M_instance 95 = .ok (.iload 5, 2) := by decide +kernel
theorem d_M_instance_97 : decode b_M_instance 97 = .ok (.iload_n 2, 1) := by decide +kernel
theorem d_M_instance_98 : decode b_M_instance 98 = .ok (.invokevirtual 65, 3) := by decide +kernel
theorem d_M_instance_101 : decode b_M_instance 101 = .ok (.ifCond .eq 9, 3) := by decide +kernel
theorem d_M_instance_104 : decode b_M_instance 104 = .ok (.iinc 3 (-1), 3) := by decide +kernel
theorem d_M_instance_107 : decode b_M_instance 107 = .ok (.goto 5, 3) := by decide +kernel
theorem d_M_instance_110 : decode b_M_instance 110 = .ok (.iconst (-1), 1) := by decide +kernel
theorem d_M_instance_111 : decode b_M_instance 111 = .ok (.ireturn, 1) := by decide +kernel
theorem d_M_instance_112 : decode b_M_instance 112 = .ok (.iinc 4 1, 3) := by decide +kernel
theorem d_M_instance_115 : decode b_M_instance 115 = .ok (.goto (-77), 3) := by decide +kernel
theorem d_M_instance_118 : decode b_M_instance 118 = .ok (.aload_n 0, 1) := by decide +kernel
theorem d_M_instance_119 : decode b_M_instance 119 = .ok (.getfield 15, 3) := by decide +kernel
theorem d_M_instance_122 : decode b_M_instance 122 = .ok (.iload_n 1, 1) := by decide +kernel
theorem d_M_instance_123 : decode b_M_instance 123 = .ok (.iaload, 1) := by decide +kernel
theorem d_M_instance_124 : decode b_M_instance 124 = .ok (.ireturn, 1) := by decide +kernel
theorem k1_91 : Cond.fieldLink "ShapeSearch$Matcher" 15 "ShapeSearch$Matcher" "images" "[I" ∈ BG := List.mem_filter.mpr ⟨in_1 (List.mem_of_getElem? (i := 91) rfl), rfl⟩
theorem k1_90 : Cond.fieldLink "ShapeSearch$Matcher" 9 "ShapeSearch$Matcher" "terms" "LShapeSearch$Terms;" ∈ BG := List.mem_filter.mpr ⟨in_1 (List.mem_of_getElem? (i := 90) rfl), rfl⟩
theorem k2_76 : Cond.methodLink "ShapeSearch$Matcher" 72 ⟨"ShapeSearch$Terms", "holds", "(IJ)Z"⟩ ∈ BG := List.mem_filter.mpr ⟨in_2 (List.mem_of_getElem? (i := 76) rfl), rfl⟩
theorem k2_79 : Cond.code ⟨"ShapeSearch$Terms", "holds", "(IJ)Z"⟩ prog_7_method_8_code 4 (some .boolean) ∈ BG := List.mem_filter.mpr ⟨in_2 (List.mem_of_getElem? (i := 79) rfl), rfl⟩
theorem k2_77 : Cond.instanceMethod ⟨"ShapeSearch$Terms", "holds", "(IJ)Z"⟩ ∈ BG := List.mem_filter.mpr ⟨in_2 (List.mem_of_getElem? (i := 77) rfl), rfl⟩
theorem k2_78 : Cond.selects "ShapeSearch$Terms" ⟨"ShapeSearch$Terms", "holds", "(IJ)Z"⟩ ⟨"ShapeSearch$Terms", "holds", "(IJ)Z"⟩ ∈ BG := List.mem_filter.mpr ⟨in_2 (List.mem_of_getElem? (i := 78) rfl), rfl⟩
theorem k2_62 : Cond.methodLink "ShapeSearch$Matcher" 22 ⟨"ShapeSearch$Terms", "head", "(I)I"⟩ ∈ BG := List.mem_filter.mpr ⟨in_2 (List.mem_of_getElem? (i := 62) rfl), rfl⟩
theorem k1_239 : Cond.code ⟨"ShapeSearch$Terms", "head", "(I)I"⟩ prog_7_method_4_code 2 (some .int) ∈ BG := List.mem_filter.mpr ⟨in_1 (List.mem_of_getElem? (i := 239) rfl), rfl⟩
theorem k1_237 : Cond.instanceMethod ⟨"ShapeSearch$Terms", "head", "(I)I"⟩ ∈ BG := List.mem_filter.mpr ⟨in_1 (List.mem_of_getElem? (i := 237) rfl), rfl⟩
theorem k1_238 : Cond.selects "ShapeSearch$Terms" ⟨"ShapeSearch$Terms", "head", "(I)I"⟩ ⟨"ShapeSearch$Terms", "head", "(I)I"⟩ ∈ BG := List.mem_filter.mpr ⟨in_1 (List.mem_of_getElem? (i := 238) rfl), rfl⟩
theorem k2_80 : Cond.methodLink "ShapeSearch$Matcher" 76 ⟨"ShapeSearch$Terms", "place", "(II)I"⟩ ∈ BG := List.mem_filter.mpr ⟨in_2 (List.mem_of_getElem? (i := 80) rfl), rfl⟩
theorem k2_64 : Cond.methodLink "ShapeSearch$Matcher" 34 ⟨"ShapeSearch$Matcher", "pair", "(II)Z"⟩ ∈ BG := List.mem_filter.mpr ⟨in_2 (List.mem_of_getElem? (i := 64) rfl), rfl⟩
theorem k2_67 : Cond.code ⟨"ShapeSearch$Matcher", "pair", "(II)Z"⟩ prog_4_method_7_code 3 (some .boolean) ∈ BG := List.mem_filter.mpr ⟨in_2 (List.mem_of_getElem? (i := 67) rfl), rfl⟩
theorem k1_5 : Cond.initialized "ShapeSearch$Matcher" ∈ BG := List.mem_filter.mpr ⟨in_1 (List.mem_of_getElem? (i := 5) rfl), rfl⟩
theorem k2_66 : Cond.instanceMethod ⟨"ShapeSearch$Matcher", "pair", "(II)Z"⟩ ∈ BG := List.mem_filter.mpr ⟨in_2 (List.mem_of_getElem? (i := 66) rfl), rfl⟩
theorem k2_72 : Cond.methodLink "ShapeSearch$Matcher" 68 ⟨"ShapeSearch$Matcher", "agrees", "(IIJ)Z"⟩ ∈ BG := List.mem_filter.mpr ⟨in_2 (List.mem_of_getElem? (i := 72) rfl), rfl⟩
theorem k2_75 : Cond.code ⟨"ShapeSearch$Matcher", "agrees", "(IIJ)Z"⟩ prog_4_method_9_code 8 (some .boolean) ∈ BG := List.mem_filter.mpr ⟨in_2 (List.mem_of_getElem? (i := 75) rfl), rfl⟩
theorem k2_74 : Cond.instanceMethod ⟨"ShapeSearch$Matcher", "agrees", "(IIJ)Z"⟩ ∈ BG := List.mem_filter.mpr ⟨in_2 (List.mem_of_getElem? (i := 74) rfl), rfl⟩
theorem k2_63 : Cond.methodLink "ShapeSearch$Matcher" 28 ⟨"java/util/Arrays", "fill", "([II)V"⟩ ∈ BG := List.mem_filter.mpr ⟨in_2 (List.mem_of_getElem? (i := 63) rfl), rfl⟩
theorem k1_36 : Cond.code ⟨"java/util/Arrays", "fill", "([II)V"⟩ prog_22_method_103_code 4 (none : Option Jvm.ClassFile.FieldType) ∈ BG := List.mem_filter.mpr ⟨in_1 (List.mem_of_getElem? (i := 36) rfl), rfl⟩
theorem k1_3 : Cond.initialized "java/util/Arrays" ∈ BG := List.mem_filter.mpr ⟨in_1 (List.mem_of_getElem? (i := 3) rfl), rfl⟩
theorem k1_35 : Cond.static ⟨"java/util/Arrays", "fill", "([II)V"⟩ ∈ BG := List.mem_filter.mpr ⟨in_1 (List.mem_of_getElem? (i := 35) rfl), rfl⟩
theorem k2_68 : Cond.methodLink "ShapeSearch$Matcher" 38 ⟨"ShapeSearch$Matcher", "settle", "(J)Z"⟩ ∈ BG := List.mem_filter.mpr ⟨in_2 (List.mem_of_getElem? (i := 68) rfl), rfl⟩
theorem k2_71 : Cond.code ⟨"ShapeSearch$Matcher", "settle", "(J)Z"⟩ prog_4_method_8_code 4 (some .boolean) ∈ BG := List.mem_filter.mpr ⟨in_2 (List.mem_of_getElem? (i := 71) rfl), rfl⟩
theorem k2_70 : Cond.instanceMethod ⟨"ShapeSearch$Matcher", "settle", "(J)Z"⟩ ∈ BG := List.mem_filter.mpr ⟨in_2 (List.mem_of_getElem? (i := 70) rfl), rfl⟩
theorem k3_202 : Cond.methodLink "ShapeSearch$Matcher" 42 ⟨"ShapeSearch$Statements", "premises", "(I)I"⟩ ∈ BG := List.mem_filter.mpr ⟨in_3 (List.mem_of_getElem? (i := 202) rfl), rfl⟩
theorem k3_203 : Cond.methodLink "ShapeSearch$Matcher" 47 ⟨"ShapeSearch$Statements", "conclusion", "(I)I"⟩ ∈ BG := List.mem_filter.mpr ⟨in_3 (List.mem_of_getElem? (i := 203) rfl), rfl⟩
theorem k3_204 : Cond.methodLink "ShapeSearch$Matcher" 50 ⟨"ShapeSearch$Statements", "premise", "(II)I"⟩ ∈ BG := List.mem_filter.mpr ⟨in_3 (List.mem_of_getElem? (i := 204) rfl), rfl⟩
theorem k3_205 : Cond.constantLong "ShapeSearch$Matcher" 54 273804165120 ∈ BG := List.mem_filter.mpr ⟨in_3 (List.mem_of_getElem? (i := 205) rfl), rfl⟩
theorem k2_85 : Cond.methodLink "ShapeSearch$Matcher" 56 ⟨"ShapeSearch$Terms", "seekLeaf", "(I)I"⟩ ∈ BG := List.mem_filter.mpr ⟨in_2 (List.mem_of_getElem? (i := 85) rfl), rfl⟩
theorem k2_88 : Cond.code ⟨"ShapeSearch$Terms", "seekLeaf", "(I)I"⟩ prog_7_method_9_code 2 (some .int) ∈ BG := List.mem_filter.mpr ⟨in_2 (List.mem_of_getElem? (i := 88) rfl), rfl⟩
theorem k2_86 : Cond.instanceMethod ⟨"ShapeSearch$Terms", "seekLeaf", "(I)I"⟩ ∈ BG := List.mem_filter.mpr ⟨in_2 (List.mem_of_getElem? (i := 86) rfl), rfl⟩
theorem k2_87 : Cond.selects "ShapeSearch$Terms" ⟨"ShapeSearch$Terms", "seekLeaf", "(I)I"⟩ ⟨"ShapeSearch$Terms", "seekLeaf", "(I)I"⟩ ∈ BG := List.mem_filter.mpr ⟨in_2 (List.mem_of_getElem? (i := 87) rfl), rfl⟩
theorem k2_96 : Cond.methodLink "ShapeSearch$Matcher" 59 ⟨"ShapeSearch$Matcher", "image", "(I)I"⟩ ∈ BG := List.mem_filter.mpr ⟨in_2 (List.mem_of_getElem? (i := 96) rfl), rfl⟩
theorem k2_99 : Cond.code ⟨"ShapeSearch$Matcher", "image", "(I)I"⟩ prog_4_method_6_code 2 (some .int) ∈ BG := List.mem_filter.mpr ⟨in_2 (List.mem_of_getElem? (i := 99) rfl), rfl⟩
theorem k2_98 : Cond.instanceMethod ⟨"ShapeSearch$Matcher", "image", "(I)I"⟩ ∈ BG := List.mem_filter.mpr ⟨in_2 (List.mem_of_getElem? (i := 98) rfl), rfl⟩
theorem k3_188 : Cond.methodLink "ShapeSearch$Matcher" 79 ⟨"ShapeSearch$Terms", "make", "(IIIII)I"⟩ ∈ BG := List.mem_filter.mpr ⟨in_3 (List.mem_of_getElem? (i := 188) rfl), rfl⟩
theorem k3_2 : Cond.code ⟨"ShapeSearch$Terms", "make", "(IIIII)I"⟩ prog_7_method_10_code 9 (some .int) ∈ BG := List.mem_filter.mpr ⟨in_3 (List.mem_of_getElem? (i := 2) rfl), rfl⟩
theorem k3_0 : Cond.instanceMethod ⟨"ShapeSearch$Terms", "make", "(IIIII)I"⟩ ∈ BG := List.mem_filter.mpr ⟨in_3 (List.mem_of_getElem? (i := 0) rfl), rfl⟩
theorem k3_1 : Cond.selects "ShapeSearch$Terms" ⟨"ShapeSearch$Terms", "make", "(IIIII)I"⟩ ⟨"ShapeSearch$Terms", "make", "(IIIII)I"⟩ ∈ BG := List.mem_filter.mpr ⟨in_3 (List.mem_of_getElem? (i := 1) rfl), rfl⟩
theorem k1_92 : Cond.fieldLink "ShapeSearch$Matcher" 19 "ShapeSearch$Matcher" "path" "[I" ∈ BG := List.mem_filter.mpr ⟨in_1 (List.mem_of_getElem? (i := 92) rfl), rfl⟩
theorem k3_180 : Cond.methodLink "ShapeSearch$Matcher" 62 ⟨"ShapeSearch$Matcher", "placeWithoutImage", "(I)I"⟩ ∈ BG := List.mem_filter.mpr ⟨in_3 (List.mem_of_getElem? (i := 180) rfl), rfl⟩
theorem k3_183 : Cond.code ⟨"ShapeSearch$Matcher", "placeWithoutImage", "(I)I"⟩ prog_4_method_10_code 4 (some .int) ∈ BG := List.mem_filter.mpr ⟨in_3 (List.mem_of_getElem? (i := 183) rfl), rfl⟩
theorem k3_182 : Cond.instanceMethod ⟨"ShapeSearch$Matcher", "placeWithoutImage", "(I)I"⟩ ∈ BG := List.mem_filter.mpr ⟨in_3 (List.mem_of_getElem? (i := 182) rfl), rfl⟩
theorem k3_184 : Cond.methodLink "ShapeSearch$Matcher" 65 ⟨"ShapeSearch$Matcher", "putImage", "(II)Z"⟩ ∈ BG := List.mem_filter.mpr ⟨in_3 (List.mem_of_getElem? (i := 184) rfl), rfl⟩
theorem k3_187 : Cond.code ⟨"ShapeSearch$Matcher", "putImage", "(II)Z"⟩ prog_4_method_11_code 5 (some .boolean) ∈ BG := List.mem_filter.mpr ⟨in_3 (List.mem_of_getElem? (i := 187) rfl), rfl⟩
theorem k3_186 : Cond.instanceMethod ⟨"ShapeSearch$Matcher", "putImage", "(II)Z"⟩ ∈ BG := List.mem_filter.mpr ⟨in_3 (List.mem_of_getElem? (i := 186) rfl), rfl⟩
abbrev wv_18 (cI cJ cZ : ClassId) (aT aM aM_images aM_path : Nat) (M_images : (Nat → Int32)) : va_W := [(aM, .inr (3, [.ref aT, .ref aM_images, .ref aM_path])), (aM_images, .inl (cI, 100, .inl M_images))]
abbrev wv_19 (cI cJ cZ : ClassId) (aT aT_heads aT_places aT_olders aT_sizes aT_withins aT_newest aM aM_images aM_path : Nat) (T_count : Int32) (nT_heads : Nat) (T_heads : (Nat → Int32)) (nT_places : Nat) (T_places : (Nat → Int32)) (nT_withins : Nat) (T_withins : (Nat → Int64)) (M_images : (Nat → Int32)) : va_W := [(aT, .inr (1, [.ref aT_heads, .ref aT_places, .ref aT_olders, .ref aT_sizes, .ref aT_withins, .ref aT_newest, .int T_count])), (aT_heads, .inl (cI, nT_heads, .inl T_heads)), (aT_places, .inl (cI, nT_places, .inl T_places)), (aT_withins, .inl (cJ, nT_withins, .inr (.inl T_withins))), (aM, .inr (3, [.ref aT, .ref aM_images, .ref aM_path])), (aM_images, .inl (cI, 100, .inl M_images))]
abbrev wv_20 (cI cJ cZ : ClassId) (aT aT_heads aT_places aT_olders aT_sizes aT_withins aT_newest aS aS_premises aS_premiseCounts aS_conclusions aS_order aM aM_images aM_path : Nat) (T_count : Int32) (nT_heads : Nat) (T_heads : (Nat → Int32)) (nT_places : Nat) (T_places : (Nat → Int32)) (nT_withins : Nat) (T_withins : (Nat → Int64)) (S_count : Int32) (S_premises : (Nat → Int32)) (S_premiseCounts : (Nat → Int32)) (S_conclusions : (Nat → Int32)) (M_images : (Nat → Int32)) : va_W := [(aT, .inr (1, [.ref aT_heads, .ref aT_places, .ref aT_olders, .ref aT_sizes, .ref aT_withins, .ref aT_newest, .int T_count])), (aT_heads, .inl (cI, nT_heads, .inl T_heads)), (aT_places, .inl (cI, nT_places, .inl T_places)), (aT_withins, .inl (cJ, nT_withins, .inr (.inl T_withins))), (aS, .inr (2, [.ref aS_premises, .ref aS_premiseCounts, .ref aS_conclusions, .ref aS_order, .int S_count])), (aS_premises, .inl (cI, 120, .inl S_premises)), (aS_premiseCounts, .inl (cI, 30, .inl S_premiseCounts)), (aS_conclusions, .inl (cI, 30, .inl S_conclusions)), (aM, .inr (3, [.ref aT, .ref aM_images, .ref aM_path])), (aM_images, .inl (cI, 100, .inl M_images))]
abbrev wv_21 (cI cJ cZ : ClassId) (aT aT_heads aT_places aT_olders aT_sizes aT_withins aT_newest aM aM_images aM_path : Nat) (T_count : Int32) (nT_heads : Nat) (T_heads : (Nat → Int32)) (nT_places : Nat) (T_places : (Nat → Int32)) (nT_olders : Nat) (T_olders : (Nat → Int32)) (T_newest : (Nat → Int32)) (M_images : (Nat → Int32)) : va_W := [(aT, .inr (1, [.ref aT_heads, .ref aT_places, .ref aT_olders, .ref aT_sizes, .ref aT_withins, .ref aT_newest, .int T_count])), (aT_heads, .inl (cI, nT_heads, .inl T_heads)), (aT_places, .inl (cI, nT_places, .inl T_places)), (aT_olders, .inl (cI, nT_olders, .inl T_olders)), (aT_newest, .inl (cI, 256, .inl T_newest)), (aM, .inr (3, [.ref aT, .ref aM_images, .ref aM_path])), (aM_images, .inl (cI, 100, .inl M_images))]
abbrev wv_22 (cI cJ cZ : ClassId) (aT aT_heads aT_places aT_olders aT_sizes aT_withins aT_newest aM aM_images aM_path : Nat) (T_count : Int32) (nT_places : Nat) (T_places : (Nat → Int32)) (M_images : (Nat → Int32)) : va_W := [(aT, .inr (1, [.ref aT_heads, .ref aT_places, .ref aT_olders, .ref aT_sizes, .ref aT_withins, .ref aT_newest, .int T_count])), (aT_places, .inl (cI, nT_places, .inl T_places)), (aM, .inr (3, [.ref aT, .ref aM_images, .ref aM_path])), (aM_images, .inl (cI, 100, .inl M_images))]
abbrev wv_23 (cI cJ cZ : ClassId) (aT aT_heads aT_places aT_olders aT_sizes aT_withins aT_newest aM aM_images aM_path : Nat) (T_count : Int32) (nT_heads : Nat) (T_heads : (Nat → Int32)) (nT_places : Nat) (T_places : (Nat → Int32)) (nT_olders : Nat) (T_olders : (Nat → Int32)) (nT_sizes : Nat) (T_sizes : (Nat → Int32)) (nT_withins : Nat) (T_withins : (Nat → Int64)) (T_newest : (Nat → Int32)) (M_images : (Nat → Int32)) : va_W := [(aT, .inr (1, [.ref aT_heads, .ref aT_places, .ref aT_olders, .ref aT_sizes, .ref aT_withins, .ref aT_newest, .int T_count])), (aT_heads, .inl (cI, nT_heads, .inl T_heads)), (aT_places, .inl (cI, nT_places, .inl T_places)), (aT_olders, .inl (cI, nT_olders, .inl T_olders)), (aT_sizes, .inl (cI, nT_sizes, .inl T_sizes)), (aT_withins, .inl (cJ, nT_withins, .inr (.inl T_withins))), (aT_newest, .inl (cI, 256, .inl T_newest)), (aM, .inr (3, [.ref aT, .ref aM_images, .ref aM_path])), (aM_images, .inl (cI, 100, .inl M_images))]
abbrev wv_24 (cI cJ cZ : ClassId) (aT aT_heads aT_places aT_olders aT_sizes aT_withins aT_newest aM aM_images aM_path : Nat) (T_count : Int32) (nT_heads : Nat) (T_heads : (Nat → Int32)) (nT_places : Nat) (T_places : (Nat → Int32)) (nT_olders : Nat) (T_olders : (Nat → Int32)) (nT_sizes : Nat) (T_sizes : (Nat → Int32)) (nT_withins : Nat) (T_withins : (Nat → Int64)) (T_newest : (Nat → Int32)) (M_images : (Nat → Int32)) (M_path : (Nat → Int32)) : va_W := [(aT, .inr (1, [.ref aT_heads, .ref aT_places, .ref aT_olders, .ref aT_sizes, .ref aT_withins, .ref aT_newest, .int T_count])), (aT_heads, .inl (cI, nT_heads, .inl T_heads)), (aT_places, .inl (cI, nT_places, .inl T_places)), (aT_olders, .inl (cI, nT_olders, .inl T_olders)), (aT_sizes, .inl (cI, nT_sizes, .inl T_sizes)), (aT_withins, .inl (cJ, nT_withins, .inr (.inl T_withins))), (aT_newest, .inl (cI, 256, .inl T_newest)), (aM, .inr (3, [.ref aT, .ref aM_images, .ref aM_path])), (aM_images, .inl (cI, 100, .inl M_images)), (aM_path, .inl (cI, 100, .inl M_path))]
def f_M_image (M_images : (Nat → Int32)) (p0 : Int32) : Option (Int32) :=
  if p0 < 0 then
    some (-1 : Int32)
  else
    if (100 : Int32) ≤ p0 then
      some (-1 : Int32)
    else
      gd (ixb p0 100) <|
      some (M_images p0.toNatClampNeg)
abbrev rm_M_image : Room := { frames := 0, cells := 0, slots := 0, locals := 0 }
set_option maxHeartbeats 4000000 in
set_option maxRecDepth 100000 in
theorem c_M_image (l : Launch) (D : va_G) (cI cJ cZ : ClassId) (aT aM aM_images aM_path : Nat) (M_images : (Nat → Int32)) (p0 : Int32) (o : Int32) (hf : f_M_image M_images p0 = some o) : Met l y_M_image (ws_M_image) rm_M_image (RPc D vwCl cI cJ cZ [.ref aM, .int p0] (wv_18 cI cJ cZ aT aM aM_images aM_path M_images)) (RQ (some (.int o))) 0 0 (fun _ => False) := by
  refine Met.ofW (cc := b_M_image) (maxL := 2) (ret := (some .int)) (by decide) rfl ?_
  intro p e s m args below meth c s₁ B hml hv
  obtain ⟨rfl, hP, hK⟩ := hv
  have hx := B.exec
  have hb := B.bytes
  have hr := B.returns
  have hts : ∀ w ∈ BG, w.before _ s = true := fun w h => atoms_spec (ws := (ws_M_image)) B.pre w (List.mem_cons_of_mem _ h)
  have hown : s.vm.findClass RR_M = some m.cls := findClass_of_methodNamed B.named
  have hlocks := B.notSynchronized
  have hl := lv_entry ([.ref aM, .int p0]) (n := 2) (Nat.le_of_ble_eq_true rfl)
  rw [lg_entry_eq]
  generalize (lg_sl ([.ref aM, .int p0]) ++ List.replicate (2 - (lg_sl ([.ref aM, .int p0])).length) Slot.unset).toArray = ls at hl ⊢
  have hl : lv_has ls 2 [(0, .ref aM), (1, .int p0)] := hl
  rw [f_M_image] at hf
  refine lv_iload_n hx hb d_M_image_0 rfl (lv_at hl 1 rfl) ?_
  refine lv_if_lt (tgt := 19) hx hb d_M_image_1 (by decide) (fun c1 => ?_) (fun c1 => ?_)
  · have hf := ite_t c1 hf
    refine lv_iconst (v := -1) hx hb d_M_image_19 (by decide) ?_
    obtain rfl := Option.some.inj hf
    exact W.iret (v := (-1 : Int32)) hx hb hr (fun t ht hW => ⟨rfl, ht⟩) (fun q h => by cases h) d_M_image_20
  · have hf := ite_f c1 hf
    refine lv_iload_n hx hb d_M_image_4 rfl (lv_at hl 1 rfl) ?_
    refine lv_bipush (v := 100) hx hb d_M_image_5 (by decide) ?_
    refine lv_icmp_ge (tgt := 19) hx hb d_M_image_7 (by decide) (fun c2 => ?_) (fun c2 => ?_)
    · have hf := ite_t c2 hf
      refine lv_iconst (v := -1) hx hb d_M_image_19 (by decide) ?_
      obtain rfl := Option.some.inj hf
      exact W.iret (v := (-1 : Int32)) hx hb hr (fun t ht hW => ⟨rfl, ht⟩) (fun q h => by cases h) d_M_image_20
    · have hf := ite_f c2 hf
      refine lv_aload_n hx hb d_M_image_10 rfl (lv_at hl 0 rfl) ?_
      refine va_get (D := D) (ci := 3) (v := .ref aM_images) (C := RR_M) (T := FF_M) (N := 3) hx hb hts kin_M hown hK.1 hP 0 rfl rfl 1 (by decide) (hts _ k1_91) (fun _ h9 => h9) rfl d_M_image_11 ?_
      refine lv_iload_n hx hb d_M_image_14 rfl (lv_at hl 1 rfl) ?_
      obtain ⟨h3, hf⟩ := of_gd hf
      refine va_iald hx hb hK.1 hP 1 0 rfl rfl (ixb_in h3) d_M_image_15 ?_
      refine lv_goto (tgt := 20) hx hb d_M_image_16 (by decide) ?_
      obtain rfl := Option.some.inj hf
      exact W.iret (v := M_images p0.toNatClampNeg) hx hb hr (fun t ht hW => ⟨rfl, ht⟩) (fun q h => by cases h) d_M_image_20
def f_M_pair_B34 (M_images_34 : (Nat → Int32)) (x1_34 : Int32) (x2_34 : Int32) : Option (Int32 × (Nat → Int32)) :=
  gd (ixb x1_34 100) <|
  if (M_images_34 x1_34.toNatClampNeg) = x2_34 then
    some ((1 : Int32), M_images_34)
  else
    some ((0 : Int32), M_images_34)
def f_M_pair (M_images : (Nat → Int32)) (p0 : Int32) (p1 : Int32) : Option (Int32 × (Nat → Int32)) :=
  if p0 < 0 then
    some ((0 : Int32), M_images)
  else
    if (100 : Int32) ≤ p0 then
      some ((0 : Int32), M_images)
    else
      if p1 = (-1 : Int32) then
        some ((0 : Int32), M_images)
      else
        gd (ixb p0 100) <|
        if (M_images p0.toNatClampNeg) = (-1 : Int32) then
          gd (ixb p0 100) <| nm (upd M_images p0.toNatClampNeg p1) fun g7 =>
          f_M_pair_B34 g7 p0 p1
        else
          f_M_pair_B34 M_images p0 p1
abbrev rm_M_pair : Room := { frames := 0, cells := 0, slots := 0, locals := 0 }
set_option maxHeartbeats 4000000 in
set_option maxRecDepth 100000 in
theorem c_M_pair (l : Launch) (D : va_G) (cI cJ cZ : ClassId) (aT aM aM_images aM_path : Nat) (sz : Nat) (M_images : (Nat → Int32)) (p0 : Int32) (p1 : Int32) (o : Int32 × (Nat → Int32)) (hf : f_M_pair M_images p0 p1 = some o) : Met l y_M_pair (ws_M_pair) rm_M_pair (WPc D vwCl cI cJ cZ [.ref aM, .int p0, .int p1] (wv_18 cI cJ cZ aT aM aM_images aM_path M_images) sz) (WQ D vwCl (some (.int o.1)) (wv_18 cI cJ cZ aT aM aM_images aM_path o.2) (va_A (wv_18 cI cJ cZ aT aM aM_images aM_path M_images) sz)) 0 0 (va_A (wv_18 cI cJ cZ aT aM aM_images aM_path M_images) sz) := by
  refine Met.ofW (cc := b_M_pair) (maxL := 3) (ret := (some .boolean)) (by decide) rfl ?_
  intro p e s m args below meth c s₁ B hml hv
  obtain ⟨rfl, rfl, hP, hK, hD0⟩ := hv
  have hx := B.exec
  have hb := B.bytes
  have hr := B.returns
  have hts : ∀ w ∈ BG, w.before _ s = true := fun w h => atoms_spec (ws := (ws_M_pair)) B.pre w (List.mem_cons_of_mem _ h)
  have hown : s.vm.findClass RR_M = some m.cls := findClass_of_methodNamed B.named
  have hlocks := B.notSynchronized
  have hD := hD0.self (sz := s.heap.size)
  have hA : ∀ q : Nat, s.heap.size ≤ q → va_A (wv_18 cI cJ cZ aT aM aM_images aM_path M_images) s.heap.size q := fun q h => Or.inr h
  have hS : va_S (va_A (wv_18 cI cJ cZ aT aM aM_images aM_path M_images) s.heap.size) s.heap s.heap [] := va_S.rf
  generalize va_A (wv_18 cI cJ cZ aT aM aM_images aM_path M_images) s.heap.size = A at hD hA hS ⊢
  have hl := lv_entry ([.ref aM, .int p0, .int p1]) (n := 3) (Nat.le_of_ble_eq_true rfl)
  rw [lg_entry_eq]
  generalize (lg_sl ([.ref aM, .int p0, .int p1]) ++ List.replicate (3 - (lg_sl ([.ref aM, .int p0, .int p1])).length) Slot.unset).toArray = ls at hl ⊢
  have hl : lv_has ls 3 [(0, .ref aM), (1, .int p0), (2, .int p1)] := hl
  have hB34 : ∀ (M_images_34 : (Nat → Int32)) (x1_34 : Int32) (x2_34 : Int32), ∀ (H : Heap) (locs : List Loc), va_P D vwCl (wv_18 cI cJ cZ aT aM aM_images aM_path M_images_34) H → va_D A (wv_18 cI cJ cZ aT aM aM_images aM_path M_images_34) → va_S A s.heap H locs → ∀ (ls : Array Slot), lv_has ls 3 [(0, .ref aM), (1, .int x1_34), (2, .int x2_34)] → f_M_pair_B34 M_images_34 x1_34 x2_34 = some o → W p l e (headSpec (ws_M_pair) rm_M_pair).room s m ([.ref aM, .int p0, .int p1] : List Value).toArray below meth c H locs 0 0 (MQ below (WQ D vwCl (some (.int o.1)) (wv_18 cI cJ cZ aT aM aM_images aM_path o.2) A) ([.ref aM, .int p0, .int p1] : List Value).toArray s 0 0 A) (F0 m 34 ls []) := by
    intro M_images_34 x1_34 x2_34 H locs hP hD hS ls hl hf
    rw [f_M_pair_B34] at hf
    refine lv_aload_n hx hb d_M_pair_34 rfl (lv_at hl 0 rfl) ?_
    refine va_get (D := D) (ci := 3) (v := .ref aM_images) (C := RR_M) (T := FF_M) (N := 3) hx hb hts kin_M hown hK.1 hP 0 rfl rfl 1 (by decide) (hts _ k1_91) (fun _ h9 => h9) rfl d_M_pair_35 ?_
    refine lv_iload_n hx hb d_M_pair_38 rfl (lv_at hl 1 rfl) ?_
    obtain ⟨h8, hf⟩ := of_gd hf
    refine va_iald hx hb hK.1 hP 1 0 rfl rfl (ixb_in h8) d_M_pair_39 ?_
    refine lv_iload_n hx hb d_M_pair_40 rfl (lv_at hl 2 rfl) ?_
    refine lv_icmp_ne (tgt := 48) hx hb d_M_pair_41 (by decide) (fun c9 => ?_) (fun c9 => ?_)
    · have hf := ite_f c9 hf
      refine lv_iconst (v := 0) hx hb d_M_pair_48 (by decide) ?_
      obtain rfl := Option.some.inj hf
      exact W.zret (v := (0 : Int32)) hx hb hr rfl (fun t ht hW => ⟨rfl, by rw [ht]; exact hP, hD, hS.F ht⟩) hS.2.2 d_M_pair_49
    · have hf := ite_t c9 hf
      refine lv_iconst (v := 1) hx hb d_M_pair_44 (by decide) ?_
      refine lv_goto (tgt := 49) hx hb d_M_pair_45 (by decide) ?_
      obtain rfl := Option.some.inj hf
      exact W.zret (v := (1 : Int32)) hx hb hr rfl (fun t ht hW => ⟨rfl, by rw [ht]; exact hP, hD, hS.F ht⟩) hS.2.2 d_M_pair_49
  rw [f_M_pair] at hf
  refine lv_iload_n hx hb d_M_pair_0 rfl (lv_at hl 1 rfl) ?_
  refine lv_if_lt (tgt := 15) hx hb d_M_pair_1 (by decide) (fun c1 => ?_) (fun c1 => ?_)
  · have hf := ite_t c1 hf
    refine lv_iconst (v := 0) hx hb d_M_pair_15 (by decide) ?_
    obtain rfl := Option.some.inj hf
    exact W.zret (v := (0 : Int32)) hx hb hr rfl (fun t ht hW => ⟨rfl, by rw [ht]; exact hP, hD, hS.F ht⟩) hS.2.2 d_M_pair_16
  · have hf := ite_f c1 hf
    refine lv_iload_n hx hb d_M_pair_4 rfl (lv_at hl 1 rfl) ?_
    refine lv_bipush (v := 100) hx hb d_M_pair_5 (by decide) ?_
    refine lv_icmp_ge (tgt := 15) hx hb d_M_pair_7 (by decide) (fun c2 => ?_) (fun c2 => ?_)
    · have hf := ite_t c2 hf
      refine lv_iconst (v := 0) hx hb d_M_pair_15 (by decide) ?_
      obtain rfl := Option.some.inj hf
      exact W.zret (v := (0 : Int32)) hx hb hr rfl (fun t ht hW => ⟨rfl, by rw [ht]; exact hP, hD, hS.F ht⟩) hS.2.2 d_M_pair_16
    · have hf := ite_f c2 hf
      refine lv_iload_n hx hb d_M_pair_10 rfl (lv_at hl 2 rfl) ?_
      refine lv_iconst (v := -1) hx hb d_M_pair_11 (by decide) ?_
      refine lv_icmp_ne (tgt := 17) hx hb d_M_pair_12 (by decide) (fun c3 => ?_) (fun c3 => ?_)
      · have hf := ite_f c3 hf
        refine lv_aload_n hx hb d_M_pair_17 rfl (lv_at hl 0 rfl) ?_
        refine va_get (D := D) (ci := 3) (v := .ref aM_images) (C := RR_M) (T := FF_M) (N := 3) hx hb hts kin_M hown hK.1 hP 0 rfl rfl 1 (by decide) (hts _ k1_91) (fun _ h9 => h9) rfl d_M_pair_18 ?_
        refine lv_iload_n hx hb d_M_pair_21 rfl (lv_at hl 1 rfl) ?_
        obtain ⟨h4, hf⟩ := of_gd hf
        refine va_iald hx hb hK.1 hP 1 0 rfl rfl (ixb_in h4) d_M_pair_22 ?_
        refine lv_iconst (v := -1) hx hb d_M_pair_23 (by decide) ?_
        refine lv_icmp_ne (tgt := 34) hx hb d_M_pair_24 (by decide) (fun c5 => ?_) (fun c5 => ?_)
        · have hf := ite_f c5 hf
          exact hB34 _ _ _ _ _ hP hD hS _ (lv_sub hl [0, 1, 2] rfl) hf
        · have hf := ite_t c5 hf
          refine lv_aload_n hx hb d_M_pair_27 rfl (lv_at hl 0 rfl) ?_
          refine va_get (D := D) (ci := 3) (v := .ref aM_images) (C := RR_M) (T := FF_M) (N := 3) hx hb hts kin_M hown hK.1 hP 0 rfl rfl 1 (by decide) (hts _ k1_91) (fun _ h9 => h9) rfl d_M_pair_28 ?_
          refine lv_iload_n hx hb d_M_pair_31 rfl (lv_at hl 1 rfl) ?_
          refine lv_iload_n hx hb d_M_pair_32 rfl (lv_at hl 2 rfl) ?_
          obtain ⟨h6, hf⟩ := of_gd hf
          obtain ⟨g7, eg7⟩ : ∃ y : Nat → Int32, y = upd M_images p0.toNatClampNeg p1 := ⟨_, rfl⟩
          have hf := of_nm eg7 hf
          refine va_iast hx hb hK.1 hP hD hS 1 0 rfl rfl (ixb_in h6) d_M_pair_33 (fun H locs hP hD hS => ?_)
          rw [← eg7] at hP hD
          have hP : va_P D vwCl (wv_18 cI cJ cZ aT aM aM_images aM_path g7) H := hP
          have hD : va_D A (wv_18 cI cJ cZ aT aM aM_images aM_path g7) := hD
          exact hB34 _ _ _ _ _ hP hD hS _ (lv_sub hl [0, 1, 2] rfl) hf
      · have hf := ite_t c3 hf
        refine lv_iconst (v := 0) hx hb d_M_pair_15 (by decide) ?_
        obtain rfl := Option.some.inj hf
        exact W.zret (v := (0 : Int32)) hx hb hr rfl (fun t ht hW => ⟨rfl, by rw [ht]; exact hP, hD, hS.F ht⟩) hS.2.2 d_M_pair_16
def f_M_agrees_L60 (T_count : Int32) (nT_heads : Nat) (T_heads : (Nat → Int32)) (nT_places : Nat) (T_places : (Nat → Int32)) (nT_withins : Nat) (T_withins : (Nat → Int64)) : Nat → (Nat → Int32) → Int32 → Int32 → Int32 → Option (Int32 × (Nat → Int32))
  | 0, _, _, _, _ => none
  | n + 1, M_images_60, x1_60, x2_60, x6_60 =>
    if (3 : Int32) ≤ x6_60 then
      some ((1 : Int32), M_images_60)
    else
      (f_T_place T_count nT_places T_places x1_60 x6_60).bind fun r9 =>
      if r9 = (-1 : Int32) then
        nm (x6_60 + (1 : Int32)) fun x11 =>
        (f_M_agrees_L60 T_count nT_heads T_heads nT_places T_places nT_withins T_withins n) M_images_60 x1_60 x2_60 x11
      else
        (f_T_place T_count nT_places T_places x2_60 x6_60).bind fun r12 =>
        (f_M_pair M_images_60 r9 r12).bind fun r13 =>
        if r13.1 = 0 then
          some ((0 : Int32), r13.2)
        else
          nm (x6_60 + (1 : Int32)) fun x15 =>
          (f_M_agrees_L60 T_count nT_heads T_heads nT_places T_places nT_withins T_withins n) r13.2 x1_60 x2_60 x15
def f_M_agrees (T_count : Int32) (nT_heads : Nat) (T_heads : (Nat → Int32)) (nT_places : Nat) (T_places : (Nat → Int32)) (nT_withins : Nat) (T_withins : (Nat → Int64)) (M_images : (Nat → Int32)) (p0 : Int32) (p1 : Int32) (p2 : Int64) : Option (Int32 × (Nat → Int32)) :=
  (f_T_holds T_count nT_withins T_withins p0 p2).bind fun r1 =>
  if r1 = 0 then
    if p0 = p1 then
      some ((1 : Int32), M_images)
    else
      some ((0 : Int32), M_images)
  else
    (f_T_head T_count nT_heads T_heads p0).bind fun r3 =>
    if r3 < (30 : Int32) then
      (f_T_head T_count nT_heads T_heads p1).bind fun r5 =>
      if r3 = r5 then
        f_M_agrees_L60 T_count nT_heads T_heads nT_places T_places nT_withins T_withins FU M_images p0 p1 (0 : Int32)
      else
        some ((0 : Int32), M_images)
    else
      some ((1 : Int32), M_images)
abbrev rm_M_agrees : Room := { frames := 1, cells := 0, slots := 0, locals := 23 }
set_option maxHeartbeats 4000000 in
set_option maxRecDepth 100000 in
theorem c_M_agrees (l : Launch) (D : va_G) (cI cJ cZ : ClassId) (aT aT_heads aT_places aT_olders aT_sizes aT_withins aT_newest aM aM_images aM_path : Nat) (sz : Nat) (T_count : Int32) (nT_heads : Nat) (T_heads : (Nat → Int32)) (nT_places : Nat) (T_places : (Nat → Int32)) (nT_withins : Nat) (T_withins : (Nat → Int64)) (M_images : (Nat → Int32)) (p0 : Int32) (p1 : Int32) (p2 : Int64) (o : Int32 × (Nat → Int32)) (hf : f_M_agrees T_count nT_heads T_heads nT_places T_places nT_withins T_withins M_images p0 p1 p2 = some o) : Met l y_M_agrees (ws_M_agrees) rm_M_agrees (WPc D vwCl cI cJ cZ [.ref aM, .int p0, .int p1, .long p2] (wv_19 cI cJ cZ aT aT_heads aT_places aT_olders aT_sizes aT_withins aT_newest aM aM_images aM_path T_count nT_heads T_heads nT_places T_places nT_withins T_withins M_images) sz) (WQ D vwCl (some (.int o.1)) (wv_19 cI cJ cZ aT aT_heads aT_places aT_olders aT_sizes aT_withins aT_newest aM aM_images aM_path T_count nT_heads T_heads nT_places T_places nT_withins T_withins o.2) (va_A (wv_19 cI cJ cZ aT aT_heads aT_places aT_olders aT_sizes aT_withins aT_newest aM aM_images aM_path T_count nT_heads T_heads nT_places T_places nT_withins T_withins M_images) sz)) 0 0 (va_A (wv_19 cI cJ cZ aT aT_heads aT_places aT_olders aT_sizes aT_withins aT_newest aM aM_images aM_path T_count nT_heads T_heads nT_places T_places nT_withins T_withins M_images) sz) := by
  refine Met.ofW (cc := b_M_agrees) (maxL := 8) (ret := (some .boolean)) (by decide) rfl ?_
  intro p e s m args below meth c s₁ B hml hv
  obtain ⟨rfl, rfl, hP, hK, hD0⟩ := hv
  have hx := B.exec
  have hb := B.bytes
  have hr := B.returns
  have hts : ∀ w ∈ BG, w.before _ s = true := fun w h => atoms_spec (ws := (ws_M_agrees)) B.pre w (List.mem_cons_of_mem _ h)
  have hown : s.vm.findClass RR_M = some m.cls := findClass_of_methodNamed B.named
  have hlocks := B.notSynchronized
  have hD := hD0.self (sz := s.heap.size)
  have hA : ∀ q : Nat, s.heap.size ≤ q → va_A (wv_19 cI cJ cZ aT aT_heads aT_places aT_olders aT_sizes aT_withins aT_newest aM aM_images aM_path T_count nT_heads T_heads nT_places T_places nT_withins T_withins M_images) s.heap.size q := fun q h => Or.inr h
  have hS : va_S (va_A (wv_19 cI cJ cZ aT aT_heads aT_places aT_olders aT_sizes aT_withins aT_newest aM aM_images aM_path T_count nT_heads T_heads nT_places T_places nT_withins T_withins M_images) s.heap.size) s.heap s.heap [] := va_S.rf
  generalize va_A (wv_19 cI cJ cZ aT aT_heads aT_places aT_olders aT_sizes aT_withins aT_newest aM aM_images aM_path T_count nT_heads T_heads nT_places T_places nT_withins T_withins M_images) s.heap.size = A at hD hA hS ⊢
  have hl := lv_entry ([.ref aM, .int p0, .int p1, .long p2]) (n := 8) (Nat.le_of_ble_eq_true rfl)
  rw [lg_entry_eq]
  generalize (lg_sl ([.ref aM, .int p0, .int p1, .long p2]) ++ List.replicate (8 - (lg_sl ([.ref aM, .int p0, .int p1, .long p2])).length) Slot.unset).toArray = ls at hl ⊢
  have hl : lv_has ls 8 [(0, .ref aM), (1, .int p0), (2, .int p1), (3, .long p2)] := hl
  have hL60 : ∀ (n60 : Nat), ∀ (M_images_60 : (Nat → Int32)) (x1_60 : Int32) (x2_60 : Int32) (x6_60 : Int32), ∀ (H : Heap) (locs : List Loc), va_P D vwCl (wv_19 cI cJ cZ aT aT_heads aT_places aT_olders aT_sizes aT_withins aT_newest aM aM_images aM_path T_count nT_heads T_heads nT_places T_places nT_withins T_withins M_images_60) H → va_D A (wv_19 cI cJ cZ aT aT_heads aT_places aT_olders aT_sizes aT_withins aT_newest aM aM_images aM_path T_count nT_heads T_heads nT_places T_places nT_withins T_withins M_images_60) → va_S A s.heap H locs → ∀ (ls : Array Slot), lv_has ls 8 [(0, .ref aM), (1, .int x1_60), (2, .int x2_60), (6, .int x6_60)] → f_M_agrees_L60 T_count nT_heads T_heads nT_places T_places nT_withins T_withins n60 M_images_60 x1_60 x2_60 x6_60 = some o → W p l e (headSpec (ws_M_agrees) rm_M_agrees).room s m ([.ref aM, .int p0, .int p1, .long p2] : List Value).toArray below meth c H locs 0 0 (MQ below (WQ D vwCl (some (.int o.1)) (wv_19 cI cJ cZ aT aT_heads aT_places aT_olders aT_sizes aT_withins aT_newest aM aM_images aM_path T_count nT_heads T_heads nT_places T_places nT_withins T_withins o.2) A) ([.ref aM, .int p0, .int p1, .long p2] : List Value).toArray s 0 0 A) (F0 m 60 ls []) := by
    intro n60
    induction n60 with
    | zero =>
      intro M_images_60 x1_60 x2_60 x6_60 H locs hP hD hS ls hl hf
      rw [f_M_agrees_L60] at hf
      cases hf
    | succ n60 ih60 =>
      intro M_images_60 x1_60 x2_60 x6_60 H locs hP hD hS ls hl hf
      rw [f_M_agrees_L60] at hf
      refine lv_iload hx hb d_M_agrees_60 (lv_at hl 3 rfl) ?_
      refine lv_iconst (v := 3) hx hb d_M_agrees_62 (by decide) ?_
      refine lv_icmp_ge (tgt := 111) hx hb d_M_agrees_63 (by decide) (fun c8 => ?_) (fun c8 => ?_)
      · have hf := ite_t c8 hf
        refine lv_iconst (v := 1) hx hb d_M_agrees_111 (by decide) ?_
        obtain rfl := Option.some.inj hf
        exact W.zret (v := (1 : Int32)) hx hb hr rfl (fun t ht hW => ⟨rfl, by rw [ht]; exact hP, hD, hS.F ht⟩) hS.2.2 d_M_agrees_112
      · have hf := ite_f c8 hf
        refine lv_aload_n hx hb d_M_agrees_66 rfl (lv_at hl 0 rfl) ?_
        refine va_get (D := D) (ci := 3) (v := .ref aT) (C := RR_M) (T := FF_M) (N := 3) hx hb hts kin_M hown hK.1 hP 4 rfl rfl 0 (by decide) (hts _ k1_90) (fun _ h9 => h9) rfl d_M_agrees_67 ?_
        refine lv_iload_n hx hb d_M_agrees_70 rfl (lv_at hl 1 rfl) ?_
        refine lv_iload hx hb d_M_agrees_71 (lv_at hl 3 rfl) ?_
        obtain ⟨r9, hr9, hf⟩ := of_bd hf
        refine rd_call (va_runV (As := [.int x1_60, .int x6_60]) (rest := []) ⟨hx, hb, hml, hown, hts⟩ (c_T_place l D cI cJ cZ aT aT_heads aT_places aT_olders aT_sizes aT_withins aT_newest T_count nT_places T_places x1_60 x6_60 r9 hr9) (bigV 2 hts k2_80 k2_1 k2_2 k1_2 k2_3 rfl rfl hd_T_place ⟨Nat.le_of_ble_eq_true rfl, Nat.le_of_ble_eq_true rfl⟩) (rd_preV hK hP [0, 2] rfl 0 rfl rfl rfl) rfl rfl hl.1 rfl (lv_room (Nat.le_of_ble_eq_true rfl)) d_M_agrees_73 ⟨Nat.le_of_ble_eq_true rfl, Nat.le_of_ble_eq_true rfl⟩) ?_
        refine lv_istore (lv' := [(7, .int r9), (0, .ref aM), (1, .int x1_60), (2, .int x2_60), (6, .int x6_60)]) hx hb d_M_agrees_76 hl (by decide) rfl (fun ls hl => ?_)
        refine lv_iload hx hb d_M_agrees_78 (lv_at hl 0 rfl) ?_
        refine lv_iconst (v := -1) hx hb d_M_agrees_80 (by decide) ?_
        refine lv_icmp_eq (tgt := 105) hx hb d_M_agrees_81 (by decide) (fun c10 => ?_) (fun c10 => ?_)
        · have hf := ite_t c10 hf
          obtain ⟨x11, ex11⟩ : ∃ y : Int32, y = x6_60 + (1 : Int32) := ⟨_, rfl⟩
          refine lv_iinc (v := x11) (lv' := [(6, .int x11), (7, .int r9), (0, .ref aM), (1, .int x1_60), (2, .int x2_60)]) hx hb d_M_agrees_105 hl (k := 4) rfl (by rw [ex11]; rfl) (by decide) rfl (fun ls hl => ?_)
          have hf := of_nm ex11 hf
          refine lv_goto (tgt := 60) hx hb d_M_agrees_108 (by decide) ?_
          exact ih60 _ _ _ _ _ _ hP hD hS _ (lv_sub hl [2, 3, 4, 0] rfl) hf
        · have hf := ite_f c10 hf
          refine lv_aload_n hx hb d_M_agrees_84 rfl (lv_at hl 1 rfl) ?_
          refine lv_iload hx hb d_M_agrees_85 (lv_at hl 0 rfl) ?_
          refine lv_aload_n hx hb d_M_agrees_87 rfl (lv_at hl 1 rfl) ?_
          refine va_get (D := D) (ci := 3) (v := .ref aT) (C := RR_M) (T := FF_M) (N := 3) hx hb hts kin_M hown hK.1 hP 4 rfl rfl 0 (by decide) (hts _ k1_90) (fun _ h9 => h9) rfl d_M_agrees_88 ?_
          refine lv_iload_n hx hb d_M_agrees_91 rfl (lv_at hl 3 rfl) ?_
          refine lv_iload hx hb d_M_agrees_92 (lv_at hl 4 rfl) ?_
          obtain ⟨r12, hr12, hf⟩ := of_bd hf
          refine rd_call (va_runV (As := [.int x2_60, .int x6_60]) (rest := [.int r9, .ref aM]) ⟨hx, hb, hml, hown, hts⟩ (c_T_place l D cI cJ cZ aT aT_heads aT_places aT_olders aT_sizes aT_withins aT_newest T_count nT_places T_places x2_60 x6_60 r12 hr12) (bigV 2 hts k2_80 k2_1 k2_2 k1_2 k2_3 rfl rfl hd_T_place ⟨Nat.le_of_ble_eq_true rfl, Nat.le_of_ble_eq_true rfl⟩) (rd_preV hK hP [0, 2] rfl 0 rfl rfl rfl) rfl rfl hl.1 rfl (lv_room (Nat.le_of_ble_eq_true rfl)) d_M_agrees_94 ⟨Nat.le_of_ble_eq_true rfl, Nat.le_of_ble_eq_true rfl⟩) ?_
          obtain ⟨r13, hr13, hf⟩ := of_bd hf
          refine wr_call (ws' := (wv_19 cI cJ cZ aT aT_heads aT_places aT_olders aT_sizes aT_withins aT_newest aM aM_images aM_path T_count nT_heads T_heads nT_places T_places nT_withins T_withins r13.2)) (va_runV (As := [.int r9, .int r12]) (rest := []) ⟨hx, hb, hml, hown, hts⟩ (c_M_pair l D cI cJ cZ aT aM aM_images aM_path _ M_images_60 r9 r12 r13 hr13) (bigV 2 hts k2_64 k2_66 ks_M_pair k1_5 k2_67 rfl rfl hd_M_pair ⟨Nat.le_of_ble_eq_true rfl, Nat.le_of_ble_eq_true rfl⟩) (wr_preV hK hP hD [4, 5] rfl (by decide) rfl 4 rfl rfl rfl) rfl rfl hl.1 rfl (lv_room (Nat.le_of_ble_eq_true rfl)) d_M_agrees_97 ⟨Nat.le_of_ble_eq_true rfl, Nat.le_of_ble_eq_true rfl⟩) hP hD hS hA [4, 5] [0, 1, 2, 3] rfl rfl (by decide) (by decide) [0, 1, 2, 3, 4, 5] (by decide) rfl (fun H locs hP hD hS => ?_)
          refine lv_if_ne (tgt := 105) hx hb d_M_agrees_100 (by decide) (fun c14 => ?_) (fun c14 => ?_)
          · have hf := ite_f c14 hf
            obtain ⟨x15, ex15⟩ : ∃ y : Int32, y = x6_60 + (1 : Int32) := ⟨_, rfl⟩
            refine lv_iinc (v := x15) (lv' := [(6, .int x15), (7, .int r9), (0, .ref aM), (1, .int x1_60), (2, .int x2_60)]) hx hb d_M_agrees_105 hl (k := 4) rfl (by rw [ex15]; rfl) (by decide) rfl (fun ls hl => ?_)
            have hf := of_nm ex15 hf
            refine lv_goto (tgt := 60) hx hb d_M_agrees_108 (by decide) ?_
            exact ih60 _ _ _ _ _ _ hP hD hS _ (lv_sub hl [2, 3, 4, 0] rfl) hf
          · have hf := ite_t c14 hf
            refine lv_iconst (v := 0) hx hb d_M_agrees_103 (by decide) ?_
            obtain rfl := Option.some.inj hf
            exact W.zret (v := (0 : Int32)) hx hb hr rfl (fun t ht hW => ⟨rfl, by rw [ht]; exact hP, hD, hS.F ht⟩) hS.2.2 d_M_agrees_104
  rw [f_M_agrees] at hf
  refine lv_aload_n hx hb d_M_agrees_0 rfl (lv_at hl 0 rfl) ?_
  refine va_get (D := D) (ci := 3) (v := .ref aT) (C := RR_M) (T := FF_M) (N := 3) hx hb hts kin_M hown hK.1 hP 4 rfl rfl 0 (by decide) (hts _ k1_90) (fun _ h9 => h9) rfl d_M_agrees_1 ?_
  refine lv_iload_n hx hb d_M_agrees_4 rfl (lv_at hl 1 rfl) ?_
  refine lv_lload_n hx hb d_M_agrees_5 rfl (lv_at hl 3 rfl) ?_
  obtain ⟨r1, hr1, hf⟩ := of_bd hf
  refine rd_call (va_runV (As := [.int p0, .long p2]) (rest := []) ⟨hx, hb, hml, hown, hts⟩ (c_T_holds l D cI cJ cZ aT aT_heads aT_places aT_olders aT_sizes aT_withins aT_newest T_count nT_withins T_withins p0 p2 r1 hr1) (bigV 2 hts k2_76 k2_77 k2_78 k1_2 k2_79 rfl rfl hd_T_holds ⟨Nat.le_of_ble_eq_true rfl, Nat.le_of_ble_eq_true rfl⟩) (rd_preV hK hP [0, 3] rfl 0 rfl rfl rfl) rfl rfl hl.1 rfl (lv_room (Nat.le_of_ble_eq_true rfl)) d_M_agrees_6 ⟨Nat.le_of_ble_eq_true rfl, Nat.le_of_ble_eq_true rfl⟩) ?_
  refine lv_if_ne (tgt := 23) hx hb d_M_agrees_9 (by decide) (fun c2 => ?_) (fun c2 => ?_)
  · have hf := ite_f c2 hf
    refine lv_aload_n hx hb d_M_agrees_23 rfl (lv_at hl 0 rfl) ?_
    refine va_get (D := D) (ci := 3) (v := .ref aT) (C := RR_M) (T := FF_M) (N := 3) hx hb hts kin_M hown hK.1 hP 4 rfl rfl 0 (by decide) (hts _ k1_90) (fun _ h9 => h9) rfl d_M_agrees_24 ?_
    refine lv_iload_n hx hb d_M_agrees_27 rfl (lv_at hl 1 rfl) ?_
    obtain ⟨r3, hr3, hf⟩ := of_bd hf
    refine rd_call (va_runV (As := [.int p0]) (rest := []) ⟨hx, hb, hml, hown, hts⟩ (c_T_head l D cI cJ cZ aT aT_heads aT_places aT_olders aT_sizes aT_withins aT_newest T_count nT_heads T_heads p0 r3 hr3) (bigV 1 hts k2_62 k1_237 k1_238 k1_2 k1_239 rfl rfl hd_T_head ⟨Nat.le_of_ble_eq_true rfl, Nat.le_of_ble_eq_true rfl⟩) (rd_preV hK hP [0, 1] rfl 0 rfl rfl rfl) rfl rfl hl.1 rfl (lv_room (Nat.le_of_ble_eq_true rfl)) d_M_agrees_28 ⟨Nat.le_of_ble_eq_true rfl, Nat.le_of_ble_eq_true rfl⟩) ?_
    refine lv_istore (lv' := [(5, .int r3), (0, .ref aM), (1, .int p0), (2, .int p1), (3, .long p2)]) hx hb d_M_agrees_31 hl (by decide) rfl (fun ls hl => ?_)
    refine lv_iload hx hb d_M_agrees_33 (lv_at hl 0 rfl) ?_
    refine lv_bipush (v := 30) hx hb d_M_agrees_35 (by decide) ?_
    refine lv_icmp_lt (tgt := 42) hx hb d_M_agrees_37 (by decide) (fun c4 => ?_) (fun c4 => ?_)
    · have hf := ite_t c4 hf
      refine lv_iload hx hb d_M_agrees_42 (lv_at hl 0 rfl) ?_
      refine lv_aload_n hx hb d_M_agrees_44 rfl (lv_at hl 1 rfl) ?_
      refine va_get (D := D) (ci := 3) (v := .ref aT) (C := RR_M) (T := FF_M) (N := 3) hx hb hts kin_M hown hK.1 hP 4 rfl rfl 0 (by decide) (hts _ k1_90) (fun _ h9 => h9) rfl d_M_agrees_45 ?_
      refine lv_iload_n hx hb d_M_agrees_48 rfl (lv_at hl 3 rfl) ?_
      obtain ⟨r5, hr5, hf⟩ := of_bd hf
      refine rd_call (va_runV (As := [.int p1]) (rest := [.int r3]) ⟨hx, hb, hml, hown, hts⟩ (c_T_head l D cI cJ cZ aT aT_heads aT_places aT_olders aT_sizes aT_withins aT_newest T_count nT_heads T_heads p1 r5 hr5) (bigV 1 hts k2_62 k1_237 k1_238 k1_2 k1_239 rfl rfl hd_T_head ⟨Nat.le_of_ble_eq_true rfl, Nat.le_of_ble_eq_true rfl⟩) (rd_preV hK hP [0, 1] rfl 0 rfl rfl rfl) rfl rfl hl.1 rfl (lv_room (Nat.le_of_ble_eq_true rfl)) d_M_agrees_49 ⟨Nat.le_of_ble_eq_true rfl, Nat.le_of_ble_eq_true rfl⟩) ?_
      refine lv_icmp_eq (tgt := 57) hx hb d_M_agrees_52 (by decide) (fun c6 => ?_) (fun c6 => ?_)
      · have hf := ite_t c6 hf
        refine lv_iconst (v := 0) hx hb d_M_agrees_57 (by decide) ?_
        refine lv_istore (lv' := [(6, .int (0 : Int32)), (5, .int r3), (0, .ref aM), (1, .int p0), (2, .int p1), (3, .long p2)]) hx hb d_M_agrees_58 hl (by decide) rfl (fun ls hl => ?_)
        exact hL60 FU _ _ _ _ _ _ hP hD hS _ (lv_sub hl [2, 3, 4, 0] rfl) hf
      · have hf := ite_f c6 hf
        refine lv_iconst (v := 0) hx hb d_M_agrees_55 (by decide) ?_
        obtain rfl := Option.some.inj hf
        exact W.zret (v := (0 : Int32)) hx hb hr rfl (fun t ht hW => ⟨rfl, by rw [ht]; exact hP, hD, hS.F ht⟩) hS.2.2 d_M_agrees_56
    · have hf := ite_f c4 hf
      refine lv_iconst (v := 1) hx hb d_M_agrees_40 (by decide) ?_
      obtain rfl := Option.some.inj hf
      exact W.zret (v := (1 : Int32)) hx hb hr rfl (fun t ht hW => ⟨rfl, by rw [ht]; exact hP, hD, hS.F ht⟩) hS.2.2 d_M_agrees_41
  · have hf := ite_t c2 hf
    refine lv_iload_n hx hb d_M_agrees_12 rfl (lv_at hl 1 rfl) ?_
    refine lv_iload_n hx hb d_M_agrees_13 rfl (lv_at hl 2 rfl) ?_
    refine lv_icmp_ne (tgt := 21) hx hb d_M_agrees_14 (by decide) (fun c7 => ?_) (fun c7 => ?_)
    · have hf := ite_f c7 hf
      refine lv_iconst (v := 0) hx hb d_M_agrees_21 (by decide) ?_
      obtain rfl := Option.some.inj hf
      exact W.zret (v := (0 : Int32)) hx hb hr rfl (fun t ht hW => ⟨rfl, by rw [ht]; exact hP, hD, hS.F ht⟩) hS.2.2 d_M_agrees_22
    · have hf := ite_t c7 hf
      refine lv_iconst (v := 1) hx hb d_M_agrees_17 (by decide) ?_
      refine lv_goto (tgt := 22) hx hb d_M_agrees_18 (by decide) ?_
      obtain rfl := Option.some.inj hf
      exact W.zret (v := (1 : Int32)) hx hb hr rfl (fun t ht hW => ⟨rfl, by rw [ht]; exact hP, hD, hS.F ht⟩) hS.2.2 d_M_agrees_22
def f_M_settle_L3 (T_count : Int32) (nT_heads : Nat) (T_heads : (Nat → Int32)) (nT_places : Nat) (T_places : (Nat → Int32)) (nT_withins : Nat) (T_withins : (Nat → Int64)) : Nat → (Nat → Int32) → Int64 → Int32 → Option (Int32 × (Nat → Int32))
  | 0, _, _, _ => none
  | n + 1, M_images_3, x1_3, x3_3 =>
    if x3_3 < 0 then
      some ((1 : Int32), M_images_3)
    else
      gd (ixb x3_3 100) <|
      if (M_images_3 x3_3.toNatClampNeg) = (-1 : Int32) then
        nm (x3_3 + (-1 : Int32)) fun x4 =>
        (f_M_settle_L3 T_count nT_heads T_heads nT_places T_places nT_withins T_withins n) M_images_3 x1_3 x4
      else
        gd (ixb x3_3 100) <|
        (f_M_agrees T_count nT_heads T_heads nT_places T_places nT_withins T_withins M_images_3 x3_3 (M_images_3 x3_3.toNatClampNeg) x1_3).bind fun r6 =>
        if r6.1 = 0 then
          some ((0 : Int32), r6.2)
        else
          nm (x3_3 + (-1 : Int32)) fun x8 =>
          (f_M_settle_L3 T_count nT_heads T_heads nT_places T_places nT_withins T_withins n) r6.2 x1_3 x8
def f_M_settle (T_count : Int32) (nT_heads : Nat) (T_heads : (Nat → Int32)) (nT_places : Nat) (T_places : (Nat → Int32)) (nT_withins : Nat) (T_withins : (Nat → Int64)) (M_images : (Nat → Int32)) (p0 : Int64) : Option (Int32 × (Nat → Int32)) :=
  f_M_settle_L3 T_count nT_heads T_heads nT_places T_places nT_withins T_withins FU M_images p0 (99 : Int32)
abbrev rm_M_settle : Room := { frames := 2, cells := 0, slots := 0, locals := 50 }
set_option maxHeartbeats 4000000 in
set_option maxRecDepth 100000 in
theorem c_M_settle (l : Launch) (D : va_G) (cI cJ cZ : ClassId) (aT aT_heads aT_places aT_olders aT_sizes aT_withins aT_newest aM aM_images aM_path : Nat) (sz : Nat) (T_count : Int32) (nT_heads : Nat) (T_heads : (Nat → Int32)) (nT_places : Nat) (T_places : (Nat → Int32)) (nT_withins : Nat) (T_withins : (Nat → Int64)) (M_images : (Nat → Int32)) (p0 : Int64) (o : Int32 × (Nat → Int32)) (hf : f_M_settle T_count nT_heads T_heads nT_places T_places nT_withins T_withins M_images p0 = some o) : Met l y_M_settle (ws_M_settle) rm_M_settle (WPc D vwCl cI cJ cZ [.ref aM, .long p0] (wv_19 cI cJ cZ aT aT_heads aT_places aT_olders aT_sizes aT_withins aT_newest aM aM_images aM_path T_count nT_heads T_heads nT_places T_places nT_withins T_withins M_images) sz) (WQ D vwCl (some (.int o.1)) (wv_19 cI cJ cZ aT aT_heads aT_places aT_olders aT_sizes aT_withins aT_newest aM aM_images aM_path T_count nT_heads T_heads nT_places T_places nT_withins T_withins o.2) (va_A (wv_19 cI cJ cZ aT aT_heads aT_places aT_olders aT_sizes aT_withins aT_newest aM aM_images aM_path T_count nT_heads T_heads nT_places T_places nT_withins T_withins M_images) sz)) 0 0 (va_A (wv_19 cI cJ cZ aT aT_heads aT_places aT_olders aT_sizes aT_withins aT_newest aM aM_images aM_path T_count nT_heads T_heads nT_places T_places nT_withins T_withins M_images) sz) := by
  refine Met.ofW (cc := b_M_settle) (maxL := 4) (ret := (some .boolean)) (by decide) rfl ?_
  intro p e s m args below meth c s₁ B hml hv
  obtain ⟨rfl, rfl, hP, hK, hD0⟩ := hv
  have hx := B.exec
  have hb := B.bytes
  have hr := B.returns
  have hts : ∀ w ∈ BG, w.before _ s = true := fun w h => atoms_spec (ws := (ws_M_settle)) B.pre w (List.mem_cons_of_mem _ h)
  have hown : s.vm.findClass RR_M = some m.cls := findClass_of_methodNamed B.named
  have hlocks := B.notSynchronized
  have hD := hD0.self (sz := s.heap.size)
  have hA : ∀ q : Nat, s.heap.size ≤ q → va_A (wv_19 cI cJ cZ aT aT_heads aT_places aT_olders aT_sizes aT_withins aT_newest aM aM_images aM_path T_count nT_heads T_heads nT_places T_places nT_withins T_withins M_images) s.heap.size q := fun q h => Or.inr h
  have hS : va_S (va_A (wv_19 cI cJ cZ aT aT_heads aT_places aT_olders aT_sizes aT_withins aT_newest aM aM_images aM_path T_count nT_heads T_heads nT_places T_places nT_withins T_withins M_images) s.heap.size) s.heap s.heap [] := va_S.rf
  generalize va_A (wv_19 cI cJ cZ aT aT_heads aT_places aT_olders aT_sizes aT_withins aT_newest aM aM_images aM_path T_count nT_heads T_heads nT_places T_places nT_withins T_withins M_images) s.heap.size = A at hD hA hS ⊢
  have hl := lv_entry ([.ref aM, .long p0]) (n := 4) (Nat.le_of_ble_eq_true rfl)
  rw [lg_entry_eq]
  generalize (lg_sl ([.ref aM, .long p0]) ++ List.replicate (4 - (lg_sl ([.ref aM, .long p0])).length) Slot.unset).toArray = ls at hl ⊢
  have hl : lv_has ls 4 [(0, .ref aM), (1, .long p0)] := hl
  have hL3 : ∀ (n3 : Nat), ∀ (M_images_3 : (Nat → Int32)) (x1_3 : Int64) (x3_3 : Int32), ∀ (H : Heap) (locs : List Loc), va_P D vwCl (wv_19 cI cJ cZ aT aT_heads aT_places aT_olders aT_sizes aT_withins aT_newest aM aM_images aM_path T_count nT_heads T_heads nT_places T_places nT_withins T_withins M_images_3) H → va_D A (wv_19 cI cJ cZ aT aT_heads aT_places aT_olders aT_sizes aT_withins aT_newest aM aM_images aM_path T_count nT_heads T_heads nT_places T_places nT_withins T_withins M_images_3) → va_S A s.heap H locs → ∀ (ls : Array Slot), lv_has ls 4 [(0, .ref aM), (1, .long x1_3), (3, .int x3_3)] → f_M_settle_L3 T_count nT_heads T_heads nT_places T_places nT_withins T_withins n3 M_images_3 x1_3 x3_3 = some o → W p l e (headSpec (ws_M_settle) rm_M_settle).room s m ([.ref aM, .long p0] : List Value).toArray below meth c H locs 0 0 (MQ below (WQ D vwCl (some (.int o.1)) (wv_19 cI cJ cZ aT aT_heads aT_places aT_olders aT_sizes aT_withins aT_newest aM aM_images aM_path T_count nT_heads T_heads nT_places T_places nT_withins T_withins o.2) A) ([.ref aM, .long p0] : List Value).toArray s 0 0 A) (F0 m 3 ls []) := by
    intro n3
    induction n3 with
    | zero =>
      intro M_images_3 x1_3 x3_3 H locs hP hD hS ls hl hf
      rw [f_M_settle_L3] at hf
      cases hf
    | succ n3 ih3 =>
      intro M_images_3 x1_3 x3_3 H locs hP hD hS ls hl hf
      rw [f_M_settle_L3] at hf
      refine lv_iload_n hx hb d_M_settle_3 rfl (lv_at hl 2 rfl) ?_
      refine lv_if_lt (tgt := 40) hx hb d_M_settle_4 (by decide) (fun c1 => ?_) (fun c1 => ?_)
      · have hf := ite_t c1 hf
        refine lv_iconst (v := 1) hx hb d_M_settle_40 (by decide) ?_
        obtain rfl := Option.some.inj hf
        exact W.zret (v := (1 : Int32)) hx hb hr rfl (fun t ht hW => ⟨rfl, by rw [ht]; exact hP, hD, hS.F ht⟩) hS.2.2 d_M_settle_41
      · have hf := ite_f c1 hf
        refine lv_aload_n hx hb d_M_settle_7 rfl (lv_at hl 0 rfl) ?_
        refine va_get (D := D) (ci := 3) (v := .ref aM_images) (C := RR_M) (T := FF_M) (N := 3) hx hb hts kin_M hown hK.1 hP 4 rfl rfl 1 (by decide) (hts _ k1_91) (fun _ h9 => h9) rfl d_M_settle_8 ?_
        refine lv_iload_n hx hb d_M_settle_11 rfl (lv_at hl 2 rfl) ?_
        obtain ⟨h2, hf⟩ := of_gd hf
        refine va_iald hx hb hK.1 hP 5 0 rfl rfl (ixb_in h2) d_M_settle_12 ?_
        refine lv_iconst (v := -1) hx hb d_M_settle_13 (by decide) ?_
        refine lv_icmp_eq (tgt := 34) hx hb d_M_settle_14 (by decide) (fun c3 => ?_) (fun c3 => ?_)
        · have hf := ite_t c3 hf
          obtain ⟨x4, ex4⟩ : ∃ y : Int32, y = x3_3 + (-1 : Int32) := ⟨_, rfl⟩
          refine lv_iinc (v := x4) (lv' := [(3, .int x4), (0, .ref aM), (1, .long x1_3)]) hx hb d_M_settle_34 hl (k := 2) rfl (by rw [ex4]; rfl) (by decide) rfl (fun ls hl => ?_)
          have hf := of_nm ex4 hf
          refine lv_goto (tgt := 3) hx hb d_M_settle_37 (by decide) ?_
          exact ih3 _ _ _ _ _ hP hD hS _ (lv_sub hl [1, 2, 0] rfl) hf
        · have hf := ite_f c3 hf
          refine lv_aload_n hx hb d_M_settle_17 rfl (lv_at hl 0 rfl) ?_
          refine lv_iload_n hx hb d_M_settle_18 rfl (lv_at hl 2 rfl) ?_
          refine lv_aload_n hx hb d_M_settle_19 rfl (lv_at hl 0 rfl) ?_
          refine va_get (D := D) (ci := 3) (v := .ref aM_images) (C := RR_M) (T := FF_M) (N := 3) hx hb hts kin_M hown hK.1 hP 4 rfl rfl 1 (by decide) (hts _ k1_91) (fun _ h9 => h9) rfl d_M_settle_20 ?_
          refine lv_iload_n hx hb d_M_settle_23 rfl (lv_at hl 2 rfl) ?_
          obtain ⟨h5, hf⟩ := of_gd hf
          refine va_iald hx hb hK.1 hP 5 0 rfl rfl (ixb_in h5) d_M_settle_24 ?_
          refine lv_lload_n hx hb d_M_settle_25 rfl (lv_at hl 1 rfl) ?_
          obtain ⟨r6, hr6, hf⟩ := of_bd hf
          refine wr_call (ws' := (wv_19 cI cJ cZ aT aT_heads aT_places aT_olders aT_sizes aT_withins aT_newest aM aM_images aM_path T_count nT_heads T_heads nT_places T_places nT_withins T_withins r6.2)) (va_runV (As := [.int x3_3, .int (M_images_3 x3_3.toNatClampNeg), .long x1_3]) (rest := []) ⟨hx, hb, hml, hown, hts⟩ (c_M_agrees l D cI cJ cZ aT aT_heads aT_places aT_olders aT_sizes aT_withins aT_newest aM aM_images aM_path _ T_count nT_heads T_heads nT_places T_places nT_withins T_withins M_images_3 x3_3 (M_images_3 x3_3.toNatClampNeg) x1_3 r6 hr6) (bigV 3 hts k2_72 k2_74 ks_M_agrees k1_5 k2_75 rfl rfl hd_M_agrees ⟨Nat.le_of_ble_eq_true rfl, Nat.le_of_ble_eq_true rfl⟩) (wr_preV hK hP hD [0, 1, 2, 3, 4, 5] rfl (by decide) rfl 4 rfl rfl rfl) rfl rfl hl.1 rfl (lv_room (Nat.le_of_ble_eq_true rfl)) d_M_settle_26 ⟨Nat.le_of_ble_eq_true rfl, Nat.le_of_ble_eq_true rfl⟩) hP hD hS hA [0, 1, 2, 3, 4, 5] [] rfl rfl (by decide) (by decide) [0, 1, 2, 3, 4, 5] (by decide) rfl (fun H locs hP hD hS => ?_)
          refine lv_if_ne (tgt := 34) hx hb d_M_settle_29 (by decide) (fun c7 => ?_) (fun c7 => ?_)
          · have hf := ite_f c7 hf
            obtain ⟨x8, ex8⟩ : ∃ y : Int32, y = x3_3 + (-1 : Int32) := ⟨_, rfl⟩
            refine lv_iinc (v := x8) (lv' := [(3, .int x8), (0, .ref aM), (1, .long x1_3)]) hx hb d_M_settle_34 hl (k := 2) rfl (by rw [ex8]; rfl) (by decide) rfl (fun ls hl => ?_)
            have hf := of_nm ex8 hf
            refine lv_goto (tgt := 3) hx hb d_M_settle_37 (by decide) ?_
            exact ih3 _ _ _ _ _ hP hD hS _ (lv_sub hl [1, 2, 0] rfl) hf
          · have hf := ite_t c7 hf
            refine lv_iconst (v := 0) hx hb d_M_settle_32 (by decide) ?_
            obtain rfl := Option.some.inj hf
            exact W.zret (v := (0 : Int32)) hx hb hr rfl (fun t ht hW => ⟨rfl, by rw [ht]; exact hP, hD, hS.F ht⟩) hS.2.2 d_M_settle_33
  rw [f_M_settle] at hf
  refine lv_bipush (v := 99) hx hb d_M_settle_0 (by decide) ?_
  refine lv_istore_n (lv' := [(3, .int (99 : Int32)), (0, .ref aM), (1, .long p0)]) hx hb d_M_settle_2 rfl hl (by decide) rfl (fun ls hl => ?_)
  exact hL3 FU _ _ _ _ _ hP hD hS _ (lv_sub hl [1, 2, 0] rfl) hf
def f_M_matches_B32 (T_count : Int32) (nT_heads : Nat) (T_heads : (Nat → Int32)) (nT_places : Nat) (T_places : (Nat → Int32)) (nT_withins : Nat) (T_withins : (Nat → Int64)) (M_images_32 : (Nat → Int32)) (x1_32 : Int32) (x2_32 : Int32) (x3_32 : Int64) : Option (Int32 × (Nat → Int32)) :=
  (f_JA_fill 100 M_images_32 (-1 : Int32)).bind fun r5 =>
  (f_M_pair r5 x1_32 x2_32).bind fun r6 =>
  if r6.1 = 0 then
    some ((0 : Int32), r6.2)
  else
    (f_M_settle T_count nT_heads T_heads nT_places T_places nT_withins T_withins r6.2 x3_32).bind fun r8 =>
    if r8.1 = 0 then
      some ((0 : Int32), r8.2)
    else
      some ((1 : Int32), r8.2)
def f_M_matches (T_count : Int32) (nT_heads : Nat) (T_heads : (Nat → Int32)) (nT_places : Nat) (T_places : (Nat → Int32)) (nT_withins : Nat) (T_withins : (Nat → Int64)) (M_images : (Nat → Int32)) (p0 : Int32) (p1 : Int32) (p2 : Int64) : Option (Int32 × (Nat → Int32)) :=
  (f_T_head T_count nT_heads T_heads p0).bind fun r1 =>
  if (30 : Int32) ≤ r1 then
    f_M_matches_B32 T_count nT_heads T_heads nT_places T_places nT_withins T_withins M_images p0 p1 p2
  else
    (f_T_head T_count nT_heads T_heads p1).bind fun r3 =>
    if r1 = r3 then
      f_M_matches_B32 T_count nT_heads T_heads nT_places T_places nT_withins T_withins M_images p0 p1 p2
    else
      some ((0 : Int32), M_images)
abbrev rm_M_matches : Room := { frames := 3, cells := 0, slots := 0, locals := 73 }
set_option maxHeartbeats 4000000 in
set_option maxRecDepth 100000 in
theorem c_M_matches (l : Launch) (D : va_G) (cI cJ cZ : ClassId) (aT aT_heads aT_places aT_olders aT_sizes aT_withins aT_newest aM aM_images aM_path : Nat) (sz : Nat) (T_count : Int32) (nT_heads : Nat) (T_heads : (Nat → Int32)) (nT_places : Nat) (T_places : (Nat → Int32)) (nT_withins : Nat) (T_withins : (Nat → Int64)) (M_images : (Nat → Int32)) (p0 : Int32) (p1 : Int32) (p2 : Int64) (o : Int32 × (Nat → Int32)) (hf : f_M_matches T_count nT_heads T_heads nT_places T_places nT_withins T_withins M_images p0 p1 p2 = some o) : Met l y_M_matches (ws_M_matches) rm_M_matches (WPc D vwCl cI cJ cZ [.ref aM, .int p0, .int p1, .long p2] (wv_19 cI cJ cZ aT aT_heads aT_places aT_olders aT_sizes aT_withins aT_newest aM aM_images aM_path T_count nT_heads T_heads nT_places T_places nT_withins T_withins M_images) sz) (WQ D vwCl (some (.int o.1)) (wv_19 cI cJ cZ aT aT_heads aT_places aT_olders aT_sizes aT_withins aT_newest aM aM_images aM_path T_count nT_heads T_heads nT_places T_places nT_withins T_withins o.2) (va_A (wv_19 cI cJ cZ aT aT_heads aT_places aT_olders aT_sizes aT_withins aT_newest aM aM_images aM_path T_count nT_heads T_heads nT_places T_places nT_withins T_withins M_images) sz)) 0 0 (va_A (wv_19 cI cJ cZ aT aT_heads aT_places aT_olders aT_sizes aT_withins aT_newest aM aM_images aM_path T_count nT_heads T_heads nT_places T_places nT_withins T_withins M_images) sz) := by
  refine Met.ofW (cc := b_M_matches) (maxL := 6) (ret := (some .boolean)) (by decide) rfl ?_
  intro p e s m args below meth c s₁ B hml hv
  obtain ⟨rfl, rfl, hP, hK, hD0⟩ := hv
  have hx := B.exec
  have hb := B.bytes
  have hr := B.returns
  have hts : ∀ w ∈ BG, w.before _ s = true := fun w h => atoms_spec (ws := (ws_M_matches)) B.pre w (List.mem_cons_of_mem _ h)
  have hown : s.vm.findClass RR_M = some m.cls := findClass_of_methodNamed B.named
  have hlocks := B.notSynchronized
  have hD := hD0.self (sz := s.heap.size)
  have hA : ∀ q : Nat, s.heap.size ≤ q → va_A (wv_19 cI cJ cZ aT aT_heads aT_places aT_olders aT_sizes aT_withins aT_newest aM aM_images aM_path T_count nT_heads T_heads nT_places T_places nT_withins T_withins M_images) s.heap.size q := fun q h => Or.inr h
  have hS : va_S (va_A (wv_19 cI cJ cZ aT aT_heads aT_places aT_olders aT_sizes aT_withins aT_newest aM aM_images aM_path T_count nT_heads T_heads nT_places T_places nT_withins T_withins M_images) s.heap.size) s.heap s.heap [] := va_S.rf
  generalize va_A (wv_19 cI cJ cZ aT aT_heads aT_places aT_olders aT_sizes aT_withins aT_newest aM aM_images aM_path T_count nT_heads T_heads nT_places T_places nT_withins T_withins M_images) s.heap.size = A at hD hA hS ⊢
  have hl := lv_entry ([.ref aM, .int p0, .int p1, .long p2]) (n := 6) (Nat.le_of_ble_eq_true rfl)
  rw [lg_entry_eq]
  generalize (lg_sl ([.ref aM, .int p0, .int p1, .long p2]) ++ List.replicate (6 - (lg_sl ([.ref aM, .int p0, .int p1, .long p2])).length) Slot.unset).toArray = ls at hl ⊢
  have hl : lv_has ls 6 [(0, .ref aM), (1, .int p0), (2, .int p1), (3, .long p2)] := hl
  have hB32 : ∀ (M_images_32 : (Nat → Int32)) (x1_32 : Int32) (x2_32 : Int32) (x3_32 : Int64), ∀ (H : Heap) (locs : List Loc), va_P D vwCl (wv_19 cI cJ cZ aT aT_heads aT_places aT_olders aT_sizes aT_withins aT_newest aM aM_images aM_path T_count nT_heads T_heads nT_places T_places nT_withins T_withins M_images_32) H → va_D A (wv_19 cI cJ cZ aT aT_heads aT_places aT_olders aT_sizes aT_withins aT_newest aM aM_images aM_path T_count nT_heads T_heads nT_places T_places nT_withins T_withins M_images_32) → va_S A s.heap H locs → ∀ (ls : Array Slot), lv_has ls 6 [(0, .ref aM), (1, .int x1_32), (2, .int x2_32), (3, .long x3_32)] → f_M_matches_B32 T_count nT_heads T_heads nT_places T_places nT_withins T_withins M_images_32 x1_32 x2_32 x3_32 = some o → W p l e (headSpec (ws_M_matches) rm_M_matches).room s m ([.ref aM, .int p0, .int p1, .long p2] : List Value).toArray below meth c H locs 0 0 (MQ below (WQ D vwCl (some (.int o.1)) (wv_19 cI cJ cZ aT aT_heads aT_places aT_olders aT_sizes aT_withins aT_newest aM aM_images aM_path T_count nT_heads T_heads nT_places T_places nT_withins T_withins o.2) A) ([.ref aM, .int p0, .int p1, .long p2] : List Value).toArray s 0 0 A) (F0 m 32 ls []) := by
    intro M_images_32 x1_32 x2_32 x3_32 H locs hP hD hS ls hl hf
    rw [f_M_matches_B32] at hf
    refine lv_aload_n hx hb d_M_matches_32 rfl (lv_at hl 0 rfl) ?_
    refine va_get (D := D) (ci := 3) (v := .ref aM_images) (C := RR_M) (T := FF_M) (N := 3) hx hb hts kin_M hown hK.1 hP 4 rfl rfl 1 (by decide) (hts _ k1_91) (fun _ h9 => h9) rfl d_M_matches_33 ?_
    refine lv_iconst (v := -1) hx hb d_M_matches_36 (by decide) ?_
    obtain ⟨r5, hr5, hf⟩ := of_bd hf
    refine wr_call (ws' := (wv_19 cI cJ cZ aT aT_heads aT_places aT_olders aT_sizes aT_withins aT_newest aM aM_images aM_path T_count nT_heads T_heads nT_places T_places nT_withins T_withins r5)) (va_runS (As := [.ref aM_images, .int (-1 : Int32)]) (rest := []) ⟨hx, hb, hml, hown, hts⟩ (c_JA_fill l D cI cJ cZ aM_images _ 100 M_images_32 (-1 : Int32) r5 hr5) (bigS 2 hts k2_63 k1_35 k1_3 k1_36 rfl rfl hd_JA_fill ⟨Nat.le_of_ble_eq_true rfl, Nat.le_of_ble_eq_true rfl⟩) (wr_preS hK hP hD [5] rfl (by decide) rfl) rfl rfl hl.1 rfl (lv_room (Nat.le_of_ble_eq_true rfl)) d_M_matches_37 ⟨Nat.le_of_ble_eq_true rfl, Nat.le_of_ble_eq_true rfl⟩) hP hD hS hA [5] [0, 1, 2, 3, 4] rfl rfl (by decide) (by decide) [0, 1, 2, 3, 4, 5] (by decide) rfl (fun H locs hP hD hS => ?_)
    refine lv_aload_n hx hb d_M_matches_40 rfl (lv_at hl 0 rfl) ?_
    refine lv_iload_n hx hb d_M_matches_41 rfl (lv_at hl 1 rfl) ?_
    refine lv_iload_n hx hb d_M_matches_42 rfl (lv_at hl 2 rfl) ?_
    obtain ⟨r6, hr6, hf⟩ := of_bd hf
    refine wr_call (ws' := (wv_19 cI cJ cZ aT aT_heads aT_places aT_olders aT_sizes aT_withins aT_newest aM aM_images aM_path T_count nT_heads T_heads nT_places T_places nT_withins T_withins r6.2)) (va_runV (As := [.int x1_32, .int x2_32]) (rest := []) ⟨hx, hb, hml, hown, hts⟩ (c_M_pair l D cI cJ cZ aT aM aM_images aM_path _ r5 x1_32 x2_32 r6 hr6) (bigV 2 hts k2_64 k2_66 ks_M_pair k1_5 k2_67 rfl rfl hd_M_pair ⟨Nat.le_of_ble_eq_true rfl, Nat.le_of_ble_eq_true rfl⟩) (wr_preV hK hP hD [4, 5] rfl (by decide) rfl 4 rfl rfl rfl) rfl rfl hl.1 rfl (lv_room (Nat.le_of_ble_eq_true rfl)) d_M_matches_43 ⟨Nat.le_of_ble_eq_true rfl, Nat.le_of_ble_eq_true rfl⟩) hP hD hS hA [4, 5] [0, 1, 2, 3] rfl rfl (by decide) (by decide) [0, 1, 2, 3, 4, 5] (by decide) rfl (fun H locs hP hD hS => ?_)
    refine lv_if_eq (tgt := 61) hx hb d_M_matches_46 (by decide) (fun c7 => ?_) (fun c7 => ?_)
    · have hf := ite_t c7 hf
      refine lv_iconst (v := 0) hx hb d_M_matches_61 (by decide) ?_
      obtain rfl := Option.some.inj hf
      exact W.zret (v := (0 : Int32)) hx hb hr rfl (fun t ht hW => ⟨rfl, by rw [ht]; exact hP, hD, hS.F ht⟩) hS.2.2 d_M_matches_62
    · have hf := ite_f c7 hf
      refine lv_aload_n hx hb d_M_matches_49 rfl (lv_at hl 0 rfl) ?_
      refine lv_lload_n hx hb d_M_matches_50 rfl (lv_at hl 3 rfl) ?_
      obtain ⟨r8, hr8, hf⟩ := of_bd hf
      refine wr_call (ws' := (wv_19 cI cJ cZ aT aT_heads aT_places aT_olders aT_sizes aT_withins aT_newest aM aM_images aM_path T_count nT_heads T_heads nT_places T_places nT_withins T_withins r8.2)) (va_runV (As := [.long x3_32]) (rest := []) ⟨hx, hb, hml, hown, hts⟩ (c_M_settle l D cI cJ cZ aT aT_heads aT_places aT_olders aT_sizes aT_withins aT_newest aM aM_images aM_path _ T_count nT_heads T_heads nT_places T_places nT_withins T_withins r6.2 x3_32 r8 hr8) (bigV 1 hts k2_68 k2_70 ks_M_settle k1_5 k2_71 rfl rfl hd_M_settle ⟨Nat.le_of_ble_eq_true rfl, Nat.le_of_ble_eq_true rfl⟩) (wr_preV hK hP hD [0, 1, 2, 3, 4, 5] rfl (by decide) rfl 4 rfl rfl rfl) rfl rfl hl.1 rfl (lv_room (Nat.le_of_ble_eq_true rfl)) d_M_matches_51 ⟨Nat.le_of_ble_eq_true rfl, Nat.le_of_ble_eq_true rfl⟩) hP hD hS hA [0, 1, 2, 3, 4, 5] [] rfl rfl (by decide) (by decide) [0, 1, 2, 3, 4, 5] (by decide) rfl (fun H locs hP hD hS => ?_)
      refine lv_if_eq (tgt := 61) hx hb d_M_matches_54 (by decide) (fun c9 => ?_) (fun c9 => ?_)
      · have hf := ite_t c9 hf
        refine lv_iconst (v := 0) hx hb d_M_matches_61 (by decide) ?_
        obtain rfl := Option.some.inj hf
        exact W.zret (v := (0 : Int32)) hx hb hr rfl (fun t ht hW => ⟨rfl, by rw [ht]; exact hP, hD, hS.F ht⟩) hS.2.2 d_M_matches_62
      · have hf := ite_f c9 hf
        refine lv_iconst (v := 1) hx hb d_M_matches_57 (by decide) ?_
        refine lv_goto (tgt := 62) hx hb d_M_matches_58 (by decide) ?_
        obtain rfl := Option.some.inj hf
        exact W.zret (v := (1 : Int32)) hx hb hr rfl (fun t ht hW => ⟨rfl, by rw [ht]; exact hP, hD, hS.F ht⟩) hS.2.2 d_M_matches_62
  rw [f_M_matches] at hf
  refine lv_aload_n hx hb d_M_matches_0 rfl (lv_at hl 0 rfl) ?_
  refine va_get (D := D) (ci := 3) (v := .ref aT) (C := RR_M) (T := FF_M) (N := 3) hx hb hts kin_M hown hK.1 hP 4 rfl rfl 0 (by decide) (hts _ k1_90) (fun _ h9 => h9) rfl d_M_matches_1 ?_
  refine lv_iload_n hx hb d_M_matches_4 rfl (lv_at hl 1 rfl) ?_
  obtain ⟨r1, hr1, hf⟩ := of_bd hf
  refine rd_call (va_runV (As := [.int p0]) (rest := []) ⟨hx, hb, hml, hown, hts⟩ (c_T_head l D cI cJ cZ aT aT_heads aT_places aT_olders aT_sizes aT_withins aT_newest T_count nT_heads T_heads p0 r1 hr1) (bigV 1 hts k2_62 k1_237 k1_238 k1_2 k1_239 rfl rfl hd_T_head ⟨Nat.le_of_ble_eq_true rfl, Nat.le_of_ble_eq_true rfl⟩) (rd_preV hK hP [0, 1] rfl 0 rfl rfl rfl) rfl rfl hl.1 rfl (lv_room (Nat.le_of_ble_eq_true rfl)) d_M_matches_5 ⟨Nat.le_of_ble_eq_true rfl, Nat.le_of_ble_eq_true rfl⟩) ?_
  refine lv_istore (lv' := [(5, .int r1), (0, .ref aM), (1, .int p0), (2, .int p1), (3, .long p2)]) hx hb d_M_matches_8 hl (by decide) rfl (fun ls hl => ?_)
  refine lv_iload hx hb d_M_matches_10 (lv_at hl 0 rfl) ?_
  refine lv_bipush (v := 30) hx hb d_M_matches_12 (by decide) ?_
  refine lv_icmp_ge (tgt := 32) hx hb d_M_matches_14 (by decide) (fun c2 => ?_) (fun c2 => ?_)
  · have hf := ite_t c2 hf
    exact hB32 _ _ _ _ _ _ hP hD hS _ (lv_sub hl [1, 2, 3, 4] rfl) hf
  · have hf := ite_f c2 hf
    refine lv_iload hx hb d_M_matches_17 (lv_at hl 0 rfl) ?_
    refine lv_aload_n hx hb d_M_matches_19 rfl (lv_at hl 1 rfl) ?_
    refine va_get (D := D) (ci := 3) (v := .ref aT) (C := RR_M) (T := FF_M) (N := 3) hx hb hts kin_M hown hK.1 hP 4 rfl rfl 0 (by decide) (hts _ k1_90) (fun _ h9 => h9) rfl d_M_matches_20 ?_
    refine lv_iload_n hx hb d_M_matches_23 rfl (lv_at hl 3 rfl) ?_
    obtain ⟨r3, hr3, hf⟩ := of_bd hf
    refine rd_call (va_runV (As := [.int p1]) (rest := [.int r1]) ⟨hx, hb, hml, hown, hts⟩ (c_T_head l D cI cJ cZ aT aT_heads aT_places aT_olders aT_sizes aT_withins aT_newest T_count nT_heads T_heads p1 r3 hr3) (bigV 1 hts k2_62 k1_237 k1_238 k1_2 k1_239 rfl rfl hd_T_head ⟨Nat.le_of_ble_eq_true rfl, Nat.le_of_ble_eq_true rfl⟩) (rd_preV hK hP [0, 1] rfl 0 rfl rfl rfl) rfl rfl hl.1 rfl (lv_room (Nat.le_of_ble_eq_true rfl)) d_M_matches_24 ⟨Nat.le_of_ble_eq_true rfl, Nat.le_of_ble_eq_true rfl⟩) ?_
    refine lv_icmp_eq (tgt := 32) hx hb d_M_matches_27 (by decide) (fun c4 => ?_) (fun c4 => ?_)
    · have hf := ite_t c4 hf
      exact hB32 _ _ _ _ _ _ hP hD hS _ (lv_sub hl [1, 2, 3, 4] rfl) hf
    · have hf := ite_f c4 hf
      refine lv_iconst (v := 0) hx hb d_M_matches_30 (by decide) ?_
      obtain rfl := Option.some.inj hf
      exact W.zret (v := (0 : Int32)) hx hb hr rfl (fun t ht hW => ⟨rfl, by rw [ht]; exact hP, hD, hS.F ht⟩) hS.2.2 d_M_matches_31
def f_M_covers_B84 (T_count : Int32) (nT_heads : Nat) (T_heads : (Nat → Int32)) (nT_places : Nat) (T_places : (Nat → Int32)) (nT_withins : Nat) (T_withins : (Nat → Int64)) (S_count : Int32) (S_premises : (Nat → Int32)) (S_premiseCounts : (Nat → Int32)) (S_conclusions : (Nat → Int32)) (M_images_84 : (Nat → Int32)) (x5_84 : Int32) : Option (Int32 × (Nat → Int32)) :=
  if x5_84 = 0 then
    some ((0 : Int32), M_images_84)
  else
    (f_M_settle T_count nT_heads T_heads nT_places T_places nT_withins T_withins M_images_84 (273804165120 : Int64)).bind fun r15 =>
    if r15.1 = 0 then
      some ((0 : Int32), r15.2)
    else
      some ((1 : Int32), r15.2)
def f_M_covers_L46 (T_count : Int32) (nT_heads : Nat) (T_heads : (Nat → Int32)) (nT_places : Nat) (T_places : (Nat → Int32)) (nT_withins : Nat) (T_withins : (Nat → Int64)) (S_count : Int32) (S_premises : (Nat → Int32)) (S_premiseCounts : (Nat → Int32)) (S_conclusions : (Nat → Int32)) : Nat → (Nat → Int32) → Int32 → Int32 → Int32 → Int32 → Int32 → Option (Int32 × (Nat → Int32))
  | 0, _, _, _, _, _, _ => none
  | n + 1, M_images_46, x2_46, x3_46, x4_46, x5_46, x6_46 =>
    if x4_46 ≤ x6_46 then
      f_M_covers_B84 T_count nT_heads T_heads nT_places T_places nT_withins T_withins S_count S_premises S_premiseCounts S_conclusions M_images_46 x5_46
    else
      if x5_46 = 0 then
        f_M_covers_B84 T_count nT_heads T_heads nT_places T_places nT_withins T_withins S_count S_premises S_premiseCounts S_conclusions M_images_46 x5_46
      else
        (f_S_premise S_count S_premises S_premiseCounts x2_46 x6_46).bind fun r10 =>
        (f_S_premise S_count S_premises S_premiseCounts x3_46 x6_46).bind fun r11 =>
        (f_M_pair M_images_46 r10 r11).bind fun r12 =>
        nm (x6_46 + (1 : Int32)) fun x13 =>
        (f_M_covers_L46 T_count nT_heads T_heads nT_places T_places nT_withins T_withins S_count S_premises S_premiseCounts S_conclusions n) r12.2 x2_46 x3_46 x4_46 r12.1 x13
def f_M_covers (T_count : Int32) (nT_heads : Nat) (T_heads : (Nat → Int32)) (nT_places : Nat) (T_places : (Nat → Int32)) (nT_withins : Nat) (T_withins : (Nat → Int64)) (S_count : Int32) (S_premises : (Nat → Int32)) (S_premiseCounts : (Nat → Int32)) (S_conclusions : (Nat → Int32)) (M_images : (Nat → Int32)) (p0 : Int32) (p1 : Int32) : Option (Int32 × (Nat → Int32)) :=
  (f_S_premises S_count S_premiseCounts p0).bind fun r1 =>
  (f_S_premises S_count S_premiseCounts p1).bind fun r2 =>
  if r1 = r2 then
    (f_JA_fill 100 M_images (-1 : Int32)).bind fun r4 =>
    (f_S_conclusion S_count S_conclusions p0).bind fun r5 =>
    (f_S_conclusion S_count S_conclusions p1).bind fun r6 =>
    (f_M_pair r4 r5 r6).bind fun r7 =>
    f_M_covers_L46 T_count nT_heads T_heads nT_places T_places nT_withins T_withins S_count S_premises S_premiseCounts S_conclusions FU r7.2 p0 p1 r1 r7.1 (0 : Int32)
  else
    some ((0 : Int32), M_images)
abbrev rm_M_covers : Room := { frames := 3, cells := 0, slots := 0, locals := 73 }
set_option maxHeartbeats 4000000 in
set_option maxRecDepth 100000 in
theorem c_M_covers (l : Launch) (D : va_G) (cI cJ cZ : ClassId) (aT aT_heads aT_places aT_olders aT_sizes aT_withins aT_newest aS aS_premises aS_premiseCounts aS_conclusions aS_order aM aM_images aM_path : Nat) (sz : Nat) (T_count : Int32) (nT_heads : Nat) (T_heads : (Nat → Int32)) (nT_places : Nat) (T_places : (Nat → Int32)) (nT_withins : Nat) (T_withins : (Nat → Int64)) (S_count : Int32) (S_premises : (Nat → Int32)) (S_premiseCounts : (Nat → Int32)) (S_conclusions : (Nat → Int32)) (M_images : (Nat → Int32)) (p0 : Int32) (p1 : Int32) (o : Int32 × (Nat → Int32)) (hf : f_M_covers T_count nT_heads T_heads nT_places T_places nT_withins T_withins S_count S_premises S_premiseCounts S_conclusions M_images p0 p1 = some o) : Met l y_M_covers (ws_M_covers) rm_M_covers (WPc D vwCl cI cJ cZ [.ref aM, .ref aS, .int p0, .int p1] (wv_20 cI cJ cZ aT aT_heads aT_places aT_olders aT_sizes aT_withins aT_newest aS aS_premises aS_premiseCounts aS_conclusions aS_order aM aM_images aM_path T_count nT_heads T_heads nT_places T_places nT_withins T_withins S_count S_premises S_premiseCounts S_conclusions M_images) sz) (WQ D vwCl (some (.int o.1)) (wv_20 cI cJ cZ aT aT_heads aT_places aT_olders aT_sizes aT_withins aT_newest aS aS_premises aS_premiseCounts aS_conclusions aS_order aM aM_images aM_path T_count nT_heads T_heads nT_places T_places nT_withins T_withins S_count S_premises S_premiseCounts S_conclusions o.2) (va_A (wv_20 cI cJ cZ aT aT_heads aT_places aT_olders aT_sizes aT_withins aT_newest aS aS_premises aS_premiseCounts aS_conclusions aS_order aM aM_images aM_path T_count nT_heads T_heads nT_places T_places nT_withins T_withins S_count S_premises S_premiseCounts S_conclusions M_images) sz)) 0 0 (va_A (wv_20 cI cJ cZ aT aT_heads aT_places aT_olders aT_sizes aT_withins aT_newest aS aS_premises aS_premiseCounts aS_conclusions aS_order aM aM_images aM_path T_count nT_heads T_heads nT_places T_places nT_withins T_withins S_count S_premises S_premiseCounts S_conclusions M_images) sz) := by
  refine Met.ofW (cc := b_M_covers) (maxL := 7) (ret := (some .boolean)) (by decide) rfl ?_
  intro p e s m args below meth c s₁ B hml hv
  obtain ⟨rfl, rfl, hP, hK, hD0⟩ := hv
  have hx := B.exec
  have hb := B.bytes
  have hr := B.returns
  have hts : ∀ w ∈ BG, w.before _ s = true := fun w h => atoms_spec (ws := (ws_M_covers)) B.pre w (List.mem_cons_of_mem _ h)
  have hown : s.vm.findClass RR_M = some m.cls := findClass_of_methodNamed B.named
  have hlocks := B.notSynchronized
  have hD := hD0.self (sz := s.heap.size)
  have hA : ∀ q : Nat, s.heap.size ≤ q → va_A (wv_20 cI cJ cZ aT aT_heads aT_places aT_olders aT_sizes aT_withins aT_newest aS aS_premises aS_premiseCounts aS_conclusions aS_order aM aM_images aM_path T_count nT_heads T_heads nT_places T_places nT_withins T_withins S_count S_premises S_premiseCounts S_conclusions M_images) s.heap.size q := fun q h => Or.inr h
  have hS : va_S (va_A (wv_20 cI cJ cZ aT aT_heads aT_places aT_olders aT_sizes aT_withins aT_newest aS aS_premises aS_premiseCounts aS_conclusions aS_order aM aM_images aM_path T_count nT_heads T_heads nT_places T_places nT_withins T_withins S_count S_premises S_premiseCounts S_conclusions M_images) s.heap.size) s.heap s.heap [] := va_S.rf
  generalize va_A (wv_20 cI cJ cZ aT aT_heads aT_places aT_olders aT_sizes aT_withins aT_newest aS aS_premises aS_premiseCounts aS_conclusions aS_order aM aM_images aM_path T_count nT_heads T_heads nT_places T_places nT_withins T_withins S_count S_premises S_premiseCounts S_conclusions M_images) s.heap.size = A at hD hA hS ⊢
  have hl := lv_entry ([.ref aM, .ref aS, .int p0, .int p1]) (n := 7) (Nat.le_of_ble_eq_true rfl)
  rw [lg_entry_eq]
  generalize (lg_sl ([.ref aM, .ref aS, .int p0, .int p1]) ++ List.replicate (7 - (lg_sl ([.ref aM, .ref aS, .int p0, .int p1])).length) Slot.unset).toArray = ls at hl ⊢
  have hl : lv_has ls 7 [(0, .ref aM), (1, .ref aS), (2, .int p0), (3, .int p1)] := hl
  have hB84 : ∀ (M_images_84 : (Nat → Int32)) (x5_84 : Int32), ∀ (H : Heap) (locs : List Loc), va_P D vwCl (wv_20 cI cJ cZ aT aT_heads aT_places aT_olders aT_sizes aT_withins aT_newest aS aS_premises aS_premiseCounts aS_conclusions aS_order aM aM_images aM_path T_count nT_heads T_heads nT_places T_places nT_withins T_withins S_count S_premises S_premiseCounts S_conclusions M_images_84) H → va_D A (wv_20 cI cJ cZ aT aT_heads aT_places aT_olders aT_sizes aT_withins aT_newest aS aS_premises aS_premiseCounts aS_conclusions aS_order aM aM_images aM_path T_count nT_heads T_heads nT_places T_places nT_withins T_withins S_count S_premises S_premiseCounts S_conclusions M_images_84) → va_S A s.heap H locs → ∀ (ls : Array Slot), lv_has ls 7 [(0, .ref aM), (5, .int x5_84)] → f_M_covers_B84 T_count nT_heads T_heads nT_places T_places nT_withins T_withins S_count S_premises S_premiseCounts S_conclusions M_images_84 x5_84 = some o → W p l e (headSpec (ws_M_covers) rm_M_covers).room s m ([.ref aM, .ref aS, .int p0, .int p1] : List Value).toArray below meth c H locs 0 0 (MQ below (WQ D vwCl (some (.int o.1)) (wv_20 cI cJ cZ aT aT_heads aT_places aT_olders aT_sizes aT_withins aT_newest aS aS_premises aS_premiseCounts aS_conclusions aS_order aM aM_images aM_path T_count nT_heads T_heads nT_places T_places nT_withins T_withins S_count S_premises S_premiseCounts S_conclusions o.2) A) ([.ref aM, .ref aS, .int p0, .int p1] : List Value).toArray s 0 0 A) (F0 m 84 ls []) := by
    intro M_images_84 x5_84 H locs hP hD hS ls hl hf
    rw [f_M_covers_B84] at hf
    refine lv_iload hx hb d_M_covers_84 (lv_at hl 1 rfl) ?_
    refine lv_if_eq (tgt := 103) hx hb d_M_covers_86 (by decide) (fun c14 => ?_) (fun c14 => ?_)
    · have hf := ite_t c14 hf
      refine lv_iconst (v := 0) hx hb d_M_covers_103 (by decide) ?_
      obtain rfl := Option.some.inj hf
      exact W.zret (v := (0 : Int32)) hx hb hr rfl (fun t ht hW => ⟨rfl, by rw [ht]; exact hP, hD, hS.F ht⟩) hS.2.2 d_M_covers_104
    · have hf := ite_f c14 hf
      refine lv_aload_n hx hb d_M_covers_89 rfl (lv_at hl 0 rfl) ?_
      refine lv_ldc2 (v := 273804165120) hx hb hown (hts _ k3_205) d_M_covers_90 ?_
      obtain ⟨r15, hr15, hf⟩ := of_bd hf
      refine wr_call (ws' := (wv_20 cI cJ cZ aT aT_heads aT_places aT_olders aT_sizes aT_withins aT_newest aS aS_premises aS_premiseCounts aS_conclusions aS_order aM aM_images aM_path T_count nT_heads T_heads nT_places T_places nT_withins T_withins S_count S_premises S_premiseCounts S_conclusions r15.2)) (va_runV (As := [.long (273804165120 : Int64)]) (rest := []) ⟨hx, hb, hml, hown, hts⟩ (c_M_settle l D cI cJ cZ aT aT_heads aT_places aT_olders aT_sizes aT_withins aT_newest aM aM_images aM_path _ T_count nT_heads T_heads nT_places T_places nT_withins T_withins M_images_84 (273804165120 : Int64) r15 hr15) (bigV 1 hts k2_68 k2_70 ks_M_settle k1_5 k2_71 rfl rfl hd_M_settle ⟨Nat.le_of_ble_eq_true rfl, Nat.le_of_ble_eq_true rfl⟩) (wr_preV hK hP hD [0, 1, 2, 3, 8, 9] rfl (by decide) rfl 8 rfl rfl rfl) rfl rfl hl.1 rfl (lv_room (Nat.le_of_ble_eq_true rfl)) d_M_covers_93 ⟨Nat.le_of_ble_eq_true rfl, Nat.le_of_ble_eq_true rfl⟩) hP hD hS hA [0, 1, 2, 3, 8, 9] [4, 5, 6, 7] rfl rfl (by decide) (by decide) [4, 5, 6, 7, 0, 1, 2, 3, 8, 9] (by decide) rfl (fun H locs hP hD hS => ?_)
      refine lv_if_eq (tgt := 103) hx hb d_M_covers_96 (by decide) (fun c16 => ?_) (fun c16 => ?_)
      · have hf := ite_t c16 hf
        refine lv_iconst (v := 0) hx hb d_M_covers_103 (by decide) ?_
        obtain rfl := Option.some.inj hf
        exact W.zret (v := (0 : Int32)) hx hb hr rfl (fun t ht hW => ⟨rfl, by rw [ht]; exact hP, hD, hS.F ht⟩) hS.2.2 d_M_covers_104
      · have hf := ite_f c16 hf
        refine lv_iconst (v := 1) hx hb d_M_covers_99 (by decide) ?_
        refine lv_goto (tgt := 104) hx hb d_M_covers_100 (by decide) ?_
        obtain rfl := Option.some.inj hf
        exact W.zret (v := (1 : Int32)) hx hb hr rfl (fun t ht hW => ⟨rfl, by rw [ht]; exact hP, hD, hS.F ht⟩) hS.2.2 d_M_covers_104
  have hL46 : ∀ (n46 : Nat), ∀ (M_images_46 : (Nat → Int32)) (x2_46 : Int32) (x3_46 : Int32) (x4_46 : Int32) (x5_46 : Int32) (x6_46 : Int32), ∀ (H : Heap) (locs : List Loc), va_P D vwCl (wv_20 cI cJ cZ aT aT_heads aT_places aT_olders aT_sizes aT_withins aT_newest aS aS_premises aS_premiseCounts aS_conclusions aS_order aM aM_images aM_path T_count nT_heads T_heads nT_places T_places nT_withins T_withins S_count S_premises S_premiseCounts S_conclusions M_images_46) H → va_D A (wv_20 cI cJ cZ aT aT_heads aT_places aT_olders aT_sizes aT_withins aT_newest aS aS_premises aS_premiseCounts aS_conclusions aS_order aM aM_images aM_path T_count nT_heads T_heads nT_places T_places nT_withins T_withins S_count S_premises S_premiseCounts S_conclusions M_images_46) → va_S A s.heap H locs → ∀ (ls : Array Slot), lv_has ls 7 [(0, .ref aM), (1, .ref aS), (2, .int x2_46), (3, .int x3_46), (4, .int x4_46), (5, .int x5_46), (6, .int x6_46)] → f_M_covers_L46 T_count nT_heads T_heads nT_places T_places nT_withins T_withins S_count S_premises S_premiseCounts S_conclusions n46 M_images_46 x2_46 x3_46 x4_46 x5_46 x6_46 = some o → W p l e (headSpec (ws_M_covers) rm_M_covers).room s m ([.ref aM, .ref aS, .int p0, .int p1] : List Value).toArray below meth c H locs 0 0 (MQ below (WQ D vwCl (some (.int o.1)) (wv_20 cI cJ cZ aT aT_heads aT_places aT_olders aT_sizes aT_withins aT_newest aS aS_premises aS_premiseCounts aS_conclusions aS_order aM aM_images aM_path T_count nT_heads T_heads nT_places T_places nT_withins T_withins S_count S_premises S_premiseCounts S_conclusions o.2) A) ([.ref aM, .ref aS, .int p0, .int p1] : List Value).toArray s 0 0 A) (F0 m 46 ls []) := by
    intro n46
    induction n46 with
    | zero =>
      intro M_images_46 x2_46 x3_46 x4_46 x5_46 x6_46 H locs hP hD hS ls hl hf
      rw [f_M_covers_L46] at hf
      cases hf
    | succ n46 ih46 =>
      intro M_images_46 x2_46 x3_46 x4_46 x5_46 x6_46 H locs hP hD hS ls hl hf
      rw [f_M_covers_L46] at hf
      refine lv_iload hx hb d_M_covers_46 (lv_at hl 6 rfl) ?_
      refine lv_iload hx hb d_M_covers_48 (lv_at hl 4 rfl) ?_
      refine lv_icmp_ge (tgt := 84) hx hb d_M_covers_50 (by decide) (fun c8 => ?_) (fun c8 => ?_)
      · have hf := ite_t c8 hf
        exact hB84 _ _ _ _ hP hD hS _ (lv_sub hl [0, 5] rfl) hf
      · have hf := ite_f c8 hf
        refine lv_iload hx hb d_M_covers_53 (lv_at hl 5 rfl) ?_
        refine lv_if_eq (tgt := 84) hx hb d_M_covers_55 (by decide) (fun c9 => ?_) (fun c9 => ?_)
        · have hf := ite_t c9 hf
          exact hB84 _ _ _ _ hP hD hS _ (lv_sub hl [0, 5] rfl) hf
        · have hf := ite_f c9 hf
          refine lv_aload_n hx hb d_M_covers_58 rfl (lv_at hl 0 rfl) ?_
          refine lv_aload_n hx hb d_M_covers_59 rfl (lv_at hl 1 rfl) ?_
          refine lv_iload_n hx hb d_M_covers_60 rfl (lv_at hl 2 rfl) ?_
          refine lv_iload hx hb d_M_covers_61 (lv_at hl 6 rfl) ?_
          obtain ⟨r10, hr10, hf⟩ := of_bd hf
          refine rd_call (va_runV (As := [.int x2_46, .int x6_46]) (rest := [.ref aM]) ⟨hx, hb, hml, hown, hts⟩ (c_S_premise l D cI cJ cZ aS aS_premises aS_premiseCounts aS_conclusions aS_order S_count S_premises S_premiseCounts x2_46 x6_46 r10 hr10) (bigV 2 hts k3_204 k3_88 k3_89 k1_4 k3_90 rfl rfl hd_S_premise ⟨Nat.le_of_ble_eq_true rfl, Nat.le_of_ble_eq_true rfl⟩) (rd_preV hK hP [4, 5, 6] rfl 4 rfl rfl rfl) rfl rfl hl.1 rfl (lv_room (Nat.le_of_ble_eq_true rfl)) d_M_covers_63 ⟨Nat.le_of_ble_eq_true rfl, Nat.le_of_ble_eq_true rfl⟩) ?_
          refine lv_aload_n hx hb d_M_covers_66 rfl (lv_at hl 1 rfl) ?_
          refine lv_iload_n hx hb d_M_covers_67 rfl (lv_at hl 3 rfl) ?_
          refine lv_iload hx hb d_M_covers_68 (lv_at hl 6 rfl) ?_
          obtain ⟨r11, hr11, hf⟩ := of_bd hf
          refine rd_call (va_runV (As := [.int x3_46, .int x6_46]) (rest := [.int r10, .ref aM]) ⟨hx, hb, hml, hown, hts⟩ (c_S_premise l D cI cJ cZ aS aS_premises aS_premiseCounts aS_conclusions aS_order S_count S_premises S_premiseCounts x3_46 x6_46 r11 hr11) (bigV 2 hts k3_204 k3_88 k3_89 k1_4 k3_90 rfl rfl hd_S_premise ⟨Nat.le_of_ble_eq_true rfl, Nat.le_of_ble_eq_true rfl⟩) (rd_preV hK hP [4, 5, 6] rfl 4 rfl rfl rfl) rfl rfl hl.1 rfl (lv_room (Nat.le_of_ble_eq_true rfl)) d_M_covers_70 ⟨Nat.le_of_ble_eq_true rfl, Nat.le_of_ble_eq_true rfl⟩) ?_
          obtain ⟨r12, hr12, hf⟩ := of_bd hf
          refine wr_call (ws' := (wv_20 cI cJ cZ aT aT_heads aT_places aT_olders aT_sizes aT_withins aT_newest aS aS_premises aS_premiseCounts aS_conclusions aS_order aM aM_images aM_path T_count nT_heads T_heads nT_places T_places nT_withins T_withins S_count S_premises S_premiseCounts S_conclusions r12.2)) (va_runV (As := [.int r10, .int r11]) (rest := []) ⟨hx, hb, hml, hown, hts⟩ (c_M_pair l D cI cJ cZ aT aM aM_images aM_path _ M_images_46 r10 r11 r12 hr12) (bigV 2 hts k2_64 k2_66 ks_M_pair k1_5 k2_67 rfl rfl hd_M_pair ⟨Nat.le_of_ble_eq_true rfl, Nat.le_of_ble_eq_true rfl⟩) (wr_preV hK hP hD [8, 9] rfl (by decide) rfl 8 rfl rfl rfl) rfl rfl hl.1 rfl (lv_room (Nat.le_of_ble_eq_true rfl)) d_M_covers_73 ⟨Nat.le_of_ble_eq_true rfl, Nat.le_of_ble_eq_true rfl⟩) hP hD hS hA [8, 9] [0, 1, 2, 3, 4, 5, 6, 7] rfl rfl (by decide) (by decide) [0, 1, 2, 3, 4, 5, 6, 7, 8, 9] (by decide) rfl (fun H locs hP hD hS => ?_)
          refine lv_istore (lv' := [(5, .int r12.1), (0, .ref aM), (1, .ref aS), (2, .int x2_46), (3, .int x3_46), (4, .int x4_46), (6, .int x6_46)]) hx hb d_M_covers_76 hl (by decide) rfl (fun ls hl => ?_)
          obtain ⟨x13, ex13⟩ : ∃ y : Int32, y = x6_46 + (1 : Int32) := ⟨_, rfl⟩
          refine lv_iinc (v := x13) (lv' := [(6, .int x13), (5, .int r12.1), (0, .ref aM), (1, .ref aS), (2, .int x2_46), (3, .int x3_46), (4, .int x4_46)]) hx hb d_M_covers_78 hl (k := 6) rfl (by rw [ex13]; rfl) (by decide) rfl (fun ls hl => ?_)
          have hf := of_nm ex13 hf
          refine lv_goto (tgt := 46) hx hb d_M_covers_81 (by decide) ?_
          exact ih46 _ _ _ _ _ _ _ _ hP hD hS _ (lv_sub hl [2, 3, 4, 5, 6, 1, 0] rfl) hf
  rw [f_M_covers] at hf
  refine lv_aload_n hx hb d_M_covers_0 rfl (lv_at hl 1 rfl) ?_
  refine lv_iload_n hx hb d_M_covers_1 rfl (lv_at hl 2 rfl) ?_
  obtain ⟨r1, hr1, hf⟩ := of_bd hf
  refine rd_call (va_runV (As := [.int p0]) (rest := []) ⟨hx, hb, hml, hown, hts⟩ (c_S_premises l D cI cJ cZ aS aS_premises aS_premiseCounts aS_conclusions aS_order S_count S_premiseCounts p0 r1 hr1) (bigV 1 hts k3_202 k3_84 k3_85 k1_4 k3_86 rfl rfl hd_S_premises ⟨Nat.le_of_ble_eq_true rfl, Nat.le_of_ble_eq_true rfl⟩) (rd_preV hK hP [4, 6] rfl 4 rfl rfl rfl) rfl rfl hl.1 rfl (lv_room (Nat.le_of_ble_eq_true rfl)) d_M_covers_2 ⟨Nat.le_of_ble_eq_true rfl, Nat.le_of_ble_eq_true rfl⟩) ?_
  refine lv_istore (lv' := [(4, .int r1), (0, .ref aM), (1, .ref aS), (2, .int p0), (3, .int p1)]) hx hb d_M_covers_5 hl (by decide) rfl (fun ls hl => ?_)
  refine lv_iload hx hb d_M_covers_7 (lv_at hl 0 rfl) ?_
  refine lv_aload_n hx hb d_M_covers_9 rfl (lv_at hl 2 rfl) ?_
  refine lv_iload_n hx hb d_M_covers_10 rfl (lv_at hl 4 rfl) ?_
  obtain ⟨r2, hr2, hf⟩ := of_bd hf
  refine rd_call (va_runV (As := [.int p1]) (rest := [.int r1]) ⟨hx, hb, hml, hown, hts⟩ (c_S_premises l D cI cJ cZ aS aS_premises aS_premiseCounts aS_conclusions aS_order S_count S_premiseCounts p1 r2 hr2) (bigV 1 hts k3_202 k3_84 k3_85 k1_4 k3_86 rfl rfl hd_S_premises ⟨Nat.le_of_ble_eq_true rfl, Nat.le_of_ble_eq_true rfl⟩) (rd_preV hK hP [4, 6] rfl 4 rfl rfl rfl) rfl rfl hl.1 rfl (lv_room (Nat.le_of_ble_eq_true rfl)) d_M_covers_11 ⟨Nat.le_of_ble_eq_true rfl, Nat.le_of_ble_eq_true rfl⟩) ?_
  refine lv_icmp_eq (tgt := 19) hx hb d_M_covers_14 (by decide) (fun c3 => ?_) (fun c3 => ?_)
  · have hf := ite_t c3 hf
    refine lv_aload_n hx hb d_M_covers_19 rfl (lv_at hl 1 rfl) ?_
    refine va_get (D := D) (ci := 3) (v := .ref aM_images) (C := RR_M) (T := FF_M) (N := 3) hx hb hts kin_M hown hK.1 hP 8 rfl rfl 1 (by decide) (hts _ k1_91) (fun _ h9 => h9) rfl d_M_covers_20 ?_
    refine lv_iconst (v := -1) hx hb d_M_covers_23 (by decide) ?_
    obtain ⟨r4, hr4, hf⟩ := of_bd hf
    refine wr_call (ws' := (wv_20 cI cJ cZ aT aT_heads aT_places aT_olders aT_sizes aT_withins aT_newest aS aS_premises aS_premiseCounts aS_conclusions aS_order aM aM_images aM_path T_count nT_heads T_heads nT_places T_places nT_withins T_withins S_count S_premises S_premiseCounts S_conclusions r4)) (va_runS (As := [.ref aM_images, .int (-1 : Int32)]) (rest := []) ⟨hx, hb, hml, hown, hts⟩ (c_JA_fill l D cI cJ cZ aM_images _ 100 M_images (-1 : Int32) r4 hr4) (bigS 2 hts k2_63 k1_35 k1_3 k1_36 rfl rfl hd_JA_fill ⟨Nat.le_of_ble_eq_true rfl, Nat.le_of_ble_eq_true rfl⟩) (wr_preS hK hP hD [9] rfl (by decide) rfl) rfl rfl hl.1 rfl (lv_room (Nat.le_of_ble_eq_true rfl)) d_M_covers_24 ⟨Nat.le_of_ble_eq_true rfl, Nat.le_of_ble_eq_true rfl⟩) hP hD hS hA [9] [0, 1, 2, 3, 4, 5, 6, 7, 8] rfl rfl (by decide) (by decide) [0, 1, 2, 3, 4, 5, 6, 7, 8, 9] (by decide) rfl (fun H locs hP hD hS => ?_)
    refine lv_aload_n hx hb d_M_covers_27 rfl (lv_at hl 1 rfl) ?_
    refine lv_aload_n hx hb d_M_covers_28 rfl (lv_at hl 2 rfl) ?_
    refine lv_iload_n hx hb d_M_covers_29 rfl (lv_at hl 3 rfl) ?_
    obtain ⟨r5, hr5, hf⟩ := of_bd hf
    refine rd_call (va_runV (As := [.int p0]) (rest := [.ref aM]) ⟨hx, hb, hml, hown, hts⟩ (c_S_conclusion l D cI cJ cZ aS aS_premises aS_premiseCounts aS_conclusions aS_order S_count S_conclusions p0 r5 hr5) (bigV 1 hts k3_203 k2_101 k2_102 k1_4 k2_103 rfl rfl hd_S_conclusion ⟨Nat.le_of_ble_eq_true rfl, Nat.le_of_ble_eq_true rfl⟩) (rd_preV hK hP [4, 7] rfl 4 rfl rfl rfl) rfl rfl hl.1 rfl (lv_room (Nat.le_of_ble_eq_true rfl)) d_M_covers_30 ⟨Nat.le_of_ble_eq_true rfl, Nat.le_of_ble_eq_true rfl⟩) ?_
    refine lv_aload_n hx hb d_M_covers_33 rfl (lv_at hl 2 rfl) ?_
    refine lv_iload_n hx hb d_M_covers_34 rfl (lv_at hl 4 rfl) ?_
    obtain ⟨r6, hr6, hf⟩ := of_bd hf
    refine rd_call (va_runV (As := [.int p1]) (rest := [.int r5, .ref aM]) ⟨hx, hb, hml, hown, hts⟩ (c_S_conclusion l D cI cJ cZ aS aS_premises aS_premiseCounts aS_conclusions aS_order S_count S_conclusions p1 r6 hr6) (bigV 1 hts k3_203 k2_101 k2_102 k1_4 k2_103 rfl rfl hd_S_conclusion ⟨Nat.le_of_ble_eq_true rfl, Nat.le_of_ble_eq_true rfl⟩) (rd_preV hK hP [4, 7] rfl 4 rfl rfl rfl) rfl rfl hl.1 rfl (lv_room (Nat.le_of_ble_eq_true rfl)) d_M_covers_35 ⟨Nat.le_of_ble_eq_true rfl, Nat.le_of_ble_eq_true rfl⟩) ?_
    obtain ⟨r7, hr7, hf⟩ := of_bd hf
    refine wr_call (ws' := (wv_20 cI cJ cZ aT aT_heads aT_places aT_olders aT_sizes aT_withins aT_newest aS aS_premises aS_premiseCounts aS_conclusions aS_order aM aM_images aM_path T_count nT_heads T_heads nT_places T_places nT_withins T_withins S_count S_premises S_premiseCounts S_conclusions r7.2)) (va_runV (As := [.int r5, .int r6]) (rest := []) ⟨hx, hb, hml, hown, hts⟩ (c_M_pair l D cI cJ cZ aT aM aM_images aM_path _ r4 r5 r6 r7 hr7) (bigV 2 hts k2_64 k2_66 ks_M_pair k1_5 k2_67 rfl rfl hd_M_pair ⟨Nat.le_of_ble_eq_true rfl, Nat.le_of_ble_eq_true rfl⟩) (wr_preV hK hP hD [8, 9] rfl (by decide) rfl 8 rfl rfl rfl) rfl rfl hl.1 rfl (lv_room (Nat.le_of_ble_eq_true rfl)) d_M_covers_38 ⟨Nat.le_of_ble_eq_true rfl, Nat.le_of_ble_eq_true rfl⟩) hP hD hS hA [8, 9] [0, 1, 2, 3, 4, 5, 6, 7] rfl rfl (by decide) (by decide) [0, 1, 2, 3, 4, 5, 6, 7, 8, 9] (by decide) rfl (fun H locs hP hD hS => ?_)
    refine lv_istore (lv' := [(5, .int r7.1), (4, .int r1), (0, .ref aM), (1, .ref aS), (2, .int p0), (3, .int p1)]) hx hb d_M_covers_41 hl (by decide) rfl (fun ls hl => ?_)
    refine lv_iconst (v := 0) hx hb d_M_covers_43 (by decide) ?_
    refine lv_istore (lv' := [(6, .int (0 : Int32)), (5, .int r7.1), (4, .int r1), (0, .ref aM), (1, .ref aS), (2, .int p0), (3, .int p1)]) hx hb d_M_covers_44 hl (by decide) rfl (fun ls hl => ?_)
    exact hL46 FU _ _ _ _ _ _ _ _ hP hD hS _ (lv_sub hl [3, 4, 5, 6, 2, 1, 0] rfl) hf
  · have hf := ite_f c3 hf
    refine lv_iconst (v := 0) hx hb d_M_covers_17 (by decide) ?_
    obtain rfl := Option.some.inj hf
    exact W.zret (v := (0 : Int32)) hx hb hr rfl (fun t ht hW => ⟨rfl, by rw [ht]; exact hP, hD, hS.F ht⟩) hS.2.2 d_M_covers_18
def f_M_imageOfLeaf (T_count : Int32) (nT_heads : Nat) (T_heads : (Nat → Int32)) (nT_places : Nat) (T_places : (Nat → Int32)) (nT_olders : Nat) (T_olders : (Nat → Int32)) (T_newest : (Nat → Int32)) (M_images : (Nat → Int32)) (p0 : Int32) : Option (Int32) :=
  (f_T_seekLeaf T_count nT_heads T_heads nT_places T_places nT_olders T_olders T_newest p0).bind fun r1 =>
  (f_M_image M_images r1).bind fun r2 =>
  some r2
abbrev rm_M_imageOfLeaf : Room := { frames := 2, cells := 0, slots := 0, locals := 49 }
set_option maxHeartbeats 4000000 in
set_option maxRecDepth 100000 in
theorem c_M_imageOfLeaf (l : Launch) (D : va_G) (cI cJ cZ : ClassId) (aT aT_heads aT_places aT_olders aT_sizes aT_withins aT_newest aM aM_images aM_path : Nat) (T_count : Int32) (nT_heads : Nat) (T_heads : (Nat → Int32)) (nT_places : Nat) (T_places : (Nat → Int32)) (nT_olders : Nat) (T_olders : (Nat → Int32)) (T_newest : (Nat → Int32)) (M_images : (Nat → Int32)) (p0 : Int32) (o : Int32) (hf : f_M_imageOfLeaf T_count nT_heads T_heads nT_places T_places nT_olders T_olders T_newest M_images p0 = some o) : Met l y_M_imageOfLeaf (ws_M_imageOfLeaf) rm_M_imageOfLeaf (RPc D vwCl cI cJ cZ [.ref aM, .int p0] (wv_21 cI cJ cZ aT aT_heads aT_places aT_olders aT_sizes aT_withins aT_newest aM aM_images aM_path T_count nT_heads T_heads nT_places T_places nT_olders T_olders T_newest M_images)) (RQ (some (.int o))) 0 0 (fun _ => False) := by
  refine Met.ofW (cc := b_M_imageOfLeaf) (maxL := 2) (ret := (some .int)) (by decide) rfl ?_
  intro p e s m args below meth c s₁ B hml hv
  obtain ⟨rfl, hP, hK⟩ := hv
  have hx := B.exec
  have hb := B.bytes
  have hr := B.returns
  have hts : ∀ w ∈ BG, w.before _ s = true := fun w h => atoms_spec (ws := (ws_M_imageOfLeaf)) B.pre w (List.mem_cons_of_mem _ h)
  have hown : s.vm.findClass RR_M = some m.cls := findClass_of_methodNamed B.named
  have hlocks := B.notSynchronized
  have hl := lv_entry ([.ref aM, .int p0]) (n := 2) (Nat.le_of_ble_eq_true rfl)
  rw [lg_entry_eq]
  generalize (lg_sl ([.ref aM, .int p0]) ++ List.replicate (2 - (lg_sl ([.ref aM, .int p0])).length) Slot.unset).toArray = ls at hl ⊢
  have hl : lv_has ls 2 [(0, .ref aM), (1, .int p0)] := hl
  rw [f_M_imageOfLeaf] at hf
  refine lv_aload_n hx hb d_M_imageOfLeaf_0 rfl (lv_at hl 0 rfl) ?_
  refine lv_aload_n hx hb d_M_imageOfLeaf_1 rfl (lv_at hl 0 rfl) ?_
  refine va_get (D := D) (ci := 3) (v := .ref aT) (C := RR_M) (T := FF_M) (N := 3) hx hb hts kin_M hown hK.1 hP 5 rfl rfl 0 (by decide) (hts _ k1_90) (fun _ h9 => h9) rfl d_M_imageOfLeaf_2 ?_
  refine lv_iload_n hx hb d_M_imageOfLeaf_5 rfl (lv_at hl 1 rfl) ?_
  obtain ⟨r1, hr1, hf⟩ := of_bd hf
  refine rd_call (va_runV (As := [.int p0]) (rest := [.ref aM]) ⟨hx, hb, hml, hown, hts⟩ (c_T_seekLeaf l D cI cJ cZ aT aT_heads aT_places aT_olders aT_sizes aT_withins aT_newest T_count nT_heads T_heads nT_places T_places nT_olders T_olders T_newest p0 r1 hr1) (bigV 1 hts k2_85 k2_86 k2_87 k1_2 k2_88 rfl rfl hd_T_seekLeaf ⟨Nat.le_of_ble_eq_true rfl, Nat.le_of_ble_eq_true rfl⟩) (rd_preV hK hP [0, 1, 2, 3, 4] rfl 0 rfl rfl rfl) rfl rfl hl.1 rfl (lv_room (Nat.le_of_ble_eq_true rfl)) d_M_imageOfLeaf_6 ⟨Nat.le_of_ble_eq_true rfl, Nat.le_of_ble_eq_true rfl⟩) ?_
  obtain ⟨r2, hr2, hf⟩ := of_bd hf
  refine rd_call (va_runV (As := [.int r1]) (rest := []) ⟨hx, hb, hml, hown, hts⟩ (c_M_image l D cI cJ cZ aT aM aM_images aM_path M_images r1 r2 hr2) (bigV 1 hts k2_96 k2_98 ks_M_image k1_5 k2_99 rfl rfl hd_M_image ⟨Nat.le_of_ble_eq_true rfl, Nat.le_of_ble_eq_true rfl⟩) (rd_preV hK hP [5, 6] rfl 5 rfl rfl rfl) rfl rfl hl.1 rfl (lv_room (Nat.le_of_ble_eq_true rfl)) d_M_imageOfLeaf_9 ⟨Nat.le_of_ble_eq_true rfl, Nat.le_of_ble_eq_true rfl⟩) ?_
  obtain rfl := Option.some.inj hf
  exact W.iret (v := r2) hx hb hr (fun t ht hW => ⟨rfl, ht⟩) (fun q h => by cases h) d_M_imageOfLeaf_12
def f_M_placeWithoutImage_L2 (T_count : Int32) (nT_places : Nat) (T_places : (Nat → Int32)) (M_images : (Nat → Int32)) : Nat → Int32 → Int32 → Option (Int32)
  | 0, _, _ => none
  | n + 1, x1_2, x2_2 =>
    if (3 : Int32) ≤ x2_2 then
      some (-1 : Int32)
    else
      (f_T_place T_count nT_places T_places x1_2 x2_2).bind fun r2 =>
      if r2 = (-1 : Int32) then
        nm (x2_2 + (1 : Int32)) fun x4 =>
        (f_M_placeWithoutImage_L2 T_count nT_places T_places M_images n) x1_2 x4
      else
        (f_M_image M_images r2).bind fun r5 =>
        if r5 = (-1 : Int32) then
          some r2
        else
          nm (x2_2 + (1 : Int32)) fun x7 =>
          (f_M_placeWithoutImage_L2 T_count nT_places T_places M_images n) x1_2 x7
def f_M_placeWithoutImage (T_count : Int32) (nT_places : Nat) (T_places : (Nat → Int32)) (M_images : (Nat → Int32)) (p0 : Int32) : Option (Int32) :=
  f_M_placeWithoutImage_L2 T_count nT_places T_places M_images FU p0 (0 : Int32)
abbrev rm_M_placeWithoutImage : Room := { frames := 1, cells := 0, slots := 0, locals := 22 }
set_option maxHeartbeats 4000000 in
set_option maxRecDepth 100000 in
theorem c_M_placeWithoutImage (l : Launch) (D : va_G) (cI cJ cZ : ClassId) (aT aT_heads aT_places aT_olders aT_sizes aT_withins aT_newest aM aM_images aM_path : Nat) (T_count : Int32) (nT_places : Nat) (T_places : (Nat → Int32)) (M_images : (Nat → Int32)) (p0 : Int32) (o : Int32) (hf : f_M_placeWithoutImage T_count nT_places T_places M_images p0 = some o) : Met l y_M_placeWithoutImage (ws_M_placeWithoutImage) rm_M_placeWithoutImage (RPc D vwCl cI cJ cZ [.ref aM, .int p0] (wv_22 cI cJ cZ aT aT_heads aT_places aT_olders aT_sizes aT_withins aT_newest aM aM_images aM_path T_count nT_places T_places M_images)) (RQ (some (.int o))) 0 0 (fun _ => False) := by
  refine Met.ofW (cc := b_M_placeWithoutImage) (maxL := 4) (ret := (some .int)) (by decide) rfl ?_
  intro p e s m args below meth c s₁ B hml hv
  obtain ⟨rfl, hP, hK⟩ := hv
  have hx := B.exec
  have hb := B.bytes
  have hr := B.returns
  have hts : ∀ w ∈ BG, w.before _ s = true := fun w h => atoms_spec (ws := (ws_M_placeWithoutImage)) B.pre w (List.mem_cons_of_mem _ h)
  have hown : s.vm.findClass RR_M = some m.cls := findClass_of_methodNamed B.named
  have hlocks := B.notSynchronized
  have hl := lv_entry ([.ref aM, .int p0]) (n := 4) (Nat.le_of_ble_eq_true rfl)
  rw [lg_entry_eq]
  generalize (lg_sl ([.ref aM, .int p0]) ++ List.replicate (4 - (lg_sl ([.ref aM, .int p0])).length) Slot.unset).toArray = ls at hl ⊢
  have hl : lv_has ls 4 [(0, .ref aM), (1, .int p0)] := hl
  have hL2 : ∀ (n2 : Nat), ∀ (x1_2 : Int32) (x2_2 : Int32), ∀ (ls : Array Slot), lv_has ls 4 [(0, .ref aM), (1, .int x1_2), (2, .int x2_2)] → f_M_placeWithoutImage_L2 T_count nT_places T_places M_images n2 x1_2 x2_2 = some o → W p l e (headSpec (ws_M_placeWithoutImage) rm_M_placeWithoutImage).room s m ([.ref aM, .int p0] : List Value).toArray below meth c s.heap [] 0 0 (MQ below (RQ (some (.int o))) ([.ref aM, .int p0] : List Value).toArray s 0 0 (fun _ => False)) (F0 m 2 ls []) := by
    intro n2
    induction n2 with
    | zero =>
      intro x1_2 x2_2 ls hl hf
      rw [f_M_placeWithoutImage_L2] at hf
      cases hf
    | succ n2 ih2 =>
      intro x1_2 x2_2 ls hl hf
      rw [f_M_placeWithoutImage_L2] at hf
      refine lv_iload_n hx hb d_M_placeWithoutImage_2 rfl (lv_at hl 2 rfl) ?_
      refine lv_iconst (v := 3) hx hb d_M_placeWithoutImage_3 (by decide) ?_
      refine lv_icmp_ge (tgt := 39) hx hb d_M_placeWithoutImage_4 (by decide) (fun c1 => ?_) (fun c1 => ?_)
      · have hf := ite_t c1 hf
        refine lv_iconst (v := -1) hx hb d_M_placeWithoutImage_39 (by decide) ?_
        obtain rfl := Option.some.inj hf
        exact W.iret (v := (-1 : Int32)) hx hb hr (fun t ht hW => ⟨rfl, ht⟩) (fun q h => by cases h) d_M_placeWithoutImage_40
      · have hf := ite_f c1 hf
        refine lv_aload_n hx hb d_M_placeWithoutImage_7 rfl (lv_at hl 0 rfl) ?_
        refine va_get (D := D) (ci := 3) (v := .ref aT) (C := RR_M) (T := FF_M) (N := 3) hx hb hts kin_M hown hK.1 hP 2 rfl rfl 0 (by decide) (hts _ k1_90) (fun _ h9 => h9) rfl d_M_placeWithoutImage_8 ?_
        refine lv_iload_n hx hb d_M_placeWithoutImage_11 rfl (lv_at hl 1 rfl) ?_
        refine lv_iload_n hx hb d_M_placeWithoutImage_12 rfl (lv_at hl 2 rfl) ?_
        obtain ⟨r2, hr2, hf⟩ := of_bd hf
        refine rd_call (va_runV (As := [.int x1_2, .int x2_2]) (rest := []) ⟨hx, hb, hml, hown, hts⟩ (c_T_place l D cI cJ cZ aT aT_heads aT_places aT_olders aT_sizes aT_withins aT_newest T_count nT_places T_places x1_2 x2_2 r2 hr2) (bigV 2 hts k2_80 k2_1 k2_2 k1_2 k2_3 rfl rfl hd_T_place ⟨Nat.le_of_ble_eq_true rfl, Nat.le_of_ble_eq_true rfl⟩) (rd_preV hK hP [0, 1] rfl 0 rfl rfl rfl) rfl rfl hl.1 rfl (lv_room (Nat.le_of_ble_eq_true rfl)) d_M_placeWithoutImage_13 ⟨Nat.le_of_ble_eq_true rfl, Nat.le_of_ble_eq_true rfl⟩) ?_
        refine lv_istore_n (lv' := [(3, .int r2), (0, .ref aM), (1, .int x1_2), (2, .int x2_2)]) hx hb d_M_placeWithoutImage_16 rfl hl (by decide) rfl (fun ls hl => ?_)
        refine lv_iload_n hx hb d_M_placeWithoutImage_17 rfl (lv_at hl 0 rfl) ?_
        refine lv_iconst (v := -1) hx hb d_M_placeWithoutImage_18 (by decide) ?_
        refine lv_icmp_eq (tgt := 33) hx hb d_M_placeWithoutImage_19 (by decide) (fun c3 => ?_) (fun c3 => ?_)
        · have hf := ite_t c3 hf
          obtain ⟨x4, ex4⟩ : ∃ y : Int32, y = x2_2 + (1 : Int32) := ⟨_, rfl⟩
          refine lv_iinc (v := x4) (lv' := [(2, .int x4), (3, .int r2), (0, .ref aM), (1, .int x1_2)]) hx hb d_M_placeWithoutImage_33 hl (k := 3) rfl (by rw [ex4]; rfl) (by decide) rfl (fun ls hl => ?_)
          have hf := of_nm ex4 hf
          refine lv_goto (tgt := 2) hx hb d_M_placeWithoutImage_36 (by decide) ?_
          exact ih2 _ _ _ (lv_sub hl [2, 3, 0] rfl) hf
        · have hf := ite_f c3 hf
          refine lv_aload_n hx hb d_M_placeWithoutImage_22 rfl (lv_at hl 1 rfl) ?_
          refine lv_iload_n hx hb d_M_placeWithoutImage_23 rfl (lv_at hl 0 rfl) ?_
          obtain ⟨r5, hr5, hf⟩ := of_bd hf
          refine rd_call (va_runV (As := [.int r2]) (rest := []) ⟨hx, hb, hml, hown, hts⟩ (c_M_image l D cI cJ cZ aT aM aM_images aM_path M_images r2 r5 hr5) (bigV 1 hts k2_96 k2_98 ks_M_image k1_5 k2_99 rfl rfl hd_M_image ⟨Nat.le_of_ble_eq_true rfl, Nat.le_of_ble_eq_true rfl⟩) (rd_preV hK hP [2, 3] rfl 2 rfl rfl rfl) rfl rfl hl.1 rfl (lv_room (Nat.le_of_ble_eq_true rfl)) d_M_placeWithoutImage_24 ⟨Nat.le_of_ble_eq_true rfl, Nat.le_of_ble_eq_true rfl⟩) ?_
          refine lv_iconst (v := -1) hx hb d_M_placeWithoutImage_27 (by decide) ?_
          refine lv_icmp_ne (tgt := 33) hx hb d_M_placeWithoutImage_28 (by decide) (fun c6 => ?_) (fun c6 => ?_)
          · have hf := ite_f c6 hf
            obtain ⟨x7, ex7⟩ : ∃ y : Int32, y = x2_2 + (1 : Int32) := ⟨_, rfl⟩
            refine lv_iinc (v := x7) (lv' := [(2, .int x7), (3, .int r2), (0, .ref aM), (1, .int x1_2)]) hx hb d_M_placeWithoutImage_33 hl (k := 3) rfl (by rw [ex7]; rfl) (by decide) rfl (fun ls hl => ?_)
            have hf := of_nm ex7 hf
            refine lv_goto (tgt := 2) hx hb d_M_placeWithoutImage_36 (by decide) ?_
            exact ih2 _ _ _ (lv_sub hl [2, 3, 0] rfl) hf
          · have hf := ite_t c6 hf
            refine lv_iload_n hx hb d_M_placeWithoutImage_31 rfl (lv_at hl 0 rfl) ?_
            obtain rfl := Option.some.inj hf
            exact W.iret (v := r2) hx hb hr (fun t ht hW => ⟨rfl, ht⟩) (fun q h => by cases h) d_M_placeWithoutImage_32
  rw [f_M_placeWithoutImage] at hf
  refine lv_iconst (v := 0) hx hb d_M_placeWithoutImage_0 (by decide) ?_
  refine lv_istore_n (lv' := [(2, .int (0 : Int32)), (0, .ref aM), (1, .int p0)]) hx hb d_M_placeWithoutImage_1 rfl hl (by decide) rfl (fun ls hl => ?_)
  exact hL2 FU _ _ _ (lv_sub hl [1, 2, 0] rfl) hf
def f_M_putImage_B86 (nT_heads : Nat) (nT_places : Nat) (nT_olders : Nat) (nT_sizes : Nat) (nT_withins : Nat) (T_count_86 : Int32) (T_heads_86 : (Nat → Int32)) (T_places_86 : (Nat → Int32)) (T_olders_86 : (Nat → Int32)) (T_sizes_86 : (Nat → Int32)) (T_withins_86 : (Nat → Int64)) (T_newest_86 : (Nat → Int32)) (M_images_86 : (Nat → Int32)) (x4_86 : Int32) : Option (Int32 × Int32 × (Nat → Int32) × (Nat → Int32) × (Nat → Int32) × (Nat → Int32) × (Nat → Int64) × (Nat → Int32) × (Nat → Int32)) :=
  if x4_86 = (-1 : Int32) then
    some ((0 : Int32), T_count_86, T_heads_86, T_places_86, T_olders_86, T_sizes_86, T_withins_86, T_newest_86, M_images_86)
  else
    some ((1 : Int32), T_count_86, T_heads_86, T_places_86, T_olders_86, T_sizes_86, T_withins_86, T_newest_86, M_images_86)
def f_M_putImage_B68 (nT_heads : Nat) (nT_places : Nat) (nT_olders : Nat) (nT_sizes : Nat) (nT_withins : Nat) (T_count_68 : Int32) (T_heads_68 : (Nat → Int32)) (T_places_68 : (Nat → Int32)) (T_olders_68 : (Nat → Int32)) (T_sizes_68 : (Nat → Int32)) (T_withins_68 : (Nat → Int64)) (T_newest_68 : (Nat → Int32)) (M_images_68 : (Nat → Int32)) (x1_68 : Int32) (x4_68 : Int32) : Option (Int32 × Int32 × (Nat → Int32) × (Nat → Int32) × (Nat → Int32) × (Nat → Int32) × (Nat → Int64) × (Nat → Int32) × (Nat → Int32)) :=
  if x1_68 < 0 then
    f_M_putImage_B86 nT_heads nT_places nT_olders nT_sizes nT_withins T_count_68 T_heads_68 T_places_68 T_olders_68 T_sizes_68 T_withins_68 T_newest_68 M_images_68 x4_68
  else
    if (100 : Int32) ≤ x1_68 then
      f_M_putImage_B86 nT_heads nT_places nT_olders nT_sizes nT_withins T_count_68 T_heads_68 T_places_68 T_olders_68 T_sizes_68 T_withins_68 T_newest_68 M_images_68 x4_68
    else
      gd (ixb x1_68 100) <| nm (upd M_images_68 x1_68.toNatClampNeg x4_68) fun g13 =>
      f_M_putImage_B86 nT_heads nT_places nT_olders nT_sizes nT_withins T_count_68 T_heads_68 T_places_68 T_olders_68 T_sizes_68 T_withins_68 T_newest_68 g13 x4_68
def f_M_putImage (T_count : Int32) (nT_heads : Nat) (T_heads : (Nat → Int32)) (nT_places : Nat) (T_places : (Nat → Int32)) (nT_olders : Nat) (T_olders : (Nat → Int32)) (nT_sizes : Nat) (T_sizes : (Nat → Int32)) (nT_withins : Nat) (T_withins : (Nat → Int64)) (T_newest : (Nat → Int32)) (M_images : (Nat → Int32)) (p0 : Int32) (p1 : Int32) : Option (Int32 × Int32 × (Nat → Int32) × (Nat → Int32) × (Nat → Int32) × (Nat → Int32) × (Nat → Int64) × (Nat → Int32) × (Nat → Int32)) :=
  (f_T_head T_count nT_heads T_heads p0).bind fun r1 =>
  if (30 : Int32) ≤ r1 then
    f_M_putImage_B68 nT_heads nT_places nT_olders nT_sizes nT_withins T_count T_heads T_places T_olders T_sizes T_withins T_newest M_images p0 p0
  else
    (f_T_place T_count nT_places T_places p0 (0 : Int32)).bind fun r3 =>
    (f_M_image M_images r3).bind fun r4 =>
    (f_T_place T_count nT_places T_places p0 (1 : Int32)).bind fun r5 =>
    (f_M_image M_images r5).bind fun r6 =>
    (f_T_place T_count nT_places T_places p0 (2 : Int32)).bind fun r7 =>
    (f_M_image M_images r7).bind fun r8 =>
    (f_T_make T_count nT_heads T_heads nT_places T_places nT_olders T_olders nT_sizes T_sizes nT_withins T_withins T_newest r1 r4 r6 r8 p1).bind fun r9 =>
    f_M_putImage_B68 nT_heads nT_places nT_olders nT_sizes nT_withins r9.2.1 r9.2.2.1 r9.2.2.2.1 r9.2.2.2.2.1 r9.2.2.2.2.2.1 r9.2.2.2.2.2.2.1 r9.2.2.2.2.2.2.2 M_images p0 r9.1
abbrev rm_M_putImage : Room := { frames := 2, cells := 0, slots := 0, locals := 56 }
set_option maxHeartbeats 4000000 in
set_option maxRecDepth 100000 in
theorem c_M_putImage (l : Launch) (D : va_G) (cI cJ cZ : ClassId) (aT aT_heads aT_places aT_olders aT_sizes aT_withins aT_newest aM aM_images aM_path : Nat) (sz : Nat) (T_count : Int32) (nT_heads : Nat) (T_heads : (Nat → Int32)) (nT_places : Nat) (T_places : (Nat → Int32)) (nT_olders : Nat) (T_olders : (Nat → Int32)) (nT_sizes : Nat) (T_sizes : (Nat → Int32)) (nT_withins : Nat) (T_withins : (Nat → Int64)) (T_newest : (Nat → Int32)) (M_images : (Nat → Int32)) (p0 : Int32) (p1 : Int32) (o : Int32 × Int32 × (Nat → Int32) × (Nat → Int32) × (Nat → Int32) × (Nat → Int32) × (Nat → Int64) × (Nat → Int32) × (Nat → Int32)) (hf : f_M_putImage T_count nT_heads T_heads nT_places T_places nT_olders T_olders nT_sizes T_sizes nT_withins T_withins T_newest M_images p0 p1 = some o) : Met l y_M_putImage (ws_M_putImage) rm_M_putImage (WPc D vwCl cI cJ cZ [.ref aM, .int p0, .int p1] (wv_23 cI cJ cZ aT aT_heads aT_places aT_olders aT_sizes aT_withins aT_newest aM aM_images aM_path T_count nT_heads T_heads nT_places T_places nT_olders T_olders nT_sizes T_sizes nT_withins T_withins T_newest M_images) sz) (WQ D vwCl (some (.int o.1)) (wv_23 cI cJ cZ aT aT_heads aT_places aT_olders aT_sizes aT_withins aT_newest aM aM_images aM_path o.2.1 nT_heads o.2.2.1 nT_places o.2.2.2.1 nT_olders o.2.2.2.2.1 nT_sizes o.2.2.2.2.2.1 nT_withins o.2.2.2.2.2.2.1 o.2.2.2.2.2.2.2.1 o.2.2.2.2.2.2.2.2) (va_A (wv_23 cI cJ cZ aT aT_heads aT_places aT_olders aT_sizes aT_withins aT_newest aM aM_images aM_path T_count nT_heads T_heads nT_places T_places nT_olders T_olders nT_sizes T_sizes nT_withins T_withins T_newest M_images) sz)) 0 0 (va_A (wv_23 cI cJ cZ aT aT_heads aT_places aT_olders aT_sizes aT_withins aT_newest aM aM_images aM_path T_count nT_heads T_heads nT_places T_places nT_olders T_olders nT_sizes T_sizes nT_withins T_withins T_newest M_images) sz) := by
  refine Met.ofW (cc := b_M_putImage) (maxL := 5) (ret := (some .boolean)) (by decide) rfl ?_
  intro p e s m args below meth c s₁ B hml hv
  obtain ⟨rfl, rfl, hP, hK, hD0⟩ := hv
  have hx := B.exec
  have hb := B.bytes
  have hr := B.returns
  have hts : ∀ w ∈ BG, w.before _ s = true := fun w h => atoms_spec (ws := (ws_M_putImage)) B.pre w (List.mem_cons_of_mem _ h)
  have hown : s.vm.findClass RR_M = some m.cls := findClass_of_methodNamed B.named
  have hlocks := B.notSynchronized
  have hD := hD0.self (sz := s.heap.size)
  have hA : ∀ q : Nat, s.heap.size ≤ q → va_A (wv_23 cI cJ cZ aT aT_heads aT_places aT_olders aT_sizes aT_withins aT_newest aM aM_images aM_path T_count nT_heads T_heads nT_places T_places nT_olders T_olders nT_sizes T_sizes nT_withins T_withins T_newest M_images) s.heap.size q := fun q h => Or.inr h
  have hS : va_S (va_A (wv_23 cI cJ cZ aT aT_heads aT_places aT_olders aT_sizes aT_withins aT_newest aM aM_images aM_path T_count nT_heads T_heads nT_places T_places nT_olders T_olders nT_sizes T_sizes nT_withins T_withins T_newest M_images) s.heap.size) s.heap s.heap [] := va_S.rf
  generalize va_A (wv_23 cI cJ cZ aT aT_heads aT_places aT_olders aT_sizes aT_withins aT_newest aM aM_images aM_path T_count nT_heads T_heads nT_places T_places nT_olders T_olders nT_sizes T_sizes nT_withins T_withins T_newest M_images) s.heap.size = A at hD hA hS ⊢
  have hl := lv_entry ([.ref aM, .int p0, .int p1]) (n := 5) (Nat.le_of_ble_eq_true rfl)
  rw [lg_entry_eq]
  generalize (lg_sl ([.ref aM, .int p0, .int p1]) ++ List.replicate (5 - (lg_sl ([.ref aM, .int p0, .int p1])).length) Slot.unset).toArray = ls at hl ⊢
  have hl : lv_has ls 5 [(0, .ref aM), (1, .int p0), (2, .int p1)] := hl
  have hB86 : ∀ (T_count_86 : Int32) (T_heads_86 : (Nat → Int32)) (T_places_86 : (Nat → Int32)) (T_olders_86 : (Nat → Int32)) (T_sizes_86 : (Nat → Int32)) (T_withins_86 : (Nat → Int64)) (T_newest_86 : (Nat → Int32)) (M_images_86 : (Nat → Int32)) (x4_86 : Int32), ∀ (H : Heap) (locs : List Loc), va_P D vwCl (wv_23 cI cJ cZ aT aT_heads aT_places aT_olders aT_sizes aT_withins aT_newest aM aM_images aM_path T_count_86 nT_heads T_heads_86 nT_places T_places_86 nT_olders T_olders_86 nT_sizes T_sizes_86 nT_withins T_withins_86 T_newest_86 M_images_86) H → va_D A (wv_23 cI cJ cZ aT aT_heads aT_places aT_olders aT_sizes aT_withins aT_newest aM aM_images aM_path T_count_86 nT_heads T_heads_86 nT_places T_places_86 nT_olders T_olders_86 nT_sizes T_sizes_86 nT_withins T_withins_86 T_newest_86 M_images_86) → va_S A s.heap H locs → ∀ (ls : Array Slot), lv_has ls 5 [(4, .int x4_86)] → f_M_putImage_B86 nT_heads nT_places nT_olders nT_sizes nT_withins T_count_86 T_heads_86 T_places_86 T_olders_86 T_sizes_86 T_withins_86 T_newest_86 M_images_86 x4_86 = some o → W p l e (headSpec (ws_M_putImage) rm_M_putImage).room s m ([.ref aM, .int p0, .int p1] : List Value).toArray below meth c H locs 0 0 (MQ below (WQ D vwCl (some (.int o.1)) (wv_23 cI cJ cZ aT aT_heads aT_places aT_olders aT_sizes aT_withins aT_newest aM aM_images aM_path o.2.1 nT_heads o.2.2.1 nT_places o.2.2.2.1 nT_olders o.2.2.2.2.1 nT_sizes o.2.2.2.2.2.1 nT_withins o.2.2.2.2.2.2.1 o.2.2.2.2.2.2.2.1 o.2.2.2.2.2.2.2.2) A) ([.ref aM, .int p0, .int p1] : List Value).toArray s 0 0 A) (F0 m 86 ls []) := by
    intro T_count_86 T_heads_86 T_places_86 T_olders_86 T_sizes_86 T_withins_86 T_newest_86 M_images_86 x4_86 H locs hP hD hS ls hl hf
    rw [f_M_putImage_B86] at hf
    refine lv_iload hx hb d_M_putImage_86 (lv_at hl 0 rfl) ?_
    refine lv_iconst (v := -1) hx hb d_M_putImage_88 (by decide) ?_
    refine lv_icmp_eq (tgt := 96) hx hb d_M_putImage_89 (by decide) (fun c14 => ?_) (fun c14 => ?_)
    · have hf := ite_t c14 hf
      refine lv_iconst (v := 0) hx hb d_M_putImage_96 (by decide) ?_
      obtain rfl := Option.some.inj hf
      exact W.zret (v := (0 : Int32)) hx hb hr rfl (fun t ht hW => ⟨rfl, by rw [ht]; exact hP, hD, hS.F ht⟩) hS.2.2 d_M_putImage_97
    · have hf := ite_f c14 hf
      refine lv_iconst (v := 1) hx hb d_M_putImage_92 (by decide) ?_
      refine lv_goto (tgt := 97) hx hb d_M_putImage_93 (by decide) ?_
      obtain rfl := Option.some.inj hf
      exact W.zret (v := (1 : Int32)) hx hb hr rfl (fun t ht hW => ⟨rfl, by rw [ht]; exact hP, hD, hS.F ht⟩) hS.2.2 d_M_putImage_97
  have hB68 : ∀ (T_count_68 : Int32) (T_heads_68 : (Nat → Int32)) (T_places_68 : (Nat → Int32)) (T_olders_68 : (Nat → Int32)) (T_sizes_68 : (Nat → Int32)) (T_withins_68 : (Nat → Int64)) (T_newest_68 : (Nat → Int32)) (M_images_68 : (Nat → Int32)) (x1_68 : Int32) (x4_68 : Int32), ∀ (H : Heap) (locs : List Loc), va_P D vwCl (wv_23 cI cJ cZ aT aT_heads aT_places aT_olders aT_sizes aT_withins aT_newest aM aM_images aM_path T_count_68 nT_heads T_heads_68 nT_places T_places_68 nT_olders T_olders_68 nT_sizes T_sizes_68 nT_withins T_withins_68 T_newest_68 M_images_68) H → va_D A (wv_23 cI cJ cZ aT aT_heads aT_places aT_olders aT_sizes aT_withins aT_newest aM aM_images aM_path T_count_68 nT_heads T_heads_68 nT_places T_places_68 nT_olders T_olders_68 nT_sizes T_sizes_68 nT_withins T_withins_68 T_newest_68 M_images_68) → va_S A s.heap H locs → ∀ (ls : Array Slot), lv_has ls 5 [(0, .ref aM), (1, .int x1_68), (4, .int x4_68)] → f_M_putImage_B68 nT_heads nT_places nT_olders nT_sizes nT_withins T_count_68 T_heads_68 T_places_68 T_olders_68 T_sizes_68 T_withins_68 T_newest_68 M_images_68 x1_68 x4_68 = some o → W p l e (headSpec (ws_M_putImage) rm_M_putImage).room s m ([.ref aM, .int p0, .int p1] : List Value).toArray below meth c H locs 0 0 (MQ below (WQ D vwCl (some (.int o.1)) (wv_23 cI cJ cZ aT aT_heads aT_places aT_olders aT_sizes aT_withins aT_newest aM aM_images aM_path o.2.1 nT_heads o.2.2.1 nT_places o.2.2.2.1 nT_olders o.2.2.2.2.1 nT_sizes o.2.2.2.2.2.1 nT_withins o.2.2.2.2.2.2.1 o.2.2.2.2.2.2.2.1 o.2.2.2.2.2.2.2.2) A) ([.ref aM, .int p0, .int p1] : List Value).toArray s 0 0 A) (F0 m 68 ls []) := by
    intro T_count_68 T_heads_68 T_places_68 T_olders_68 T_sizes_68 T_withins_68 T_newest_68 M_images_68 x1_68 x4_68 H locs hP hD hS ls hl hf
    rw [f_M_putImage_B68] at hf
    refine lv_iload_n hx hb d_M_putImage_68 rfl (lv_at hl 1 rfl) ?_
    refine lv_if_lt (tgt := 86) hx hb d_M_putImage_69 (by decide) (fun c10 => ?_) (fun c10 => ?_)
    · have hf := ite_t c10 hf
      exact hB86 _ _ _ _ _ _ _ _ _ _ _ hP hD hS _ (lv_sub hl [2] rfl) hf
    · have hf := ite_f c10 hf
      refine lv_iload_n hx hb d_M_putImage_72 rfl (lv_at hl 1 rfl) ?_
      refine lv_bipush (v := 100) hx hb d_M_putImage_73 (by decide) ?_
      refine lv_icmp_ge (tgt := 86) hx hb d_M_putImage_75 (by decide) (fun c11 => ?_) (fun c11 => ?_)
      · have hf := ite_t c11 hf
        exact hB86 _ _ _ _ _ _ _ _ _ _ _ hP hD hS _ (lv_sub hl [2] rfl) hf
      · have hf := ite_f c11 hf
        refine lv_aload_n hx hb d_M_putImage_78 rfl (lv_at hl 0 rfl) ?_
        refine va_get (D := D) (ci := 3) (v := .ref aM_images) (C := RR_M) (T := FF_M) (N := 3) hx hb hts kin_M hown hK.1 hP 7 rfl rfl 1 (by decide) (hts _ k1_91) (fun _ h9 => h9) rfl d_M_putImage_79 ?_
        refine lv_iload_n hx hb d_M_putImage_82 rfl (lv_at hl 1 rfl) ?_
        refine lv_iload hx hb d_M_putImage_83 (lv_at hl 2 rfl) ?_
        obtain ⟨h12, hf⟩ := of_gd hf
        obtain ⟨g13, eg13⟩ : ∃ y : Nat → Int32, y = upd M_images_68 x1_68.toNatClampNeg x4_68 := ⟨_, rfl⟩
        have hf := of_nm eg13 hf
        refine va_iast hx hb hK.1 hP hD hS 8 0 rfl rfl (ixb_in h12) d_M_putImage_85 (fun H locs hP hD hS => ?_)
        rw [← eg13] at hP hD
        have hP : va_P D vwCl (wv_23 cI cJ cZ aT aT_heads aT_places aT_olders aT_sizes aT_withins aT_newest aM aM_images aM_path T_count_68 nT_heads T_heads_68 nT_places T_places_68 nT_olders T_olders_68 nT_sizes T_sizes_68 nT_withins T_withins_68 T_newest_68 g13) H := hP
        have hD : va_D A (wv_23 cI cJ cZ aT aT_heads aT_places aT_olders aT_sizes aT_withins aT_newest aM aM_images aM_path T_count_68 nT_heads T_heads_68 nT_places T_places_68 nT_olders T_olders_68 nT_sizes T_sizes_68 nT_withins T_withins_68 T_newest_68 g13) := hD
        exact hB86 _ _ _ _ _ _ _ _ _ _ _ hP hD hS _ (lv_sub hl [2] rfl) hf
  rw [f_M_putImage] at hf
  refine lv_aload_n hx hb d_M_putImage_0 rfl (lv_at hl 0 rfl) ?_
  refine va_get (D := D) (ci := 3) (v := .ref aT) (C := RR_M) (T := FF_M) (N := 3) hx hb hts kin_M hown hK.1 hP 7 rfl rfl 0 (by decide) (hts _ k1_90) (fun _ h9 => h9) rfl d_M_putImage_1 ?_
  refine lv_iload_n hx hb d_M_putImage_4 rfl (lv_at hl 1 rfl) ?_
  obtain ⟨r1, hr1, hf⟩ := of_bd hf
  refine rd_call (va_runV (As := [.int p0]) (rest := []) ⟨hx, hb, hml, hown, hts⟩ (c_T_head l D cI cJ cZ aT aT_heads aT_places aT_olders aT_sizes aT_withins aT_newest T_count nT_heads T_heads p0 r1 hr1) (bigV 1 hts k2_62 k1_237 k1_238 k1_2 k1_239 rfl rfl hd_T_head ⟨Nat.le_of_ble_eq_true rfl, Nat.le_of_ble_eq_true rfl⟩) (rd_preV hK hP [0, 1] rfl 0 rfl rfl rfl) rfl rfl hl.1 rfl (lv_room (Nat.le_of_ble_eq_true rfl)) d_M_putImage_5 ⟨Nat.le_of_ble_eq_true rfl, Nat.le_of_ble_eq_true rfl⟩) ?_
  refine lv_istore_n (lv' := [(3, .int r1), (0, .ref aM), (1, .int p0), (2, .int p1)]) hx hb d_M_putImage_8 rfl hl (by decide) rfl (fun ls hl => ?_)
  refine lv_iload_n hx hb d_M_putImage_9 rfl (lv_at hl 2 rfl) ?_
  refine lv_istore (lv' := [(4, .int p0), (3, .int r1), (0, .ref aM), (1, .int p0), (2, .int p1)]) hx hb d_M_putImage_10 hl (by decide) rfl (fun ls hl => ?_)
  refine lv_iload_n hx hb d_M_putImage_12 rfl (lv_at hl 1 rfl) ?_
  refine lv_bipush (v := 30) hx hb d_M_putImage_13 (by decide) ?_
  refine lv_icmp_ge (tgt := 68) hx hb d_M_putImage_15 (by decide) (fun c2 => ?_) (fun c2 => ?_)
  · have hf := ite_t c2 hf
    exact hB68 _ _ _ _ _ _ _ _ _ _ _ _ hP hD hS _ (lv_sub hl [2, 3, 0] rfl) hf
  · have hf := ite_f c2 hf
    refine lv_aload_n hx hb d_M_putImage_18 rfl (lv_at hl 2 rfl) ?_
    refine va_get (D := D) (ci := 3) (v := .ref aT) (C := RR_M) (T := FF_M) (N := 3) hx hb hts kin_M hown hK.1 hP 7 rfl rfl 0 (by decide) (hts _ k1_90) (fun _ h9 => h9) rfl d_M_putImage_19 ?_
    refine lv_iload_n hx hb d_M_putImage_22 rfl (lv_at hl 1 rfl) ?_
    refine lv_aload_n hx hb d_M_putImage_23 rfl (lv_at hl 2 rfl) ?_
    refine lv_aload_n hx hb d_M_putImage_24 rfl (lv_at hl 2 rfl) ?_
    refine va_get (D := D) (ci := 3) (v := .ref aT) (C := RR_M) (T := FF_M) (N := 3) hx hb hts kin_M hown hK.1 hP 7 rfl rfl 0 (by decide) (hts _ k1_90) (fun _ h9 => h9) rfl d_M_putImage_25 ?_
    refine lv_iload_n hx hb d_M_putImage_28 rfl (lv_at hl 3 rfl) ?_
    refine lv_iconst (v := 0) hx hb d_M_putImage_29 (by decide) ?_
    obtain ⟨r3, hr3, hf⟩ := of_bd hf
    refine rd_call (va_runV (As := [.int p0, .int (0 : Int32)]) (rest := [.ref aM, .int r1, .ref aT]) ⟨hx, hb, hml, hown, hts⟩ (c_T_place l D cI cJ cZ aT aT_heads aT_places aT_olders aT_sizes aT_withins aT_newest T_count nT_places T_places p0 (0 : Int32) r3 hr3) (bigV 2 hts k2_80 k2_1 k2_2 k1_2 k2_3 rfl rfl hd_T_place ⟨Nat.le_of_ble_eq_true rfl, Nat.le_of_ble_eq_true rfl⟩) (rd_preV hK hP [0, 2] rfl 0 rfl rfl rfl) rfl rfl hl.1 rfl (lv_room (Nat.le_of_ble_eq_true rfl)) d_M_putImage_30 ⟨Nat.le_of_ble_eq_true rfl, Nat.le_of_ble_eq_true rfl⟩) ?_
    obtain ⟨r4, hr4, hf⟩ := of_bd hf
    refine rd_call (va_runV (As := [.int r3]) (rest := [.int r1, .ref aT]) ⟨hx, hb, hml, hown, hts⟩ (c_M_image l D cI cJ cZ aT aM aM_images aM_path M_images r3 r4 hr4) (bigV 1 hts k2_96 k2_98 ks_M_image k1_5 k2_99 rfl rfl hd_M_image ⟨Nat.le_of_ble_eq_true rfl, Nat.le_of_ble_eq_true rfl⟩) (rd_preV hK hP [7, 8] rfl 7 rfl rfl rfl) rfl rfl hl.1 rfl (lv_room (Nat.le_of_ble_eq_true rfl)) d_M_putImage_33 ⟨Nat.le_of_ble_eq_true rfl, Nat.le_of_ble_eq_true rfl⟩) ?_
    refine lv_aload_n hx hb d_M_putImage_36 rfl (lv_at hl 2 rfl) ?_
    refine lv_aload_n hx hb d_M_putImage_37 rfl (lv_at hl 2 rfl) ?_
    refine va_get (D := D) (ci := 3) (v := .ref aT) (C := RR_M) (T := FF_M) (N := 3) hx hb hts kin_M hown hK.1 hP 7 rfl rfl 0 (by decide) (hts _ k1_90) (fun _ h9 => h9) rfl d_M_putImage_38 ?_
    refine lv_iload_n hx hb d_M_putImage_41 rfl (lv_at hl 3 rfl) ?_
    refine lv_iconst (v := 1) hx hb d_M_putImage_42 (by decide) ?_
    obtain ⟨r5, hr5, hf⟩ := of_bd hf
    refine rd_call (va_runV (As := [.int p0, .int (1 : Int32)]) (rest := [.ref aM, .int r4, .int r1, .ref aT]) ⟨hx, hb, hml, hown, hts⟩ (c_T_place l D cI cJ cZ aT aT_heads aT_places aT_olders aT_sizes aT_withins aT_newest T_count nT_places T_places p0 (1 : Int32) r5 hr5) (bigV 2 hts k2_80 k2_1 k2_2 k1_2 k2_3 rfl rfl hd_T_place ⟨Nat.le_of_ble_eq_true rfl, Nat.le_of_ble_eq_true rfl⟩) (rd_preV hK hP [0, 2] rfl 0 rfl rfl rfl) rfl rfl hl.1 rfl (lv_room (Nat.le_of_ble_eq_true rfl)) d_M_putImage_43 ⟨Nat.le_of_ble_eq_true rfl, Nat.le_of_ble_eq_true rfl⟩) ?_
    obtain ⟨r6, hr6, hf⟩ := of_bd hf
    refine rd_call (va_runV (As := [.int r5]) (rest := [.int r4, .int r1, .ref aT]) ⟨hx, hb, hml, hown, hts⟩ (c_M_image l D cI cJ cZ aT aM aM_images aM_path M_images r5 r6 hr6) (bigV 1 hts k2_96 k2_98 ks_M_image k1_5 k2_99 rfl rfl hd_M_image ⟨Nat.le_of_ble_eq_true rfl, Nat.le_of_ble_eq_true rfl⟩) (rd_preV hK hP [7, 8] rfl 7 rfl rfl rfl) rfl rfl hl.1 rfl (lv_room (Nat.le_of_ble_eq_true rfl)) d_M_putImage_46 ⟨Nat.le_of_ble_eq_true rfl, Nat.le_of_ble_eq_true rfl⟩) ?_
    refine lv_aload_n hx hb d_M_putImage_49 rfl (lv_at hl 2 rfl) ?_
    refine lv_aload_n hx hb d_M_putImage_50 rfl (lv_at hl 2 rfl) ?_
    refine va_get (D := D) (ci := 3) (v := .ref aT) (C := RR_M) (T := FF_M) (N := 3) hx hb hts kin_M hown hK.1 hP 7 rfl rfl 0 (by decide) (hts _ k1_90) (fun _ h9 => h9) rfl d_M_putImage_51 ?_
    refine lv_iload_n hx hb d_M_putImage_54 rfl (lv_at hl 3 rfl) ?_
    refine lv_iconst (v := 2) hx hb d_M_putImage_55 (by decide) ?_
    obtain ⟨r7, hr7, hf⟩ := of_bd hf
    refine rd_call (va_runV (As := [.int p0, .int (2 : Int32)]) (rest := [.ref aM, .int r6, .int r4, .int r1, .ref aT]) ⟨hx, hb, hml, hown, hts⟩ (c_T_place l D cI cJ cZ aT aT_heads aT_places aT_olders aT_sizes aT_withins aT_newest T_count nT_places T_places p0 (2 : Int32) r7 hr7) (bigV 2 hts k2_80 k2_1 k2_2 k1_2 k2_3 rfl rfl hd_T_place ⟨Nat.le_of_ble_eq_true rfl, Nat.le_of_ble_eq_true rfl⟩) (rd_preV hK hP [0, 2] rfl 0 rfl rfl rfl) rfl rfl hl.1 rfl (lv_room (Nat.le_of_ble_eq_true rfl)) d_M_putImage_56 ⟨Nat.le_of_ble_eq_true rfl, Nat.le_of_ble_eq_true rfl⟩) ?_
    obtain ⟨r8, hr8, hf⟩ := of_bd hf
    refine rd_call (va_runV (As := [.int r7]) (rest := [.int r6, .int r4, .int r1, .ref aT]) ⟨hx, hb, hml, hown, hts⟩ (c_M_image l D cI cJ cZ aT aM aM_images aM_path M_images r7 r8 hr8) (bigV 1 hts k2_96 k2_98 ks_M_image k1_5 k2_99 rfl rfl hd_M_image ⟨Nat.le_of_ble_eq_true rfl, Nat.le_of_ble_eq_true rfl⟩) (rd_preV hK hP [7, 8] rfl 7 rfl rfl rfl) rfl rfl hl.1 rfl (lv_room (Nat.le_of_ble_eq_true rfl)) d_M_putImage_59 ⟨Nat.le_of_ble_eq_true rfl, Nat.le_of_ble_eq_true rfl⟩) ?_
    refine lv_iload_n hx hb d_M_putImage_62 rfl (lv_at hl 4 rfl) ?_
    obtain ⟨r9, hr9, hf⟩ := of_bd hf
    refine wr_call (ws' := (wv_23 cI cJ cZ aT aT_heads aT_places aT_olders aT_sizes aT_withins aT_newest aM aM_images aM_path r9.2.1 nT_heads r9.2.2.1 nT_places r9.2.2.2.1 nT_olders r9.2.2.2.2.1 nT_sizes r9.2.2.2.2.2.1 nT_withins r9.2.2.2.2.2.2.1 r9.2.2.2.2.2.2.2 M_images)) (va_runV (As := [.int r1, .int r4, .int r6, .int r8, .int p1]) (rest := []) ⟨hx, hb, hml, hown, hts⟩ (c_T_make l D cI cJ cZ aT aT_heads aT_places aT_olders aT_sizes aT_withins aT_newest _ T_count nT_heads T_heads nT_places T_places nT_olders T_olders nT_sizes T_sizes nT_withins T_withins T_newest r1 r4 r6 r8 p1 r9 hr9) (bigV 5 hts k3_188 k3_0 k3_1 k1_2 k3_2 rfl rfl hd_T_make ⟨Nat.le_of_ble_eq_true rfl, Nat.le_of_ble_eq_true rfl⟩) (wr_preV hK hP hD [0, 1, 2, 3, 4, 5, 6] rfl (by decide) rfl 0 rfl rfl rfl) rfl rfl hl.1 rfl (lv_room (Nat.le_of_ble_eq_true rfl)) d_M_putImage_63 ⟨Nat.le_of_ble_eq_true rfl, Nat.le_of_ble_eq_true rfl⟩) hP hD hS hA [0, 1, 2, 3, 4, 5, 6] [7, 8] rfl rfl (by decide) (by decide) [2, 3, 4, 5, 6, 7, 8, 0, 1] (by decide) rfl (fun H locs hP hD hS => ?_)
    refine lv_istore (lv' := [(4, .int r9.1), (3, .int r1), (0, .ref aM), (1, .int p0), (2, .int p1)]) hx hb d_M_putImage_66 hl (by decide) rfl (fun ls hl => ?_)
    exact hB68 _ _ _ _ _ _ _ _ _ _ _ _ hP hD hS _ (lv_sub hl [2, 3, 0] rfl) hf
def f_M_instance_B94 (nT_heads : Nat) (nT_places : Nat) (nT_olders : Nat) (nT_sizes : Nat) (nT_withins : Nat) (K38 : Int32 → (Nat → Int32) → (Nat → Int32) → (Nat → Int32) → (Nat → Int32) → (Nat → Int64) → (Nat → Int32) → (Nat → Int32) → (Nat → Int32) → Int32 → Int32 → Int32 → Int32 → Option (Int32 × Int32 × (Nat → Int32) × (Nat → Int32) × (Nat → Int32) × (Nat → Int32) × (Nat → Int64) × (Nat → Int32) × (Nat → Int32) × (Nat → Int32))) (T_count_94 : Int32) (T_heads_94 : (Nat → Int32)) (T_places_94 : (Nat → Int32)) (T_olders_94 : (Nat → Int32)) (T_sizes_94 : (Nat → Int32)) (T_withins_94 : (Nat → Int64)) (T_newest_94 : (Nat → Int32)) (M_images_94 : (Nat → Int32)) (M_path_94 : (Nat → Int32)) (x1_94 : Int32) (x2_94 : Int32) (x3_94 : Int32) (x4_94 : Int32) (x5_94 : Int32) : Option (Int32 × Int32 × (Nat → Int32) × (Nat → Int32) × (Nat → Int32) × (Nat → Int32) × (Nat → Int64) × (Nat → Int32) × (Nat → Int32) × (Nat → Int32)) :=
  (f_M_putImage T_count_94 nT_heads T_heads_94 nT_places T_places_94 nT_olders T_olders_94 nT_sizes T_sizes_94 nT_withins T_withins_94 T_newest_94 M_images_94 x5_94 x2_94).bind fun r23 =>
  if r23.1 = 0 then
    some ((-1 : Int32), r23.2.1, r23.2.2.1, r23.2.2.2.1, r23.2.2.2.2.1, r23.2.2.2.2.2.1, r23.2.2.2.2.2.2.1, r23.2.2.2.2.2.2.2.1, r23.2.2.2.2.2.2.2.2, M_path_94)
  else
    nm (x3_94 + (-1 : Int32)) fun x25 =>
    nm (x4_94 + (1 : Int32)) fun x26 =>
    K38 r23.2.1 r23.2.2.1 r23.2.2.2.1 r23.2.2.2.2.1 r23.2.2.2.2.2.1 r23.2.2.2.2.2.2.1 r23.2.2.2.2.2.2.2.1 r23.2.2.2.2.2.2.2.2 M_path_94 x1_94 x2_94 x25 x26
def f_M_instance_L38 (nT_heads : Nat) (nT_places : Nat) (nT_olders : Nat) (nT_sizes : Nat) (nT_withins : Nat) : Nat → Int32 → (Nat → Int32) → (Nat → Int32) → (Nat → Int32) → (Nat → Int32) → (Nat → Int64) → (Nat → Int32) → (Nat → Int32) → (Nat → Int32) → Int32 → Int32 → Int32 → Int32 → Option (Int32 × Int32 × (Nat → Int32) × (Nat → Int32) × (Nat → Int32) × (Nat → Int32) × (Nat → Int64) × (Nat → Int32) × (Nat → Int32) × (Nat → Int32))
  | 0, _, _, _, _, _, _, _, _, _, _, _, _, _ => none
  | n + 1, T_count_38, T_heads_38, T_places_38, T_olders_38, T_sizes_38, T_withins_38, T_newest_38, M_images_38, M_path_38, x1_38, x2_38, x3_38, x4_38 =>
    if (200 : Int32) ≤ x4_38 then
      gd (ixb x1_38 100) <|
      some (M_images_38 x1_38.toNatClampNeg, T_count_38, T_heads_38, T_places_38, T_olders_38, T_sizes_38, T_withins_38, T_newest_38, M_images_38, M_path_38)
    else
      if x3_38 ≤ 0 then
        gd (ixb x1_38 100) <|
        some (M_images_38 x1_38.toNatClampNeg, T_count_38, T_heads_38, T_places_38, T_olders_38, T_sizes_38, T_withins_38, T_newest_38, M_images_38, M_path_38)
      else
        gd (ixb (x3_38 - (1 : Int32)) 100) <|
        nm (M_path_38 (x3_38 - (1 : Int32)).toNatClampNeg) fun x15 =>
        (f_M_placeWithoutImage T_count_38 nT_places T_places_38 M_images_38 x15).bind fun r16 =>
        if r16 = (-1 : Int32) then
          f_M_instance_B94 nT_heads nT_places nT_olders nT_sizes nT_withins (f_M_instance_L38 nT_heads nT_places nT_olders nT_sizes nT_withins n) T_count_38 T_heads_38 T_places_38 T_olders_38 T_sizes_38 T_withins_38 T_newest_38 M_images_38 M_path_38 x1_38 x2_38 x3_38 x4_38 x15
        else
          if (100 : Int32) ≤ x3_38 then
            f_M_instance_B94 nT_heads nT_places nT_olders nT_sizes nT_withins (f_M_instance_L38 nT_heads nT_places nT_olders nT_sizes nT_withins n) T_count_38 T_heads_38 T_places_38 T_olders_38 T_sizes_38 T_withins_38 T_newest_38 M_images_38 M_path_38 x1_38 x2_38 x3_38 x4_38 x15
          else
            gd (ixb x3_38 100) <| nm (upd M_path_38 x3_38.toNatClampNeg r16) fun g20 =>
            nm (x3_38 + (1 : Int32)) fun x21 =>
            nm (x4_38 + (1 : Int32)) fun x22 =>
            (f_M_instance_L38 nT_heads nT_places nT_olders nT_sizes nT_withins n) T_count_38 T_heads_38 T_places_38 T_olders_38 T_sizes_38 T_withins_38 T_newest_38 M_images_38 g20 x1_38 x2_38 x21 x22
def f_M_instance (T_count : Int32) (nT_heads : Nat) (T_heads : (Nat → Int32)) (nT_places : Nat) (T_places : (Nat → Int32)) (nT_olders : Nat) (T_olders : (Nat → Int32)) (nT_sizes : Nat) (T_sizes : (Nat → Int32)) (nT_withins : Nat) (T_withins : (Nat → Int64)) (T_newest : (Nat → Int32)) (M_images : (Nat → Int32)) (M_path : (Nat → Int32)) (p0 : Int32) (p1 : Int32) : Option (Int32 × Int32 × (Nat → Int32) × (Nat → Int32) × (Nat → Int32) × (Nat → Int32) × (Nat → Int64) × (Nat → Int32) × (Nat → Int32) × (Nat → Int32)) :=
  if p0 < 0 then
    (f_M_image M_images p0).bind fun r2 =>
    some (r2, T_count, T_heads, T_places, T_olders, T_sizes, T_withins, T_newest, M_images, M_path)
  else
    if (100 : Int32) ≤ p0 then
      (f_M_image M_images p0).bind fun r4 =>
      some (r4, T_count, T_heads, T_places, T_olders, T_sizes, T_withins, T_newest, M_images, M_path)
    else
      gd (ixb p0 100) <|
      if (M_images p0.toNatClampNeg) = (-1 : Int32) then
        gd (ixb (0 : Int32) 100) <| nm (upd M_path (0 : Int32).toNatClampNeg p0) fun g8 =>
        f_M_instance_L38 nT_heads nT_places nT_olders nT_sizes nT_withins FU T_count T_heads T_places T_olders T_sizes T_withins T_newest M_images g8 p0 p1 (1 : Int32) (0 : Int32)
      else
        (f_M_image M_images p0).bind fun r9 =>
        some (r9, T_count, T_heads, T_places, T_olders, T_sizes, T_withins, T_newest, M_images, M_path)
abbrev rm_M_instance : Room := { frames := 3, cells := 0, slots := 0, locals := 80 }
set_option maxHeartbeats 4000000 in
set_option maxRecDepth 100000 in
theorem c_M_instance (l : Launch) (D : va_G) (cI cJ cZ : ClassId) (aT aT_heads aT_places aT_olders aT_sizes aT_withins aT_newest aM aM_images aM_path : Nat) (sz : Nat) (T_count : Int32) (nT_heads : Nat) (T_heads : (Nat → Int32)) (nT_places : Nat) (T_places : (Nat → Int32)) (nT_olders : Nat) (T_olders : (Nat → Int32)) (nT_sizes : Nat) (T_sizes : (Nat → Int32)) (nT_withins : Nat) (T_withins : (Nat → Int64)) (T_newest : (Nat → Int32)) (M_images : (Nat → Int32)) (M_path : (Nat → Int32)) (p0 : Int32) (p1 : Int32) (o : Int32 × Int32 × (Nat → Int32) × (Nat → Int32) × (Nat → Int32) × (Nat → Int32) × (Nat → Int64) × (Nat → Int32) × (Nat → Int32) × (Nat → Int32)) (hf : f_M_instance T_count nT_heads T_heads nT_places T_places nT_olders T_olders nT_sizes T_sizes nT_withins T_withins T_newest M_images M_path p0 p1 = some o) : Met l y_M_instance (ws_M_instance) rm_M_instance (WPc D vwCl cI cJ cZ [.ref aM, .int p0, .int p1] (wv_24 cI cJ cZ aT aT_heads aT_places aT_olders aT_sizes aT_withins aT_newest aM aM_images aM_path T_count nT_heads T_heads nT_places T_places nT_olders T_olders nT_sizes T_sizes nT_withins T_withins T_newest M_images M_path) sz) (WQ D vwCl (some (.int o.1)) (wv_24 cI cJ cZ aT aT_heads aT_places aT_olders aT_sizes aT_withins aT_newest aM aM_images aM_path o.2.1 nT_heads o.2.2.1 nT_places o.2.2.2.1 nT_olders o.2.2.2.2.1 nT_sizes o.2.2.2.2.2.1 nT_withins o.2.2.2.2.2.2.1 o.2.2.2.2.2.2.2.1 o.2.2.2.2.2.2.2.2.1 o.2.2.2.2.2.2.2.2.2) (va_A (wv_24 cI cJ cZ aT aT_heads aT_places aT_olders aT_sizes aT_withins aT_newest aM aM_images aM_path T_count nT_heads T_heads nT_places T_places nT_olders T_olders nT_sizes T_sizes nT_withins T_withins T_newest M_images M_path) sz)) 0 0 (va_A (wv_24 cI cJ cZ aT aT_heads aT_places aT_olders aT_sizes aT_withins aT_newest aM aM_images aM_path T_count nT_heads T_heads nT_places T_places nT_olders T_olders nT_sizes T_sizes nT_withins T_withins T_newest M_images M_path) sz) := by
  refine Met.ofW (cc := b_M_instance) (maxL := 7) (ret := (some .int)) (by decide) rfl ?_
  intro p e s m args below meth c s₁ B hml hv
  obtain ⟨rfl, rfl, hP, hK, hD0⟩ := hv
  have hx := B.exec
  have hb := B.bytes
  have hr := B.returns
  have hts : ∀ w ∈ BG, w.before _ s = true := fun w h => atoms_spec (ws := (ws_M_instance)) B.pre w (List.mem_cons_of_mem _ h)
  have hown : s.vm.findClass RR_M = some m.cls := findClass_of_methodNamed B.named
  have hlocks := B.notSynchronized
  have hD := hD0.self (sz := s.heap.size)
  have hA : ∀ q : Nat, s.heap.size ≤ q → va_A (wv_24 cI cJ cZ aT aT_heads aT_places aT_olders aT_sizes aT_withins aT_newest aM aM_images aM_path T_count nT_heads T_heads nT_places T_places nT_olders T_olders nT_sizes T_sizes nT_withins T_withins T_newest M_images M_path) s.heap.size q := fun q h => Or.inr h
  have hS : va_S (va_A (wv_24 cI cJ cZ aT aT_heads aT_places aT_olders aT_sizes aT_withins aT_newest aM aM_images aM_path T_count nT_heads T_heads nT_places T_places nT_olders T_olders nT_sizes T_sizes nT_withins T_withins T_newest M_images M_path) s.heap.size) s.heap s.heap [] := va_S.rf
  generalize va_A (wv_24 cI cJ cZ aT aT_heads aT_places aT_olders aT_sizes aT_withins aT_newest aM aM_images aM_path T_count nT_heads T_heads nT_places T_places nT_olders T_olders nT_sizes T_sizes nT_withins T_withins T_newest M_images M_path) s.heap.size = A at hD hA hS ⊢
  have hl := lv_entry ([.ref aM, .int p0, .int p1]) (n := 7) (Nat.le_of_ble_eq_true rfl)
  rw [lg_entry_eq]
  generalize (lg_sl ([.ref aM, .int p0, .int p1]) ++ List.replicate (7 - (lg_sl ([.ref aM, .int p0, .int p1])).length) Slot.unset).toArray = ls at hl ⊢
  have hl : lv_has ls 7 [(0, .ref aM), (1, .int p0), (2, .int p1)] := hl
  have hL38 : ∀ (n38 : Nat), ∀ (T_count_38 : Int32) (T_heads_38 : (Nat → Int32)) (T_places_38 : (Nat → Int32)) (T_olders_38 : (Nat → Int32)) (T_sizes_38 : (Nat → Int32)) (T_withins_38 : (Nat → Int64)) (T_newest_38 : (Nat → Int32)) (M_images_38 : (Nat → Int32)) (M_path_38 : (Nat → Int32)) (x1_38 : Int32) (x2_38 : Int32) (x3_38 : Int32) (x4_38 : Int32), ∀ (H : Heap) (locs : List Loc), va_P D vwCl (wv_24 cI cJ cZ aT aT_heads aT_places aT_olders aT_sizes aT_withins aT_newest aM aM_images aM_path T_count_38 nT_heads T_heads_38 nT_places T_places_38 nT_olders T_olders_38 nT_sizes T_sizes_38 nT_withins T_withins_38 T_newest_38 M_images_38 M_path_38) H → va_D A (wv_24 cI cJ cZ aT aT_heads aT_places aT_olders aT_sizes aT_withins aT_newest aM aM_images aM_path T_count_38 nT_heads T_heads_38 nT_places T_places_38 nT_olders T_olders_38 nT_sizes T_sizes_38 nT_withins T_withins_38 T_newest_38 M_images_38 M_path_38) → va_S A s.heap H locs → ∀ (ls : Array Slot), lv_has ls 7 [(0, .ref aM), (1, .int x1_38), (2, .int x2_38), (3, .int x3_38), (4, .int x4_38)] → f_M_instance_L38 nT_heads nT_places nT_olders nT_sizes nT_withins n38 T_count_38 T_heads_38 T_places_38 T_olders_38 T_sizes_38 T_withins_38 T_newest_38 M_images_38 M_path_38 x1_38 x2_38 x3_38 x4_38 = some o → W p l e (headSpec (ws_M_instance) rm_M_instance).room s m ([.ref aM, .int p0, .int p1] : List Value).toArray below meth c H locs 0 0 (MQ below (WQ D vwCl (some (.int o.1)) (wv_24 cI cJ cZ aT aT_heads aT_places aT_olders aT_sizes aT_withins aT_newest aM aM_images aM_path o.2.1 nT_heads o.2.2.1 nT_places o.2.2.2.1 nT_olders o.2.2.2.2.1 nT_sizes o.2.2.2.2.2.1 nT_withins o.2.2.2.2.2.2.1 o.2.2.2.2.2.2.2.1 o.2.2.2.2.2.2.2.2.1 o.2.2.2.2.2.2.2.2.2) A) ([.ref aM, .int p0, .int p1] : List Value).toArray s 0 0 A) (F0 m 38 ls []) := by
    intro n38
    induction n38 with
    | zero =>
      intro T_count_38 T_heads_38 T_places_38 T_olders_38 T_sizes_38 T_withins_38 T_newest_38 M_images_38 M_path_38 x1_38 x2_38 x3_38 x4_38 H locs hP hD hS ls hl hf
      rw [f_M_instance_L38] at hf
      cases hf
    | succ n38 ih38 =>
      have hB94 : ∀ (T_count_94 : Int32) (T_heads_94 : (Nat → Int32)) (T_places_94 : (Nat → Int32)) (T_olders_94 : (Nat → Int32)) (T_sizes_94 : (Nat → Int32)) (T_withins_94 : (Nat → Int64)) (T_newest_94 : (Nat → Int32)) (M_images_94 : (Nat → Int32)) (M_path_94 : (Nat → Int32)) (x1_94 : Int32) (x2_94 : Int32) (x3_94 : Int32) (x4_94 : Int32) (x5_94 : Int32), ∀ (H : Heap) (locs : List Loc), va_P D vwCl (wv_24 cI cJ cZ aT aT_heads aT_places aT_olders aT_sizes aT_withins aT_newest aM aM_images aM_path T_count_94 nT_heads T_heads_94 nT_places T_places_94 nT_olders T_olders_94 nT_sizes T_sizes_94 nT_withins T_withins_94 T_newest_94 M_images_94 M_path_94) H → va_D A (wv_24 cI cJ cZ aT aT_heads aT_places aT_olders aT_sizes aT_withins aT_newest aM aM_images aM_path T_count_94 nT_heads T_heads_94 nT_places T_places_94 nT_olders T_olders_94 nT_sizes T_sizes_94 nT_withins T_withins_94 T_newest_94 M_images_94 M_path_94) → va_S A s.heap H locs → ∀ (ls : Array Slot), lv_has ls 7 [(0, .ref aM), (1, .int x1_94), (2, .int x2_94), (3, .int x3_94), (4, .int x4_94), (5, .int x5_94)] → f_M_instance_B94 nT_heads nT_places nT_olders nT_sizes nT_withins (f_M_instance_L38 nT_heads nT_places nT_olders nT_sizes nT_withins n38) T_count_94 T_heads_94 T_places_94 T_olders_94 T_sizes_94 T_withins_94 T_newest_94 M_images_94 M_path_94 x1_94 x2_94 x3_94 x4_94 x5_94 = some o → W p l e (headSpec (ws_M_instance) rm_M_instance).room s m ([.ref aM, .int p0, .int p1] : List Value).toArray below meth c H locs 0 0 (MQ below (WQ D vwCl (some (.int o.1)) (wv_24 cI cJ cZ aT aT_heads aT_places aT_olders aT_sizes aT_withins aT_newest aM aM_images aM_path o.2.1 nT_heads o.2.2.1 nT_places o.2.2.2.1 nT_olders o.2.2.2.2.1 nT_sizes o.2.2.2.2.2.1 nT_withins o.2.2.2.2.2.2.1 o.2.2.2.2.2.2.2.1 o.2.2.2.2.2.2.2.2.1 o.2.2.2.2.2.2.2.2.2) A) ([.ref aM, .int p0, .int p1] : List Value).toArray s 0 0 A) (F0 m 94 ls []) := by
        intro T_count_94 T_heads_94 T_places_94 T_olders_94 T_sizes_94 T_withins_94 T_newest_94 M_images_94 M_path_94 x1_94 x2_94 x3_94 x4_94 x5_94 H locs hP hD hS ls hl hf
        rw [f_M_instance_B94] at hf
        refine lv_aload_n hx hb d_M_instance_94 rfl (lv_at hl 0 rfl) ?_
        refine lv_iload hx hb d_M_instance_95 (lv_at hl 5 rfl) ?_
        refine lv_iload_n hx hb d_M_instance_97 rfl (lv_at hl 2 rfl) ?_
        obtain ⟨r23, hr23, hf⟩ := of_bd hf
        refine wr_call (ws' := (wv_24 cI cJ cZ aT aT_heads aT_places aT_olders aT_sizes aT_withins aT_newest aM aM_images aM_path r23.2.1 nT_heads r23.2.2.1 nT_places r23.2.2.2.1 nT_olders r23.2.2.2.2.1 nT_sizes r23.2.2.2.2.2.1 nT_withins r23.2.2.2.2.2.2.1 r23.2.2.2.2.2.2.2.1 r23.2.2.2.2.2.2.2.2 M_path_94)) (va_runV (As := [.int x5_94, .int x2_94]) (rest := []) ⟨hx, hb, hml, hown, hts⟩ (c_M_putImage l D cI cJ cZ aT aT_heads aT_places aT_olders aT_sizes aT_withins aT_newest aM aM_images aM_path _ T_count_94 nT_heads T_heads_94 nT_places T_places_94 nT_olders T_olders_94 nT_sizes T_sizes_94 nT_withins T_withins_94 T_newest_94 M_images_94 x5_94 x2_94 r23 hr23) (bigV 2 hts k3_184 k3_186 ks_M_putImage k1_5 k3_187 rfl rfl hd_M_putImage ⟨Nat.le_of_ble_eq_true rfl, Nat.le_of_ble_eq_true rfl⟩) (wr_preV hK hP hD [0, 1, 2, 3, 4, 5, 6, 7, 8] rfl (by decide) rfl 7 rfl rfl rfl) rfl rfl hl.1 rfl (lv_room (Nat.le_of_ble_eq_true rfl)) d_M_instance_98 ⟨Nat.le_of_ble_eq_true rfl, Nat.le_of_ble_eq_true rfl⟩) hP hD hS hA [0, 1, 2, 3, 4, 5, 6, 7, 8] [9] rfl rfl (by decide) (by decide) [1, 2, 3, 4, 5, 6, 7, 8, 9, 0] (by decide) rfl (fun H locs hP hD hS => ?_)
        refine lv_if_eq (tgt := 110) hx hb d_M_instance_101 (by decide) (fun c24 => ?_) (fun c24 => ?_)
        · have hf := ite_t c24 hf
          refine lv_iconst (v := -1) hx hb d_M_instance_110 (by decide) ?_
          obtain rfl := Option.some.inj hf
          exact W.iret (v := (-1 : Int32)) hx hb hr (fun t ht hW => ⟨rfl, by rw [ht]; exact hP, hD, hS.F ht⟩) hS.2.2 d_M_instance_111
        · have hf := ite_f c24 hf
          obtain ⟨x25, ex25⟩ : ∃ y : Int32, y = x3_94 + (-1 : Int32) := ⟨_, rfl⟩
          refine lv_iinc (v := x25) (lv' := [(3, .int x25), (0, .ref aM), (1, .int x1_94), (2, .int x2_94), (4, .int x4_94), (5, .int x5_94)]) hx hb d_M_instance_104 hl (k := 3) rfl (by rw [ex25]; rfl) (by decide) rfl (fun ls hl => ?_)
          have hf := of_nm ex25 hf
          refine lv_goto (tgt := 112) hx hb d_M_instance_107 (by decide) ?_
          obtain ⟨x26, ex26⟩ : ∃ y : Int32, y = x4_94 + (1 : Int32) := ⟨_, rfl⟩
          refine lv_iinc (v := x26) (lv' := [(4, .int x26), (3, .int x25), (0, .ref aM), (1, .int x1_94), (2, .int x2_94), (5, .int x5_94)]) hx hb d_M_instance_112 hl (k := 4) rfl (by rw [ex26]; rfl) (by decide) rfl (fun ls hl => ?_)
          have hf := of_nm ex26 hf
          refine lv_goto (tgt := 38) hx hb d_M_instance_115 (by decide) ?_
          exact ih38 _ _ _ _ _ _ _ _ _ _ _ _ _ _ _ hP hD hS _ (lv_sub hl [2, 3, 4, 1, 0] rfl) hf
      intro T_count_38 T_heads_38 T_places_38 T_olders_38 T_sizes_38 T_withins_38 T_newest_38 M_images_38 M_path_38 x1_38 x2_38 x3_38 x4_38 H locs hP hD hS ls hl hf
      rw [f_M_instance_L38] at hf
      refine lv_iload hx hb d_M_instance_38 (lv_at hl 4 rfl) ?_
      refine lv_sipush (v := 200) hx hb d_M_instance_40 (by decide) ?_
      refine lv_icmp_ge (tgt := 118) hx hb d_M_instance_43 (by decide) (fun c10 => ?_) (fun c10 => ?_)
      · have hf := ite_t c10 hf
        refine lv_aload_n hx hb d_M_instance_118 rfl (lv_at hl 0 rfl) ?_
        refine va_get (D := D) (ci := 3) (v := .ref aM_images) (C := RR_M) (T := FF_M) (N := 3) hx hb hts kin_M hown hK.1 hP 7 rfl rfl 1 (by decide) (hts _ k1_91) (fun _ h9 => h9) rfl d_M_instance_119 ?_
        refine lv_iload_n hx hb d_M_instance_122 rfl (lv_at hl 1 rfl) ?_
        obtain ⟨h11, hf⟩ := of_gd hf
        refine va_iald hx hb hK.1 hP 8 0 rfl rfl (ixb_in h11) d_M_instance_123 ?_
        obtain rfl := Option.some.inj hf
        exact W.iret (v := M_images_38 x1_38.toNatClampNeg) hx hb hr (fun t ht hW => ⟨rfl, by rw [ht]; exact hP, hD, hS.F ht⟩) hS.2.2 d_M_instance_124
      · have hf := ite_f c10 hf
        refine lv_iload_n hx hb d_M_instance_46 rfl (lv_at hl 3 rfl) ?_
        refine lv_if_le (tgt := 118) hx hb d_M_instance_47 (by decide) (fun c12 => ?_) (fun c12 => ?_)
        · have hf := ite_t c12 hf
          refine lv_aload_n hx hb d_M_instance_118 rfl (lv_at hl 0 rfl) ?_
          refine va_get (D := D) (ci := 3) (v := .ref aM_images) (C := RR_M) (T := FF_M) (N := 3) hx hb hts kin_M hown hK.1 hP 7 rfl rfl 1 (by decide) (hts _ k1_91) (fun _ h9 => h9) rfl d_M_instance_119 ?_
          refine lv_iload_n hx hb d_M_instance_122 rfl (lv_at hl 1 rfl) ?_
          obtain ⟨h13, hf⟩ := of_gd hf
          refine va_iald hx hb hK.1 hP 8 0 rfl rfl (ixb_in h13) d_M_instance_123 ?_
          obtain rfl := Option.some.inj hf
          exact W.iret (v := M_images_38 x1_38.toNatClampNeg) hx hb hr (fun t ht hW => ⟨rfl, by rw [ht]; exact hP, hD, hS.F ht⟩) hS.2.2 d_M_instance_124
        · have hf := ite_f c12 hf
          refine lv_aload_n hx hb d_M_instance_50 rfl (lv_at hl 0 rfl) ?_
          refine va_get (D := D) (ci := 3) (v := .ref aM_path) (C := RR_M) (T := FF_M) (N := 3) hx hb hts kin_M hown hK.1 hP 7 rfl rfl 2 (by decide) (hts _ k1_92) (fun _ h9 => h9) rfl d_M_instance_51 ?_
          refine lv_iload_n hx hb d_M_instance_54 rfl (lv_at hl 3 rfl) ?_
          refine lv_iconst (v := 1) hx hb d_M_instance_55 (by decide) ?_
          refine lv_isub hx hb d_M_instance_56 ?_
          obtain ⟨h14, hf⟩ := of_gd hf
          refine va_iald hx hb hK.1 hP 9 0 rfl rfl (ixb_in h14) d_M_instance_57 ?_
          refine lv_topi (fun x15 ex15 => ?_)
          have hf := of_nm ex15 hf
          refine lv_istore (lv' := [(5, .int x15), (0, .ref aM), (1, .int x1_38), (2, .int x2_38), (3, .int x3_38), (4, .int x4_38)]) hx hb d_M_instance_58 hl (by decide) rfl (fun ls hl => ?_)
          refine lv_aload_n hx hb d_M_instance_60 rfl (lv_at hl 1 rfl) ?_
          refine lv_iload hx hb d_M_instance_61 (lv_at hl 0 rfl) ?_
          obtain ⟨r16, hr16, hf⟩ := of_bd hf
          refine rd_call (va_runV (As := [.int x15]) (rest := []) ⟨hx, hb, hml, hown, hts⟩ (c_M_placeWithoutImage l D cI cJ cZ aT aT_heads aT_places aT_olders aT_sizes aT_withins aT_newest aM aM_images aM_path T_count_38 nT_places T_places_38 M_images_38 x15 r16 hr16) (bigV 1 hts k3_180 k3_182 ks_M_placeWithoutImage k1_5 k3_183 rfl rfl hd_M_placeWithoutImage ⟨Nat.le_of_ble_eq_true rfl, Nat.le_of_ble_eq_true rfl⟩) (rd_preV hK hP [0, 2, 7, 8] rfl 7 rfl rfl rfl) rfl rfl hl.1 rfl (lv_room (Nat.le_of_ble_eq_true rfl)) d_M_instance_63 ⟨Nat.le_of_ble_eq_true rfl, Nat.le_of_ble_eq_true rfl⟩) ?_
          refine lv_istore (lv' := [(6, .int r16), (5, .int x15), (0, .ref aM), (1, .int x1_38), (2, .int x2_38), (3, .int x3_38), (4, .int x4_38)]) hx hb d_M_instance_66 hl (by decide) rfl (fun ls hl => ?_)
          refine lv_iload hx hb d_M_instance_68 (lv_at hl 0 rfl) ?_
          refine lv_iconst (v := -1) hx hb d_M_instance_70 (by decide) ?_
          refine lv_icmp_eq (tgt := 94) hx hb d_M_instance_71 (by decide) (fun c17 => ?_) (fun c17 => ?_)
          · have hf := ite_t c17 hf
            exact hB94 _ _ _ _ _ _ _ _ _ _ _ _ _ _ _ _ hP hD hS _ (lv_sub hl [2, 3, 4, 5, 6, 1] rfl) hf
          · have hf := ite_f c17 hf
            refine lv_iload_n hx hb d_M_instance_74 rfl (lv_at hl 5 rfl) ?_
            refine lv_bipush (v := 100) hx hb d_M_instance_75 (by decide) ?_
            refine lv_icmp_ge (tgt := 94) hx hb d_M_instance_77 (by decide) (fun c18 => ?_) (fun c18 => ?_)
            · have hf := ite_t c18 hf
              exact hB94 _ _ _ _ _ _ _ _ _ _ _ _ _ _ _ _ hP hD hS _ (lv_sub hl [2, 3, 4, 5, 6, 1] rfl) hf
            · have hf := ite_f c18 hf
              refine lv_aload_n hx hb d_M_instance_80 rfl (lv_at hl 2 rfl) ?_
              refine va_get (D := D) (ci := 3) (v := .ref aM_path) (C := RR_M) (T := FF_M) (N := 3) hx hb hts kin_M hown hK.1 hP 7 rfl rfl 2 (by decide) (hts _ k1_92) (fun _ h9 => h9) rfl d_M_instance_81 ?_
              refine lv_iload_n hx hb d_M_instance_84 rfl (lv_at hl 5 rfl) ?_
              refine lv_iload hx hb d_M_instance_85 (lv_at hl 0 rfl) ?_
              obtain ⟨h19, hf⟩ := of_gd hf
              obtain ⟨g20, eg20⟩ : ∃ y : Nat → Int32, y = upd M_path_38 x3_38.toNatClampNeg r16 := ⟨_, rfl⟩
              have hf := of_nm eg20 hf
              refine va_iast hx hb hK.1 hP hD hS 9 0 rfl rfl (ixb_in h19) d_M_instance_87 (fun H locs hP hD hS => ?_)
              rw [← eg20] at hP hD
              have hP : va_P D vwCl (wv_24 cI cJ cZ aT aT_heads aT_places aT_olders aT_sizes aT_withins aT_newest aM aM_images aM_path T_count_38 nT_heads T_heads_38 nT_places T_places_38 nT_olders T_olders_38 nT_sizes T_sizes_38 nT_withins T_withins_38 T_newest_38 M_images_38 g20) H := hP
              have hD : va_D A (wv_24 cI cJ cZ aT aT_heads aT_places aT_olders aT_sizes aT_withins aT_newest aM aM_images aM_path T_count_38 nT_heads T_heads_38 nT_places T_places_38 nT_olders T_olders_38 nT_sizes T_sizes_38 nT_withins T_withins_38 T_newest_38 M_images_38 g20) := hD
              obtain ⟨x21, ex21⟩ : ∃ y : Int32, y = x3_38 + (1 : Int32) := ⟨_, rfl⟩
              refine lv_iinc (v := x21) (lv' := [(3, .int x21), (6, .int r16), (5, .int x15), (0, .ref aM), (1, .int x1_38), (2, .int x2_38), (4, .int x4_38)]) hx hb d_M_instance_88 hl (k := 5) rfl (by rw [ex21]; rfl) (by decide) rfl (fun ls hl => ?_)
              have hf := of_nm ex21 hf
              refine lv_goto (tgt := 112) hx hb d_M_instance_91 (by decide) ?_
              obtain ⟨x22, ex22⟩ : ∃ y : Int32, y = x4_38 + (1 : Int32) := ⟨_, rfl⟩
              refine lv_iinc (v := x22) (lv' := [(4, .int x22), (3, .int x21), (6, .int r16), (5, .int x15), (0, .ref aM), (1, .int x1_38), (2, .int x2_38)]) hx hb d_M_instance_112 hl (k := 6) rfl (by rw [ex22]; rfl) (by decide) rfl (fun ls hl => ?_)
              have hf := of_nm ex22 hf
              refine lv_goto (tgt := 38) hx hb d_M_instance_115 (by decide) ?_
              exact ih38 _ _ _ _ _ _ _ _ _ _ _ _ _ _ _ hP hD hS _ (lv_sub hl [4, 5, 6, 1, 0] rfl) hf
  rw [f_M_instance] at hf
  refine lv_iload_n hx hb d_M_instance_0 rfl (lv_at hl 1 rfl) ?_
  refine lv_if_lt (tgt := 20) hx hb d_M_instance_1 (by decide) (fun c1 => ?_) (fun c1 => ?_)
  · have hf := ite_t c1 hf
    refine lv_aload_n hx hb d_M_instance_20 rfl (lv_at hl 0 rfl) ?_
    refine lv_iload_n hx hb d_M_instance_21 rfl (lv_at hl 1 rfl) ?_
    obtain ⟨r2, hr2, hf⟩ := of_bd hf
    refine rd_call (va_runV (As := [.int p0]) (rest := []) ⟨hx, hb, hml, hown, hts⟩ (c_M_image l D cI cJ cZ aT aM aM_images aM_path M_images p0 r2 hr2) (bigV 1 hts k2_96 k2_98 ks_M_image k1_5 k2_99 rfl rfl hd_M_image ⟨Nat.le_of_ble_eq_true rfl, Nat.le_of_ble_eq_true rfl⟩) (rd_preV hK hP [7, 8] rfl 7 rfl rfl rfl) rfl rfl hl.1 rfl (lv_room (Nat.le_of_ble_eq_true rfl)) d_M_instance_22 ⟨Nat.le_of_ble_eq_true rfl, Nat.le_of_ble_eq_true rfl⟩) ?_
    obtain rfl := Option.some.inj hf
    exact W.iret (v := r2) hx hb hr (fun t ht hW => ⟨rfl, by rw [ht]; exact hP, hD, hS.F ht⟩) hS.2.2 d_M_instance_25
  · have hf := ite_f c1 hf
    refine lv_iload_n hx hb d_M_instance_4 rfl (lv_at hl 1 rfl) ?_
    refine lv_bipush (v := 100) hx hb d_M_instance_5 (by decide) ?_
    refine lv_icmp_ge (tgt := 20) hx hb d_M_instance_7 (by decide) (fun c3 => ?_) (fun c3 => ?_)
    · have hf := ite_t c3 hf
      refine lv_aload_n hx hb d_M_instance_20 rfl (lv_at hl 0 rfl) ?_
      refine lv_iload_n hx hb d_M_instance_21 rfl (lv_at hl 1 rfl) ?_
      obtain ⟨r4, hr4, hf⟩ := of_bd hf
      refine rd_call (va_runV (As := [.int p0]) (rest := []) ⟨hx, hb, hml, hown, hts⟩ (c_M_image l D cI cJ cZ aT aM aM_images aM_path M_images p0 r4 hr4) (bigV 1 hts k2_96 k2_98 ks_M_image k1_5 k2_99 rfl rfl hd_M_image ⟨Nat.le_of_ble_eq_true rfl, Nat.le_of_ble_eq_true rfl⟩) (rd_preV hK hP [7, 8] rfl 7 rfl rfl rfl) rfl rfl hl.1 rfl (lv_room (Nat.le_of_ble_eq_true rfl)) d_M_instance_22 ⟨Nat.le_of_ble_eq_true rfl, Nat.le_of_ble_eq_true rfl⟩) ?_
      obtain rfl := Option.some.inj hf
      exact W.iret (v := r4) hx hb hr (fun t ht hW => ⟨rfl, by rw [ht]; exact hP, hD, hS.F ht⟩) hS.2.2 d_M_instance_25
    · have hf := ite_f c3 hf
      refine lv_aload_n hx hb d_M_instance_10 rfl (lv_at hl 0 rfl) ?_
      refine va_get (D := D) (ci := 3) (v := .ref aM_images) (C := RR_M) (T := FF_M) (N := 3) hx hb hts kin_M hown hK.1 hP 7 rfl rfl 1 (by decide) (hts _ k1_91) (fun _ h9 => h9) rfl d_M_instance_11 ?_
      refine lv_iload_n hx hb d_M_instance_14 rfl (lv_at hl 1 rfl) ?_
      obtain ⟨h5, hf⟩ := of_gd hf
      refine va_iald hx hb hK.1 hP 8 0 rfl rfl (ixb_in h5) d_M_instance_15 ?_
      refine lv_iconst (v := -1) hx hb d_M_instance_16 (by decide) ?_
      refine lv_icmp_eq (tgt := 26) hx hb d_M_instance_17 (by decide) (fun c6 => ?_) (fun c6 => ?_)
      · have hf := ite_t c6 hf
        refine lv_aload_n hx hb d_M_instance_26 rfl (lv_at hl 0 rfl) ?_
        refine va_get (D := D) (ci := 3) (v := .ref aM_path) (C := RR_M) (T := FF_M) (N := 3) hx hb hts kin_M hown hK.1 hP 7 rfl rfl 2 (by decide) (hts _ k1_92) (fun _ h9 => h9) rfl d_M_instance_27 ?_
        refine lv_iconst (v := 0) hx hb d_M_instance_30 (by decide) ?_
        refine lv_iload_n hx hb d_M_instance_31 rfl (lv_at hl 1 rfl) ?_
        obtain ⟨h7, hf⟩ := of_gd hf
        obtain ⟨g8, eg8⟩ : ∃ y : Nat → Int32, y = upd M_path (0 : Int32).toNatClampNeg p0 := ⟨_, rfl⟩
        have hf := of_nm eg8 hf
        refine va_iast hx hb hK.1 hP hD hS 9 0 rfl rfl (ixb_in h7) d_M_instance_32 (fun H locs hP hD hS => ?_)
        rw [← eg8] at hP hD
        have hP : va_P D vwCl (wv_24 cI cJ cZ aT aT_heads aT_places aT_olders aT_sizes aT_withins aT_newest aM aM_images aM_path T_count nT_heads T_heads nT_places T_places nT_olders T_olders nT_sizes T_sizes nT_withins T_withins T_newest M_images g8) H := hP
        have hD : va_D A (wv_24 cI cJ cZ aT aT_heads aT_places aT_olders aT_sizes aT_withins aT_newest aM aM_images aM_path T_count nT_heads T_heads nT_places T_places nT_olders T_olders nT_sizes T_sizes nT_withins T_withins T_newest M_images g8) := hD
        refine lv_iconst (v := 1) hx hb d_M_instance_33 (by decide) ?_
        refine lv_istore_n (lv' := [(3, .int (1 : Int32)), (0, .ref aM), (1, .int p0), (2, .int p1)]) hx hb d_M_instance_34 rfl hl (by decide) rfl (fun ls hl => ?_)
        refine lv_iconst (v := 0) hx hb d_M_instance_35 (by decide) ?_
        refine lv_istore (lv' := [(4, .int (0 : Int32)), (3, .int (1 : Int32)), (0, .ref aM), (1, .int p0), (2, .int p1)]) hx hb d_M_instance_36 hl (by decide) rfl (fun ls hl => ?_)
        exact hL38 FU _ _ _ _ _ _ _ _ _ _ _ _ _ _ _ hP hD hS _ (lv_sub hl [2, 3, 4, 1, 0] rfl) hf
      · have hf := ite_f c6 hf
        refine lv_aload_n hx hb d_M_instance_20 rfl (lv_at hl 0 rfl) ?_
        refine lv_iload_n hx hb d_M_instance_21 rfl (lv_at hl 1 rfl) ?_
        obtain ⟨r9, hr9, hf⟩ := of_bd hf
        refine rd_call (va_runV (As := [.int p0]) (rest := []) ⟨hx, hb, hml, hown, hts⟩ (c_M_image l D cI cJ cZ aT aM aM_images aM_path M_images p0 r9 hr9) (bigV 1 hts k2_96 k2_98 ks_M_image k1_5 k2_99 rfl rfl hd_M_image ⟨Nat.le_of_ble_eq_true rfl, Nat.le_of_ble_eq_true rfl⟩) (rd_preV hK hP [7, 8] rfl 7 rfl rfl rfl) rfl rfl hl.1 rfl (lv_room (Nat.le_of_ble_eq_true rfl)) d_M_instance_22 ⟨Nat.le_of_ble_eq_true rfl, Nat.le_of_ble_eq_true rfl⟩) ?_
        obtain rfl := Option.some.inj hf
        exact W.iret (v := r9) hx hb hr (fun t ht hW => ⟨rfl, by rw [ht]; exact hP, hD, hS.F ht⟩) hS.2.2 d_M_instance_25
