abbrev b_Q_become0 : ByteArray := prog_9_method_30_code
abbrev y_Q_become0 : MethodName := ⟨"ShapeSearchModel", "become0", "(I)I"⟩
abbrev ws_Q_become0 : List Cond := .code y_Q_become0 b_Q_become0 2 (some .int) :: BG
theorem hd_Q_become0 : y_Q_become0.cls ≠ "java/lang/invoke/MethodHandle" ∧ y_Q_become0.cls ≠ "java/lang/invoke/VarHandle" ∧ (parseMethodDescriptor y_Q_become0.desc).map (fun d => d.parameters.length) = some 1 := by decide +kernel
theorem d_Q_become0_0 : decode b_Q_become0 0 = .ok (.iload_n 1, 1) := by decide +kernel
theorem d_Q_become0_1 : decode b_Q_become0 1 = .ok (.iconst (-1), 1) := by decide +kernel
theorem d_Q_become0_2 : decode b_Q_become0 2 = .ok (.if_icmp .ne 7, 3) := by decide +kernel
theorem d_Q_become0_5 : decode b_Q_become0 5 = .ok (.iconst (-1), 1) := by decide +kernel
theorem d_Q_become0_6 : decode b_Q_become0 6 = .ok (.goto 9, 3) := by decide +kernel
theorem d_Q_become0_9 : decode b_Q_become0 9 = .ok (.aload_n 0, 1) := by decide +kernel
theorem d_Q_become0_10 : decode b_Q_become0 10 = .ok (.getfield 68, 3) := by decide +kernel
theorem d_Q_become0_13 : decode b_Q_become0 13 = .ok (.iload_n 1, 1) := by decide +kernel
theorem d_Q_become0_14 : decode b_Q_become0 14 = .ok (.iaload, 1) := by decide +kernel
theorem d_Q_become0_15 : decode b_Q_become0 15 = .ok (.ireturn, 1) := by decide +kernel
abbrev b_Q_become : ByteArray := prog_9_method_29_code
abbrev y_Q_become : MethodName := ⟨"ShapeSearchModel", "become", "(II)I"⟩
abbrev ws_Q_become : List Cond := .code y_Q_become b_Q_become 3 (some .int) :: BG
theorem hd_Q_become : y_Q_become.cls ≠ "java/lang/invoke/MethodHandle" ∧ y_Q_become.cls ≠ "java/lang/invoke/VarHandle" ∧ (parseMethodDescriptor y_Q_become.desc).map (fun d => d.parameters.length) = some 2 := by decide +kernel
theorem d_Q_become_0 : decode b_Q_become 0 = .ok (.aload_n 0, 1) := by decide +kernel
theorem d_Q_become_1 : decode b_Q_become 1 = .ok (.getfield 8, 3) := by decide +kernel
theorem d_Q_become_4 : decode b_Q_become 4 = .ok (.iload_n 1, 1) := by decide +kernel
theorem d_Q_become_5 : decode b_Q_become 5 = .ok (.iaload, 1) := by decide +kernel
theorem d_Q_become_6 : decode b_Q_become 6 = .ok (.iconst 1, 1) := by decide +kernel
theorem d_Q_become_7 : decode b_Q_become 7 = .ok (.if_icmp .ne 34, 3) := by decide +kernel
theorem d_Q_become_10 : decode b_Q_become 10 = .ok (.aload_n 0, 1) := by decide +kernel
theorem d_Q_become_11 : decode b_Q_become 11 = .ok (.getfield 71, 3) := by decide +kernel
theorem d_Q_become_14 : decode b_Q_become 14 = .ok (.aload_n 0, 1) := by decide +kernel
theorem d_Q_become_15 : decode b_Q_become 15 = .ok (.getfield 14, 3) := by decide +kernel
theorem d_Q_become_18 : decode b_Q_become 18 = .ok (.iload_n 1, 1) := by decide +kernel
theorem d_Q_become_19 : decode b_Q_become 19 = .ok (.iaload, 1) := by decide +kernel
theorem d_Q_become_20 : decode b_Q_become 20 = .ok (.iaload, 1) := by decide +kernel
theorem d_Q_become_21 : decode b_Q_become 21 = .ok (.iconst (-1), 1) := by decide +kernel
theorem d_Q_become_22 : decode b_Q_become 22 = .ok (.if_icmp .ne 7, 3) := by decide +kernel
theorem d_Q_become_25 : decode b_Q_become 25 = .ok (.iload_n 1, 1) := by decide +kernel
theorem d_Q_become_26 : decode b_Q_become 26 = .ok (.goto 14, 3) := by decide +kernel
theorem d_Q_become_29 : decode b_Q_become 29 = .ok (.aload_n 0, 1) := by decide +kernel
theorem d_Q_become_30 : decode b_Q_become 30 = .ok (.getfield 71, 3) := by decide +kernel
theorem d_Q_become_33 : decode b_Q_become 33 = .ok (.aload_n 0, 1) := by decide +kernel
theorem d_Q_become_34 : decode b_Q_become 34 = .ok (.getfield 14, 3) := by decide +kernel
theorem d_Q_become_37 : decode b_Q_become 37 = .ok (.iload_n 1, 1) := by decide +kernel
theorem d_Q_become_38 : decode b_Q_become 38 = .ok (.iaload, 1) := by decide +kernel
theorem d_Q_become_39 : decode b_Q_become 39 = .ok (.iaload, 1) := by decide +kernel
theorem d_Q_become_40 : decode b_Q_become 40 = .ok (.ireturn, 1) := by decide +kernel
theorem d_Q_become_41 : decode b_Q_become 41 = .ok (.aload_n 0, 1) := by decide +kernel
theorem d_Q_become_42 : decode b_Q_become 42 = .ok (.getfield 8, 3) := by decide +kernel
theorem d_Q_become_45 : decode b_Q_become 45 = .ok (.iload_n 1, 1) := by decide +kernel
theorem d_Q_become_46 : decode b_Q_become 46 = .ok (.iaload, 1) := by decide +kernel
theorem d_Q_become_47 : decode b_Q_become 47 = .ok (.iconst 2, 1) := by decide +kernel
theorem d_Q_become_48 : decode b_Q_become 48 = .ok (.if_icmp .ne 5, 3) := by decide +kernel
theorem d_Q_become_51 : decode b_Q_become 51 = .ok (.iload_n 1, 1) := by decide +kernel
theorem d_Q_become_52 : decode b_Q_become 52 = .ok (.ireturn, 1) := by decide +kernel
theorem d_Q_become_53 : decode b_Q_become 53 = .ok (.aload_n 0, 1) := by decide +kernel
theorem d_Q_become_54 : decode b_Q_become 54 = .ok (.iconst 0, 1) := by decide +kernel
theorem d_Q_become_55 : decode b_Q_become 55 = .ok (.aload_n 0, 1) := by decide +kernel
theorem d_Q_become_56 : decode b_Q_become 56 = .ok (.getfield 14, 3) := by decide +kernel
theorem d_Q_become_59 : decode b_Q_become 59 = .ok (.iload_n 1, 1) := by decide +kernel
theorem d_Q_become_60 : decode b_Q_become 60 = .ok (.iaload, 1) := by decide +kernel
theorem d_Q_become_61 : decode b_Q_become 61 = .ok (.aload_n 0, 1) := by decide +kernel
theorem d_Q_become_62 : decode b_Q_become 62 = .ok (.aload_n 0, 1) := by decide +kernel
theorem d_Q_become_63 : decode b_Q_become 63 = .ok (.getfield 17, 3) := by decide +kernel
theorem d_Q_become_66 : decode b_Q_become 66 = .ok (.iload_n 1, 1) := by decide +kernel
theorem d_Q_become_67 : decode b_Q_become 67 = .ok (.iaload, 1) := by decide +kernel
theorem d_Q_become_68 : decode b_Q_become 68 = .ok (.invokevirtual 187, 3) := by decide +kernel
theorem d_Q_become_71 : decode b_Q_become 71 = .ok (.aload_n 0, 1) := by decide +kernel
theorem d_Q_become_72 : decode b_Q_become 72 = .ok (.aload_n 0, 1) := by decide +kernel
theorem d_Q_become_73 : decode b_Q_become 73 = .ok (.getfield 20, 3) := by decide +kernel
theorem d_Q_become_76 : decode b_Q_become 76 = .ok (.iload_n 1, 1) := by decide +kernel
theorem d_Q_become_77 : decode b_Q_become 77 = .ok (.iaload, 1) := by decide +kernel
theorem d_Q_become_78 : decode b_Q_become 78 = .ok (.invokevirtual 187, 3) := by decide +kernel
theorem d_Q_become_81 : decode b_Q_become 81 = .ok (.aload_n 0, 1) := by decide +kernel
theorem d_Q_become_82 : decode b_Q_become 82 = .ok (.aload_n 0, 1) := by decide +kernel
theorem d_Q_become_83 : decode b_Q_become 83 = .ok (.getfield 23, 3) := by decide +kernel
theorem d_Q_become_86 : decode b_Q_become 86 = .ok (.iload_n 1, 1) := by decide +kernel
theorem d_Q_become_87 : decode b_Q_become 87 = .ok (.iaload, 1) := by decide +kernel
theorem d_Q_become_88 : decode b_Q_become 88 = .ok (.invokevirtual 187, 3) := by decide +kernel
theorem d_Q_become_91 : decode b_Q_become 91 = .ok (.iload_n 2, 1) := by decide +kernel
theorem d_Q_become_92 : decode b_Q_become 92 = .ok (.invokevirtual 141, 3) := by decide +kernel
theorem d_Q_become_95 : decode b_Q_become 95 = .ok (.ireturn, 1) := by decide +kernel
abbrev b_Q_put : ByteArray := prog_9_method_28_code
abbrev y_Q_put : MethodName := ⟨"ShapeSearchModel", "put", "(II)I"⟩
abbrev ws_Q_put : List Cond := .code y_Q_put b_Q_put 8 (some .int) :: BG
theorem hd_Q_put : y_Q_put.cls ≠ "java/lang/invoke/MethodHandle" ∧ y_Q_put.cls ≠ "java/lang/invoke/VarHandle" ∧ (parseMethodDescriptor y_Q_put.desc).map (fun d => d.parameters.length) = some 2 := by decide +kernel
theorem d_Q_put_0 : decode b_Q_put 0 = .ok (.iconst 0, 1) := by decide +kernel
theorem d_Q_put_1 : decode b_Q_put 1 = .ok (.istore_n 3, 1) := by decide +kernel
theorem d_Q_put_2 : decode b_Q_put 2 = .ok (.iload_n 3, 1) := by decide +kernel
theorem d_Q_put_3 : decode b_Q_put 3 = .ok (.bipush 100, 2) := by decide +kernel
theorem d_Q_put_5 : decode b_Q_put 5 = .ok (.if_icmp .ge 16, 3) := by decide +kernel
theorem d_Q_put_8 : decode b_Q_put 8 = .ok (.aload_n 0, 1) := by decide +kernel
theorem d_Q_put_9 : decode b_Q_put 9 = .ok (.getfield 68, 3) := by decide +kernel
theorem d_Q_put_12 : decode b_Q_put 12 = .ok (.iload_n 3, 1) := by decide +kernel
theorem d_Q_put_13 : decode b_Q_put 13 = .ok (.iconst (-1), 1) := by decide +kernel
theorem d_Q_put_14 : decode b_Q_put 14 = .ok (.iastore, 1) := by decide +kernel
theorem d_Q_put_15 : decode b_Q_put 15 = .ok (.iinc 3 1, 3) := by decide +kernel
theorem d_Q_put_18 : decode b_Q_put 18 = .ok (.goto (-16), 3) := by decide +kernel
theorem d_Q_put_21 : decode b_Q_put 21 = .ok (.iconst 1, 1) := by decide +kernel
theorem d_Q_put_22 : decode b_Q_put 22 = .ok (.istore_n 3, 1) := by decide +kernel
theorem d_Q_put_23 : decode b_Q_put 23 = .ok (.aload_n 0, 1) := by decide +kernel
theorem d_Q_put_24 : decode b_Q_put 24 = .ok (.getfield 74, 3) := by decide +kernel
theorem d_Q_put_27 : decode b_Q_put 27 = .ok (.iconst 0, 1) := by decide +kernel
theorem d_Q_put_28 : decode b_Q_put 28 = .ok (.iload_n 1, 1) := by decide +kernel
theorem d_Q_put_29 : decode b_Q_put 29 = .ok (.iastore, 1) := by decide +kernel
theorem d_Q_put_30 : decode b_Q_put 30 = .ok (.iload_n 3, 1) := by decide +kernel
theorem d_Q_put_31 : decode b_Q_put 31 = .ok (.ifCond .le 119, 3) := by decide +kernel
theorem d_Q_put_34 : decode b_Q_put 34 = .ok (.aload_n 0, 1) := by decide +kernel
theorem d_Q_put_35 : decode b_Q_put 35 = .ok (.getfield 74, 3) := by decide +kernel
theorem d_Q_put_38 : decode b_Q_put 38 = .ok (.iload_n 3, 1) := by decide +kernel
theorem d_Q_put_39 : decode b_Q_put 39 = .ok (.iconst 1, 1) := by decide +kernel
theorem d_Q_put_40 : decode b_Q_put 40 = .ok (.isub, 1) := by decide +kernel
theorem d_Q_put_41 : decode b_Q_put 41 = .ok (.iaload, 1) := by decide +kernel
theorem d_Q_put_42 : decode b_Q_put 42 = .ok (.istore 4, 2) := by decide +kernel
theorem d_Q_put_44 : decode b_Q_put 44 = .ok (.iconst (-1), 1) := by decide +kernel
theorem d_Q_put_45 : decode b_Q_put 45 = .ok (.istore 5, 2) := by decide +kernel
theorem d_Q_put_47 : decode b_Q_put 47 = .ok (.iconst 2, 1) := by decide +kernel
theorem d_Q_put_48 : decode b_Q_put 48 = .ok (.istore 6, 2) := by decide +kernel
theorem d_Q_put_50 : decode b_Q_put 50 = .ok (.iload 6, 2) := by decide +kernel
theorem d_Q_put_52 : decode b_Q_put 52 = .ok (.ifCond .lt 45, 3) := by decide +kernel
theorem d_Q_put_55 : decode b_Q_put 55 = .ok (.aload_n 0, 1) := by decide +kernel
theorem d_Q_put_56 : decode b_Q_put 56 = .ok (.iload 4, 2) := by decide +kernel
theorem d_Q_put_58 : decode b_Q_put 58 = .ok (.iload 6, 2) := by decide +kernel
theorem d_Q_put_60 : decode b_Q_put 60 = .ok (.invokevirtual 129, 3) := by decide +kernel
theorem d_Q_put_63 : decode b_Q_put 63 = .ok (.istore 7, 2) := by decide +kernel
theorem d_Q_put_65 : decode b_Q_put 65 = .ok (.iload 7, 2) := by decide +kernel
theorem d_Q_put_67 : decode b_Q_put 67 = .ok (.iconst (-1), 1) := by decide +kernel
theorem d_Q_put_68 : decode b_Q_put 68 = .ok (.if_icmp .eq 19, 3) := by decide +kernel
theorem d_Q_put_71 : decode b_Q_put 71 = .ok (.aload_n 0, 1) := by decide +kernel
theorem d_Q_put_72 : decode b_Q_put 72 = .ok (.getfield 68, 3) := by decide +kernel
theorem d_Q_put_75 : decode b_Q_put 75 = .ok (.iload 7, 2) := by decide +kernel
theorem d_Q_put_77 : decode b_Q_put 77 = .ok (.iaload, 1) := by decide +kernel
theorem d_Q_put_78 : decode b_Q_put 78 = .ok (.iconst (-1), 1) := by decide +kernel
theorem d_Q_put_79 : decode b_Q_put 79 = .ok (.if_icmp .ne 8, 3) := by decide +kernel
theorem d_Q_put_82 : decode b_Q_put 82 = .ok (.iload 7, 2) := by decide +kernel
theorem d_Q_put_84 : decode b_Q_put 84 = .ok (.goto 5, 3) := by decide +kernel
theorem d_Q_put_87 : decode b_Q_put 87 = .ok (.iload 5, 2) := by decide +kernel
theorem d_Q_put_89 : decode b_Q_put 89 = .ok (.istore 5, 2) := by decide +kernel
theorem d_Q_put_91 : decode b_Q_put 91 = .ok (.iinc 6 (-1), 3) := by decide +kernel
theorem d_Q_put_94 : decode b_Q_put 94 = .ok (.goto (-44), 3) := by decide +kernel
theorem d_Q_put_97 : decode b_Q_put 97 = .ok (.iload 5, 2) := by decide +kernel
theorem d_Q_put_99 : decode b_Q_put 99 = .ok (.iconst (-1), 1) := by decide +kernel
theorem d_Q_put_100 : decode b_Q_put 100 = .ok (.if_icmp .eq 17, 3) := by decide +kernel
theorem d_Q_put_103 : decode b_Q_put 103 = .ok (.aload_n 0, 1) := by decide +kernel
theorem d_Q_put_104 : decode b_Q_put 104 = .ok (.getfield 74, 3) := by decide +kernel
theorem d_Q_put_107 : decode b_Q_put 107 = .ok (.iload_n 3, 1) := by decide +kernel
theorem d_Q_put_108 : decode b_Q_put 108 = .ok (.iload 5, 2) := by decide +kernel
theorem d_Q_put_110 : decode b_Q_put 110 = .ok (.iastore, 1) := by decide +kernel
theorem d_Q_put_111 : decode b_Q_put 111 = .ok (.iinc 3 1, 3) := by decide +kernel
theorem d_Q_put_114 : decode b_Q_put 114 = .ok (.goto (-84), 3) := by decide +kernel
theorem d_Q_put_117 : decode b_Q_put 117 = .ok (.aload_n 0, 1) := by decide +kernel
theorem d_Q_put_118 : decode b_Q_put 118 = .ok (.getfield 68, 3) := by decide +kernel
theorem d_Q_put_121 : decode b_Q_put 121 = .ok (.iload 4, 2) := by decide +kernel
theorem d_Q_put_123 : decode b_Q_put 123 = .ok (.aload_n 0, 1) := by decide +kernel
theorem d_Q_put_124 : decode b_Q_put 124 = .ok (.iload 4, 2) := by decide +kernel
theorem d_Q_put_126 : decode b_Q_put 126 = .ok (.iload_n 2, 1) := by decide +kernel
theorem d_Q_put_127 : decode b_Q_put 127 = .ok (.invokevirtual 184, 3) := by decide +kernel
theorem d_Q_put_130 : decode b_Q_put 130 = .ok (.iastore, 1) := by decide +kernel
theorem d_Q_put_131 : decode b_Q_put 131 = .ok (.aload_n 0, 1) := by decide +kernel
theorem d_Q_put_132 : decode b_Q_put 132 = .ok (.getfield 68, 3) := by decide +kernel
theorem d_Q_put_135 : decode b_Q_put 135 = .ok (.iload 4, 2) := by decide +kernel
theorem d_Q_put_137 : decode b_Q_put 137 = .ok (.iaload, 1) := by decide +kernel
theorem d_Q_put_138 : decode b_Q_put 138 = .ok (.iconst (-1), 1) := by decide +kernel
theorem d_Q_put_139 : decode b_Q_put 139 = .ok (.if_icmp .ne 5, 3) := by decide +kernel
theorem d_Q_put_142 : decode b_Q_put 142 = .ok (.iconst (-1), 1) := by decide +kernel
theorem d_Q_put_143 : decode b_Q_put 143 = .ok (.ireturn, 1) := by decide +kernel
theorem d_Q_put_144 : decode b_Q_put 144 = .ok (.iinc 3 (-1), 3) := by decide +kernel
theorem d_Q_put_147 : decode b_Q_put 147 = .ok (.goto (-117), 3) := by decide +kernel
theorem d_Q_put_150 : decode b_Q_put 150 = .ok (.aload_n 0, 1) := by decide +kernel
theorem d_Q_put_151 : decode b_Q_put 151 = .ok (.getfield 68, 3) := by decide +kernel
theorem d_Q_put_154 : decode b_Q_put 154 = .ok (.iload_n 1, 1) := by decide +kernel
theorem d_Q_put_155 : decode b_Q_put 155 = .ok (.iaload, 1) := by decide +kernel
theorem d_Q_put_156 : decode b_Q_put 156 = .ok (.ireturn, 1) := by decide +kernel
abbrev b_Q_goal : ByteArray := prog_9_method_31_code
abbrev y_Q_goal : MethodName := ⟨"ShapeSearchModel", "goal", "(II)I"⟩
abbrev ws_Q_goal : List Cond := .code y_Q_goal b_Q_goal 4 (some .int) :: BG
theorem hd_Q_goal : y_Q_goal.cls ≠ "java/lang/invoke/MethodHandle" ∧ y_Q_goal.cls ≠ "java/lang/invoke/VarHandle" ∧ (parseMethodDescriptor y_Q_goal.desc).map (fun d => d.parameters.length) = some 2 := by decide +kernel
theorem d_Q_goal_0 : decode b_Q_goal 0 = .ok (.aload_n 0, 1) := by decide +kernel
theorem d_Q_goal_1 : decode b_Q_goal 1 = .ok (.aload_n 0, 1) := by decide +kernel
theorem d_Q_goal_2 : decode b_Q_goal 2 = .ok (.getfield 154, 3) := by decide +kernel
theorem d_Q_goal_5 : decode b_Q_goal 5 = .ok (.iconst 2, 1) := by decide +kernel
theorem d_Q_goal_6 : decode b_Q_goal 6 = .ok (.if_icmp .ne 29, 3) := by decide +kernel
theorem d_Q_goal_9 : decode b_Q_goal 9 = .ok (.iload_n 1, 1) := by decide +kernel
theorem d_Q_goal_10 : decode b_Q_goal 10 = .ok (.ifCond .lt 25, 3) := by decide +kernel
theorem d_Q_goal_13 : decode b_Q_goal 13 = .ok (.iload_n 1, 1) := by decide +kernel
theorem d_Q_goal_14 : decode b_Q_goal 14 = .ok (.aload_n 0, 1) := by decide +kernel
theorem d_Q_goal_15 : decode b_Q_goal 15 = .ok (.getfield 151, 3) := by decide +kernel
theorem d_Q_goal_18 : decode b_Q_goal 18 = .ok (.if_icmp .ge 17, 3) := by decide +kernel
theorem d_Q_goal_21 : decode b_Q_goal 21 = .ok (.iload_n 2, 1) := by decide +kernel
theorem d_Q_goal_22 : decode b_Q_goal 22 = .ok (.ifCond .lt 13, 3) := by decide +kernel
theorem d_Q_goal_25 : decode b_Q_goal 25 = .ok (.iload_n 2, 1) := by decide +kernel
theorem d_Q_goal_26 : decode b_Q_goal 26 = .ok (.aload_n 0, 1) := by decide +kernel
theorem d_Q_goal_27 : decode b_Q_goal 27 = .ok (.getfield 62, 3) := by decide +kernel
theorem d_Q_goal_30 : decode b_Q_goal 30 = .ok (.iload_n 1, 1) := by decide +kernel
theorem d_Q_goal_31 : decode b_Q_goal 31 = .ok (.iaload, 1) := by decide +kernel
theorem d_Q_goal_32 : decode b_Q_goal 32 = .ok (.if_icmp .lt 7, 3) := by decide +kernel
theorem d_Q_goal_35 : decode b_Q_goal 35 = .ok (.iconst 1, 1) := by decide +kernel
theorem d_Q_goal_36 : decode b_Q_goal 36 = .ok (.goto 4, 3) := by decide +kernel
theorem d_Q_goal_39 : decode b_Q_goal 39 = .ok (.iconst 0, 1) := by decide +kernel
theorem d_Q_goal_40 : decode b_Q_goal 40 = .ok (.invokevirtual 138, 3) := by decide +kernel
theorem d_Q_goal_43 : decode b_Q_goal 43 = .ok (.ifCond .eq 5, 3) := by decide +kernel
theorem d_Q_goal_46 : decode b_Q_goal 46 = .ok (.iconst 0, 1) := by decide +kernel
theorem d_Q_goal_47 : decode b_Q_goal 47 = .ok (.ireturn, 1) := by decide +kernel
theorem d_Q_goal_48 : decode b_Q_goal 48 = .ok (.iconst 0, 1) := by decide +kernel
theorem d_Q_goal_49 : decode b_Q_goal 49 = .ok (.istore_n 3, 1) := by decide +kernel
theorem d_Q_goal_50 : decode b_Q_goal 50 = .ok (.iload_n 3, 1) := by decide +kernel
theorem d_Q_goal_51 : decode b_Q_goal 51 = .ok (.bipush 8, 2) := by decide +kernel
theorem d_Q_goal_53 : decode b_Q_goal 53 = .ok (.if_icmp .ge 26, 3) := by decide +kernel
theorem d_Q_goal_56 : decode b_Q_goal 56 = .ok (.aload_n 0, 1) := by decide +kernel
theorem d_Q_goal_57 : decode b_Q_goal 57 = .ok (.getfield 71, 3) := by decide +kernel
theorem d_Q_goal_60 : decode b_Q_goal 60 = .ok (.iload_n 3, 1) := by decide +kernel
theorem d_Q_goal_61 : decode b_Q_goal 61 = .ok (.aload_n 0, 1) := by decide +kernel
theorem d_Q_goal_62 : decode b_Q_goal 62 = .ok (.getfield 65, 3) := by decide +kernel
theorem d_Q_goal_65 : decode b_Q_goal 65 = .ok (.bipush 8, 2) := by decide +kernel
theorem d_Q_goal_67 : decode b_Q_goal 67 = .ok (.iload_n 1, 1) := by decide +kernel
theorem d_Q_goal_68 : decode b_Q_goal 68 = .ok (.imul, 1) := by decide +kernel
theorem d_Q_goal_69 : decode b_Q_goal 69 = .ok (.iload_n 3, 1) := by decide +kernel
theorem d_Q_goal_70 : decode b_Q_goal 70 = .ok (.iadd, 1) := by decide +kernel
theorem d_Q_goal_71 : decode b_Q_goal 71 = .ok (.iaload, 1) := by decide +kernel
theorem d_Q_goal_72 : decode b_Q_goal 72 = .ok (.iastore, 1) := by decide +kernel
theorem d_Q_goal_73 : decode b_Q_goal 73 = .ok (.iinc 3 1, 3) := by decide +kernel
theorem d_Q_goal_76 : decode b_Q_goal 76 = .ok (.goto (-26), 3) := by decide +kernel
theorem d_Q_goal_79 : decode b_Q_goal 79 = .ok (.aload_n 0, 1) := by decide +kernel
theorem d_Q_goal_80 : decode b_Q_goal 80 = .ok (.aload_n 0, 1) := by decide +kernel
theorem d_Q_goal_81 : decode b_Q_goal 81 = .ok (.aload_n 0, 1) := by decide +kernel
theorem d_Q_goal_82 : decode b_Q_goal 82 = .ok (.aload_n 0, 1) := by decide +kernel
theorem d_Q_goal_83 : decode b_Q_goal 83 = .ok (.getfield 56, 3) := by decide +kernel
theorem d_Q_goal_86 : decode b_Q_goal 86 = .ok (.iload_n 1, 1) := by decide +kernel
theorem d_Q_goal_87 : decode b_Q_goal 87 = .ok (.iaload, 1) := by decide +kernel
theorem d_Q_goal_88 : decode b_Q_goal 88 = .ok (.iload_n 2, 1) := by decide +kernel
theorem d_Q_goal_89 : decode b_Q_goal 89 = .ok (.invokevirtual 157, 3) := by decide +kernel
theorem d_Q_goal_92 : decode b_Q_goal 92 = .ok (.bipush 100, 2) := by decide +kernel
theorem d_Q_goal_94 : decode b_Q_goal 94 = .ok (.invokevirtual 190, 3) := by decide +kernel
theorem d_Q_goal_97 : decode b_Q_goal 97 = .ok (.iconst 2, 1) := by decide +kernel
theorem d_Q_goal_98 : decode b_Q_goal 98 = .ok (.invokevirtual 145, 3) := by decide +kernel
theorem d_Q_goal_101 : decode b_Q_goal 101 = .ok (.ireturn, 1) := by decide +kernel
abbrev b_Q_areAlike : ByteArray := prog_9_method_32_code
abbrev y_Q_areAlike : MethodName := ⟨"ShapeSearchModel", "areAlike", "(II)Z"⟩
abbrev ws_Q_areAlike : List Cond := .code y_Q_areAlike b_Q_areAlike 8 (some .boolean) :: BG
theorem hd_Q_areAlike : y_Q_areAlike.cls ≠ "java/lang/invoke/MethodHandle" ∧ y_Q_areAlike.cls ≠ "java/lang/invoke/VarHandle" ∧ (parseMethodDescriptor y_Q_areAlike.desc).map (fun d => d.parameters.length) = some 2 := by decide +kernel
theorem d_Q_areAlike_0 : decode b_Q_areAlike 0 = .ok (.iconst 0, 1) := by decide +kernel
theorem d_Q_areAlike_1 : decode b_Q_areAlike 1 = .ok (.istore_n 3, 1) := by decide +kernel
theorem d_Q_areAlike_2 : decode b_Q_areAlike 2 = .ok (.iload_n 3, 1) := by decide +kernel
theorem d_Q_areAlike_3 : decode b_Q_areAlike 3 = .ok (.bipush 100, 2) := by decide +kernel
theorem d_Q_areAlike_5 : decode b_Q_areAlike 5 = .ok (.if_icmp .ge 16, 3) := by decide +kernel
theorem d_Q_areAlike_8 : decode b_Q_areAlike 8 = .ok (.aload_n 0, 1) := by decide +kernel
theorem d_Q_areAlike_9 : decode b_Q_areAlike 9 = .ok (.getfield 68, 3) := by decide +kernel
theorem d_Q_areAlike_12 : decode b_Q_areAlike 12 = .ok (.iload_n 3, 1) := by decide +kernel
theorem d_Q_areAlike_13 : decode b_Q_areAlike 13 = .ok (.iconst (-1), 1) := by decide +kernel
theorem d_Q_areAlike_14 : decode b_Q_areAlike 14 = .ok (.iastore, 1) := by decide +kernel
theorem d_Q_areAlike_15 : decode b_Q_areAlike 15 = .ok (.iinc 3 1, 3) := by decide +kernel
theorem d_Q_areAlike_18 : decode b_Q_areAlike 18 = .ok (.goto (-16), 3) := by decide +kernel
theorem d_Q_areAlike_21 : decode b_Q_areAlike 21 = .ok (.iconst 1, 1) := by decide +kernel
theorem d_Q_areAlike_22 : decode b_Q_areAlike 22 = .ok (.istore_n 3, 1) := by decide +kernel
theorem d_Q_areAlike_23 : decode b_Q_areAlike 23 = .ok (.aload_n 0, 1) := by decide +kernel
theorem d_Q_areAlike_24 : decode b_Q_areAlike 24 = .ok (.getfield 74, 3) := by decide +kernel
theorem d_Q_areAlike_27 : decode b_Q_areAlike 27 = .ok (.iconst 0, 1) := by decide +kernel
theorem d_Q_areAlike_28 : decode b_Q_areAlike 28 = .ok (.iload_n 1, 1) := by decide +kernel
theorem d_Q_areAlike_29 : decode b_Q_areAlike 29 = .ok (.iastore, 1) := by decide +kernel
theorem d_Q_areAlike_30 : decode b_Q_areAlike 30 = .ok (.aload_n 0, 1) := by decide +kernel
theorem d_Q_areAlike_31 : decode b_Q_areAlike 31 = .ok (.getfield 77, 3) := by decide +kernel
theorem d_Q_areAlike_34 : decode b_Q_areAlike 34 = .ok (.iconst 0, 1) := by decide +kernel
theorem d_Q_areAlike_35 : decode b_Q_areAlike 35 = .ok (.iload_n 2, 1) := by decide +kernel
theorem d_Q_areAlike_36 : decode b_Q_areAlike 36 = .ok (.iastore, 1) := by decide +kernel
theorem d_Q_areAlike_37 : decode b_Q_areAlike 37 = .ok (.iload_n 3, 1) := by decide +kernel
theorem d_Q_areAlike_38 : decode b_Q_areAlike 38 = .ok (.ifCond .le 268, 3) := by decide +kernel
theorem d_Q_areAlike_41 : decode b_Q_areAlike 41 = .ok (.iinc 3 (-1), 3) := by decide +kernel
theorem d_Q_areAlike_44 : decode b_Q_areAlike 44 = .ok (.aload_n 0, 1) := by decide +kernel
theorem d_Q_areAlike_45 : decode b_Q_areAlike 45 = .ok (.getfield 74, 3) := by decide +kernel
theorem d_Q_areAlike_48 : decode b_Q_areAlike 48 = .ok (.iload_n 3, 1) := by decide +kernel
theorem d_Q_areAlike_49 : decode b_Q_areAlike 49 = .ok (.iaload, 1) := by decide +kernel
theorem d_Q_areAlike_50 : decode b_Q_areAlike 50 = .ok (.istore 4, 2) := by decide +kernel
theorem d_Q_areAlike_52 : decode b_Q_areAlike 52 = .ok (.aload_n 0, 1) := by decide +kernel
theorem d_Q_areAlike_53 : decode b_Q_areAlike 53 = .ok (.getfield 77, 3) := by decide +kernel
theorem d_Q_areAlike_56 : decode b_Q_areAlike 56 = .ok (.iload_n 3, 1) := by decide +kernel
theorem d_Q_areAlike_57 : decode b_Q_areAlike 57 = .ok (.iaload, 1) := by decide +kernel
theorem d_Q_areAlike_58 : decode b_Q_areAlike 58 = .ok (.istore 5, 2) := by decide +kernel
theorem d_Q_areAlike_60 : decode b_Q_areAlike 60 = .ok (.aload_n 0, 1) := by decide +kernel
theorem d_Q_areAlike_61 : decode b_Q_areAlike 61 = .ok (.getfield 68, 3) := by decide +kernel
theorem d_Q_areAlike_64 : decode b_Q_areAlike 64 = .ok (.iload 4, 2) := by decide +kernel
theorem d_Q_areAlike_66 : decode b_Q_areAlike 66 = .ok (.iaload, 1) := by decide +kernel
theorem d_Q_areAlike_67 : decode b_Q_areAlike 67 = .ok (.iconst (-1), 1) := by decide +kernel
theorem d_Q_areAlike_68 : decode b_Q_areAlike 68 = .ok (.if_icmp .eq 17, 3) := by decide +kernel
theorem d_Q_areAlike_71 : decode b_Q_areAlike 71 = .ok (.aload_n 0, 1) := by decide +kernel
theorem d_Q_areAlike_72 : decode b_Q_areAlike 72 = .ok (.getfield 68, 3) := by decide +kernel
theorem d_Q_areAlike_75 : decode b_Q_areAlike 75 = .ok (.iload 4, 2) := by decide +kernel
theorem d_Q_areAlike_77 : decode b_Q_areAlike 77 = .ok (.iaload, 1) := by decide +kernel
theorem d_Q_areAlike_78 : decode b_Q_areAlike 78 = .ok (.iload 5, 2) := by decide +kernel
theorem d_Q_areAlike_80 : decode b_Q_areAlike 80 = .ok (.if_icmp .eq (-43), 3) := by decide +kernel
theorem d_Q_areAlike_83 : decode b_Q_areAlike 83 = .ok (.iconst 0, 1) := by decide +kernel
theorem d_Q_areAlike_84 : decode b_Q_areAlike 84 = .ok (.ireturn, 1) := by decide +kernel
theorem d_Q_areAlike_85 : decode b_Q_areAlike 85 = .ok (.aload_n 0, 1) := by decide +kernel
theorem d_Q_areAlike_86 : decode b_Q_areAlike 86 = .ok (.getfield 68, 3) := by decide +kernel
theorem d_Q_areAlike_89 : decode b_Q_areAlike 89 = .ok (.iload 4, 2) := by decide +kernel
theorem d_Q_areAlike_91 : decode b_Q_areAlike 91 = .ok (.iload 5, 2) := by decide +kernel
theorem d_Q_areAlike_93 : decode b_Q_areAlike 93 = .ok (.iastore, 1) := by decide +kernel
theorem d_Q_areAlike_94 : decode b_Q_areAlike 94 = .ok (.aload_n 0, 1) := by decide +kernel
theorem d_Q_areAlike_95 : decode b_Q_areAlike 95 = .ok (.getfield 8, 3) := by decide +kernel
theorem d_Q_areAlike_98 : decode b_Q_areAlike 98 = .ok (.iload 4, 2) := by decide +kernel
theorem d_Q_areAlike_100 : decode b_Q_areAlike 100 = .ok (.iaload, 1) := by decide +kernel
theorem d_Q_areAlike_101 : decode b_Q_areAlike 101 = .ok (.aload_n 0, 1) := by decide +kernel
theorem d_Q_areAlike_102 : decode b_Q_areAlike 102 = .ok (.getfield 8, 3) := by decide +kernel
theorem d_Q_areAlike_105 : decode b_Q_areAlike 105 = .ok (.iload 5, 2) := by decide +kernel
theorem d_Q_areAlike_107 : decode b_Q_areAlike 107 = .ok (.iaload, 1) := by decide +kernel
theorem d_Q_areAlike_108 : decode b_Q_areAlike 108 = .ok (.if_icmp .ne 30, 3) := by decide +kernel
theorem d_Q_areAlike_111 : decode b_Q_areAlike 111 = .ok (.aload_n 0, 1) := by decide +kernel
theorem d_Q_areAlike_112 : decode b_Q_areAlike 112 = .ok (.getfield 8, 3) := by decide +kernel
theorem d_Q_areAlike_115 : decode b_Q_areAlike 115 = .ok (.iload 4, 2) := by decide +kernel
theorem d_Q_areAlike_117 : decode b_Q_areAlike 117 = .ok (.iaload, 1) := by decide +kernel
theorem d_Q_areAlike_118 : decode b_Q_areAlike 118 = .ok (.ifCond .ne 22, 3) := by decide +kernel
theorem d_Q_areAlike_121 : decode b_Q_areAlike 121 = .ok (.aload_n 0, 1) := by decide +kernel
theorem d_Q_areAlike_122 : decode b_Q_areAlike 122 = .ok (.getfield 14, 3) := by decide +kernel
theorem d_Q_areAlike_125 : decode b_Q_areAlike 125 = .ok (.iload 4, 2) := by decide +kernel
theorem d_Q_areAlike_127 : decode b_Q_areAlike 127 = .ok (.iaload, 1) := by decide +kernel
theorem d_Q_areAlike_128 : decode b_Q_areAlike 128 = .ok (.aload_n 0, 1) := by decide +kernel
theorem d_Q_areAlike_129 : decode b_Q_areAlike 129 = .ok (.getfield 14, 3) := by decide +kernel
theorem d_Q_areAlike_132 : decode b_Q_areAlike 132 = .ok (.iload 5, 2) := by decide +kernel
theorem d_Q_areAlike_134 : decode b_Q_areAlike 134 = .ok (.iaload, 1) := by decide +kernel
theorem d_Q_areAlike_135 : decode b_Q_areAlike 135 = .ok (.if_icmp .eq 5, 3) := by decide +kernel
theorem d_Q_areAlike_138 : decode b_Q_areAlike 138 = .ok (.iconst 0, 1) := by decide +kernel
theorem d_Q_areAlike_139 : decode b_Q_areAlike 139 = .ok (.ireturn, 1) := by decide +kernel
theorem d_Q_areAlike_140 : decode b_Q_areAlike 140 = .ok (.aload_n 0, 1) := by decide +kernel
theorem d_Q_areAlike_141 : decode b_Q_areAlike 141 = .ok (.getfield 8, 3) := by decide +kernel
theorem d_Q_areAlike_144 : decode b_Q_areAlike 144 = .ok (.iload 4, 2) := by decide +kernel
theorem d_Q_areAlike_146 : decode b_Q_areAlike 146 = .ok (.iaload, 1) := by decide +kernel
theorem d_Q_areAlike_147 : decode b_Q_areAlike 147 = .ok (.iconst 1, 1) := by decide +kernel
theorem d_Q_areAlike_148 : decode b_Q_areAlike 148 = .ok (.if_icmp .ne 87, 3) := by decide +kernel
theorem d_Q_areAlike_151 : decode b_Q_areAlike 151 = .ok (.aload_n 0, 1) := by decide +kernel
theorem d_Q_areAlike_152 : decode b_Q_areAlike 152 = .ok (.getfield 14, 3) := by decide +kernel
theorem d_Q_areAlike_155 : decode b_Q_areAlike 155 = .ok (.iload 4, 2) := by decide +kernel
theorem d_Q_areAlike_157 : decode b_Q_areAlike 157 = .ok (.iaload, 1) := by decide +kernel
theorem d_Q_areAlike_158 : decode b_Q_areAlike 158 = .ok (.istore 6, 2) := by decide +kernel
theorem d_Q_areAlike_160 : decode b_Q_areAlike 160 = .ok (.aload_n 0, 1) := by decide +kernel
theorem d_Q_areAlike_161 : decode b_Q_areAlike 161 = .ok (.getfield 14, 3) := by decide +kernel
theorem d_Q_areAlike_164 : decode b_Q_areAlike 164 = .ok (.iload 5, 2) := by decide +kernel
theorem d_Q_areAlike_166 : decode b_Q_areAlike 166 = .ok (.iaload, 1) := by decide +kernel
theorem d_Q_areAlike_167 : decode b_Q_areAlike 167 = .ok (.istore 7, 2) := by decide +kernel
theorem d_Q_areAlike_169 : decode b_Q_areAlike 169 = .ok (.aload_n 0, 1) := by decide +kernel
theorem d_Q_areAlike_170 : decode b_Q_areAlike 170 = .ok (.getfield 109, 3) := by decide +kernel
theorem d_Q_areAlike_173 : decode b_Q_areAlike 173 = .ok (.iload 6, 2) := by decide +kernel
theorem d_Q_areAlike_175 : decode b_Q_areAlike 175 = .ok (.iaload, 1) := by decide +kernel
theorem d_Q_areAlike_176 : decode b_Q_areAlike 176 = .ok (.iconst (-1), 1) := by decide +kernel
theorem d_Q_areAlike_177 : decode b_Q_areAlike 177 = .ok (.if_icmp .ne 32, 3) := by decide +kernel
theorem d_Q_areAlike_180 : decode b_Q_areAlike 180 = .ok (.aload_n 0, 1) := by decide +kernel
theorem d_Q_areAlike_181 : decode b_Q_areAlike 181 = .ok (.getfield 112, 3) := by decide +kernel
theorem d_Q_areAlike_184 : decode b_Q_areAlike 184 = .ok (.iload 7, 2) := by decide +kernel
theorem d_Q_areAlike_186 : decode b_Q_areAlike 186 = .ok (.iaload, 1) := by decide +kernel
theorem d_Q_areAlike_187 : decode b_Q_areAlike 187 = .ok (.iconst (-1), 1) := by decide +kernel
theorem d_Q_areAlike_188 : decode b_Q_areAlike 188 = .ok (.if_icmp .ne 21, 3) := by decide +kernel
theorem d_Q_areAlike_191 : decode b_Q_areAlike 191 = .ok (.aload_n 0, 1) := by decide +kernel
theorem d_Q_areAlike_192 : decode b_Q_areAlike 192 = .ok (.getfield 109, 3) := by decide +kernel
theorem d_Q_areAlike_195 : decode b_Q_areAlike 195 = .ok (.iload 6, 2) := by decide +kernel
theorem d_Q_areAlike_197 : decode b_Q_areAlike 197 = .ok (.iload 7, 2) := by decide +kernel
theorem d_Q_areAlike_199 : decode b_Q_areAlike 199 = .ok (.iastore, 1) := by decide +kernel
theorem d_Q_areAlike_200 : decode b_Q_areAlike 200 = .ok (.aload_n 0, 1) := by decide +kernel
theorem d_Q_areAlike_201 : decode b_Q_areAlike 201 = .ok (.getfield 112, 3) := by decide +kernel
theorem d_Q_areAlike_204 : decode b_Q_areAlike 204 = .ok (.iload 7, 2) := by decide +kernel
theorem d_Q_areAlike_206 : decode b_Q_areAlike 206 = .ok (.iload 6, 2) := by decide +kernel
theorem d_Q_areAlike_208 : decode b_Q_areAlike 208 = .ok (.iastore, 1) := by decide +kernel
theorem d_Q_areAlike_209 : decode b_Q_areAlike 209 = .ok (.aload_n 0, 1) := by decide +kernel
theorem d_Q_areAlike_210 : decode b_Q_areAlike 210 = .ok (.getfield 109, 3) := by decide +kernel
theorem d_Q_areAlike_213 : decode b_Q_areAlike 213 = .ok (.iload 6, 2) := by decide +kernel
theorem d_Q_areAlike_215 : decode b_Q_areAlike 215 = .ok (.iaload, 1) := by decide +kernel
theorem d_Q_areAlike_216 : decode b_Q_areAlike 216 = .ok (.iload 7, 2) := by decide +kernel
theorem d_Q_areAlike_218 : decode b_Q_areAlike 218 = .ok (.if_icmp .ne 15, 3) := by decide +kernel
theorem d_Q_areAlike_221 : decode b_Q_areAlike 221 = .ok (.aload_n 0, 1) := by decide +kernel
theorem d_Q_areAlike_222 : decode b_Q_areAlike 222 = .ok (.getfield 112, 3) := by decide +kernel
theorem d_Q_areAlike_225 : decode b_Q_areAlike 225 = .ok (.iload 7, 2) := by decide +kernel
theorem d_Q_areAlike_227 : decode b_Q_areAlike 227 = .ok (.iaload, 1) := by decide +kernel
theorem d_Q_areAlike_228 : decode b_Q_areAlike 228 = .ok (.iload 6, 2) := by decide +kernel
theorem d_Q_areAlike_230 : decode b_Q_areAlike 230 = .ok (.if_icmp .eq 5, 3) := by decide +kernel
theorem d_Q_areAlike_233 : decode b_Q_areAlike 233 = .ok (.iconst 0, 1) := by decide +kernel
theorem d_Q_areAlike_234 : decode b_Q_areAlike 234 = .ok (.ireturn, 1) := by decide +kernel
theorem d_Q_areAlike_235 : decode b_Q_areAlike 235 = .ok (.iconst 0, 1) := by decide +kernel
theorem d_Q_areAlike_236 : decode b_Q_areAlike 236 = .ok (.istore 6, 2) := by decide +kernel
theorem d_Q_areAlike_238 : decode b_Q_areAlike 238 = .ok (.iload 6, 2) := by decide +kernel
theorem d_Q_areAlike_240 : decode b_Q_areAlike 240 = .ok (.iconst 3, 1) := by decide +kernel
theorem d_Q_areAlike_241 : decode b_Q_areAlike 241 = .ok (.if_icmp .ge 62, 3) := by decide +kernel
theorem d_Q_areAlike_244 : decode b_Q_areAlike 244 = .ok (.aload_n 0, 1) := by decide +kernel
theorem d_Q_areAlike_245 : decode b_Q_areAlike 245 = .ok (.getfield 8, 3) := by decide +kernel
theorem d_Q_areAlike_248 : decode b_Q_areAlike 248 = .ok (.iload 4, 2) := by decide +kernel
theorem d_Q_areAlike_250 : decode b_Q_areAlike 250 = .ok (.iaload, 1) := by decide +kernel
theorem d_Q_areAlike_251 : decode b_Q_areAlike 251 = .ok (.ifCond .ne 52, 3) := by decide +kernel
theorem d_Q_areAlike_254 : decode b_Q_areAlike 254 = .ok (.aload_n 0, 1) := by decide +kernel
theorem d_Q_areAlike_255 : decode b_Q_areAlike 255 = .ok (.iload 4, 2) := by decide +kernel
theorem d_Q_areAlike_257 : decode b_Q_areAlike 257 = .ok (.iload 6, 2) := by decide +kernel
theorem d_Q_areAlike_259 : decode b_Q_areAlike 259 = .ok (.invokevirtual 129, 3) := by decide +kernel
theorem d_Q_areAlike_262 : decode b_Q_areAlike 262 = .ok (.iconst (-1), 1) := by decide +kernel
theorem d_Q_areAlike_263 : decode b_Q_areAlike 263 = .ok (.if_icmp .eq 34, 3) := by decide +kernel
theorem d_Q_areAlike_266 : decode b_Q_areAlike 266 = .ok (.aload_n 0, 1) := by decide +kernel
theorem d_Q_areAlike_267 : decode b_Q_areAlike 267 = .ok (.getfield 74, 3) := by decide +kernel
theorem d_Q_areAlike_270 : decode b_Q_areAlike 270 = .ok (.iload_n 3, 1) := by decide +kernel
theorem d_Q_areAlike_271 : decode b_Q_areAlike 271 = .ok (.aload_n 0, 1) := by decide +kernel
theorem d_Q_areAlike_272 : decode b_Q_areAlike 272 = .ok (.iload 4, 2) := by decide +kernel
theorem d_Q_areAlike_274 : decode b_Q_areAlike 274 = .ok (.iload 6, 2) := by decide +kernel
theorem d_Q_areAlike_276 : decode b_Q_areAlike 276 = .ok (.invokevirtual 129, 3) := by decide +kernel
theorem d_Q_areAlike_279 : decode b_Q_areAlike 279 = .ok (.iastore, 1) := by decide +kernel
theorem d_Q_areAlike_280 : decode b_Q_areAlike 280 = .ok (.aload_n 0, 1) := by decide +kernel
theorem d_Q_areAlike_281 : decode b_Q_areAlike 281 = .ok (.getfield 77, 3) := by decide +kernel
theorem d_Q_areAlike_284 : decode b_Q_areAlike 284 = .ok (.iload_n 3, 1) := by decide +kernel
theorem d_Q_areAlike_285 : decode b_Q_areAlike 285 = .ok (.aload_n 0, 1) := by decide +kernel
theorem d_Q_areAlike_286 : decode b_Q_areAlike 286 = .ok (.iload 5, 2) := by decide +kernel
theorem d_Q_areAlike_288 : decode b_Q_areAlike 288 = .ok (.iload 6, 2) := by decide +kernel
theorem d_Q_areAlike_290 : decode b_Q_areAlike 290 = .ok (.invokevirtual 129, 3) := by decide +kernel
theorem d_Q_areAlike_293 : decode b_Q_areAlike 293 = .ok (.iastore, 1) := by decide +kernel
theorem d_Q_areAlike_294 : decode b_Q_areAlike 294 = .ok (.iinc 3 1, 3) := by decide +kernel
theorem d_Q_areAlike_297 : decode b_Q_areAlike 297 = .ok (.iinc 6 1, 3) := by decide +kernel
theorem d_Q_areAlike_300 : decode b_Q_areAlike 300 = .ok (.goto (-62), 3) := by decide +kernel
theorem d_Q_areAlike_303 : decode b_Q_areAlike 303 = .ok (.goto (-266), 3) := by decide +kernel
theorem d_Q_areAlike_306 : decode b_Q_areAlike 306 = .ok (.iconst 1, 1) := by decide +kernel
theorem d_Q_areAlike_307 : decode b_Q_areAlike 307 = .ok (.ireturn, 1) := by decide +kernel
abbrev b_Q_areTwins : ByteArray := prog_9_method_33_code
abbrev y_Q_areTwins : MethodName := ⟨"ShapeSearchModel", "areTwins", "(II)Z"⟩
abbrev ws_Q_areTwins : List Cond := .code y_Q_areTwins b_Q_areTwins 5 (some .boolean) :: BG
theorem hd_Q_areTwins : y_Q_areTwins.cls ≠ "java/lang/invoke/MethodHandle" ∧ y_Q_areTwins.cls ≠ "java/lang/invoke/VarHandle" ∧ (parseMethodDescriptor y_Q_areTwins.desc).map (fun d => d.parameters.length) = some 2 := by decide +kernel
theorem d_Q_areTwins_0 : decode b_Q_areTwins 0 = .ok (.iconst 0, 1) := by decide +kernel
theorem d_Q_areTwins_1 : decode b_Q_areTwins 1 = .ok (.istore_n 3, 1) := by decide +kernel
theorem d_Q_areTwins_2 : decode b_Q_areTwins 2 = .ok (.iload_n 3, 1) := by decide +kernel
theorem d_Q_areTwins_3 : decode b_Q_areTwins 3 = .ok (.bipush 8, 2) := by decide +kernel
theorem d_Q_areTwins_5 : decode b_Q_areTwins 5 = .ok (.if_icmp .ge 23, 3) := by decide +kernel
theorem d_Q_areTwins_8 : decode b_Q_areTwins 8 = .ok (.aload_n 0, 1) := by decide +kernel
theorem d_Q_areTwins_9 : decode b_Q_areTwins 9 = .ok (.getfield 109, 3) := by decide +kernel
theorem d_Q_areTwins_12 : decode b_Q_areTwins 12 = .ok (.iload_n 3, 1) := by decide +kernel
theorem d_Q_areTwins_13 : decode b_Q_areTwins 13 = .ok (.iconst (-1), 1) := by decide +kernel
theorem d_Q_areTwins_14 : decode b_Q_areTwins 14 = .ok (.iastore, 1) := by decide +kernel
theorem d_Q_areTwins_15 : decode b_Q_areTwins 15 = .ok (.aload_n 0, 1) := by decide +kernel
theorem d_Q_areTwins_16 : decode b_Q_areTwins 16 = .ok (.getfield 112, 3) := by decide +kernel
theorem d_Q_areTwins_19 : decode b_Q_areTwins 19 = .ok (.iload_n 3, 1) := by decide +kernel
theorem d_Q_areTwins_20 : decode b_Q_areTwins 20 = .ok (.iconst (-1), 1) := by decide +kernel
theorem d_Q_areTwins_21 : decode b_Q_areTwins 21 = .ok (.iastore, 1) := by decide +kernel
theorem d_Q_areTwins_22 : decode b_Q_areTwins 22 = .ok (.iinc 3 1, 3) := by decide +kernel
theorem d_Q_areTwins_25 : decode b_Q_areTwins 25 = .ok (.goto (-23), 3) := by decide +kernel
theorem d_Q_areTwins_28 : decode b_Q_areTwins 28 = .ok (.aload_n 0, 1) := by decide +kernel
theorem d_Q_areTwins_29 : decode b_Q_areTwins 29 = .ok (.getfield 53, 3) := by decide +kernel
theorem d_Q_areTwins_32 : decode b_Q_areTwins 32 = .ok (.iload_n 1, 1) := by decide +kernel
theorem d_Q_areTwins_33 : decode b_Q_areTwins 33 = .ok (.iaload, 1) := by decide +kernel
theorem d_Q_areTwins_34 : decode b_Q_areTwins 34 = .ok (.aload_n 0, 1) := by decide +kernel
theorem d_Q_areTwins_35 : decode b_Q_areTwins 35 = .ok (.getfield 53, 3) := by decide +kernel
theorem d_Q_areTwins_38 : decode b_Q_areTwins 38 = .ok (.iload_n 2, 1) := by decide +kernel
theorem d_Q_areTwins_39 : decode b_Q_areTwins 39 = .ok (.iaload, 1) := by decide +kernel
theorem d_Q_areTwins_40 : decode b_Q_areTwins 40 = .ok (.if_icmp .ne 26, 3) := by decide +kernel
theorem d_Q_areTwins_43 : decode b_Q_areTwins 43 = .ok (.aload_n 0, 1) := by decide +kernel
theorem d_Q_areTwins_44 : decode b_Q_areTwins 44 = .ok (.aload_n 0, 1) := by decide +kernel
theorem d_Q_areTwins_45 : decode b_Q_areTwins 45 = .ok (.getfield 47, 3) := by decide +kernel
theorem d_Q_areTwins_48 : decode b_Q_areTwins 48 = .ok (.iload_n 1, 1) := by decide +kernel
theorem d_Q_areTwins_49 : decode b_Q_areTwins 49 = .ok (.iaload, 1) := by decide +kernel
theorem d_Q_areTwins_50 : decode b_Q_areTwins 50 = .ok (.aload_n 0, 1) := by decide +kernel
theorem d_Q_areTwins_51 : decode b_Q_areTwins 51 = .ok (.getfield 47, 3) := by decide +kernel
theorem d_Q_areTwins_54 : decode b_Q_areTwins 54 = .ok (.iload_n 2, 1) := by decide +kernel
theorem d_Q_areTwins_55 : decode b_Q_areTwins 55 = .ok (.iaload, 1) := by decide +kernel
theorem d_Q_areTwins_56 : decode b_Q_areTwins 56 = .ok (.invokevirtual 193, 3) := by decide +kernel
theorem d_Q_areTwins_59 : decode b_Q_areTwins 59 = .ok (.ifCond .eq 7, 3) := by decide +kernel
theorem d_Q_areTwins_62 : decode b_Q_areTwins 62 = .ok (.iconst 1, 1) := by decide +kernel
theorem d_Q_areTwins_63 : decode b_Q_areTwins 63 = .ok (.goto 4, 3) := by decide +kernel
theorem d_Q_areTwins_66 : decode b_Q_areTwins 66 = .ok (.iconst 0, 1) := by decide +kernel
theorem d_Q_areTwins_67 : decode b_Q_areTwins 67 = .ok (.istore_n 3, 1) := by decide +kernel
theorem d_Q_areTwins_68 : decode b_Q_areTwins 68 = .ok (.iconst 0, 1) := by decide +kernel
theorem d_Q_areTwins_69 : decode b_Q_areTwins 69 = .ok (.istore 4, 2) := by decide +kernel
theorem d_Q_areTwins_71 : decode b_Q_areTwins 71 = .ok (.iload 4, 2) := by decide +kernel
theorem d_Q_areTwins_73 : decode b_Q_areTwins 73 = .ok (.aload_n 0, 1) := by decide +kernel
theorem d_Q_areTwins_74 : decode b_Q_areTwins 74 = .ok (.getfield 53, 3) := by decide +kernel
theorem d_Q_areTwins_77 : decode b_Q_areTwins 77 = .ok (.iload_n 1, 1) := by decide +kernel
theorem d_Q_areTwins_78 : decode b_Q_areTwins 78 = .ok (.iaload, 1) := by decide +kernel
theorem d_Q_areTwins_79 : decode b_Q_areTwins 79 = .ok (.if_icmp .ge 32, 3) := by decide +kernel
theorem d_Q_areTwins_82 : decode b_Q_areTwins 82 = .ok (.iload_n 3, 1) := by decide +kernel
theorem d_Q_areTwins_83 : decode b_Q_areTwins 83 = .ok (.ifCond .eq 28, 3) := by decide +kernel
theorem d_Q_areTwins_86 : decode b_Q_areTwins 86 = .ok (.aload_n 0, 1) := by decide +kernel
theorem d_Q_areTwins_87 : decode b_Q_areTwins 87 = .ok (.aload_n 0, 1) := by decide +kernel
theorem d_Q_areTwins_88 : decode b_Q_areTwins 88 = .ok (.iload_n 1, 1) := by decide +kernel
theorem d_Q_areTwins_89 : decode b_Q_areTwins 89 = .ok (.iload 4, 2) := by decide +kernel
theorem d_Q_areTwins_91 : decode b_Q_areTwins 91 = .ok (.invokevirtual 157, 3) := by decide +kernel
theorem d_Q_areTwins_94 : decode b_Q_areTwins 94 = .ok (.aload_n 0, 1) := by decide +kernel
theorem d_Q_areTwins_95 : decode b_Q_areTwins 95 = .ok (.iload_n 2, 1) := by decide +kernel
theorem d_Q_areTwins_96 : decode b_Q_areTwins 96 = .ok (.iload 4, 2) := by decide +kernel
theorem d_Q_areTwins_98 : decode b_Q_areTwins 98 = .ok (.invokevirtual 157, 3) := by decide +kernel
theorem d_Q_areTwins_101 : decode b_Q_areTwins 101 = .ok (.invokevirtual 193, 3) := by decide +kernel
theorem d_Q_areTwins_104 : decode b_Q_areTwins 104 = .ok (.istore_n 3, 1) := by decide +kernel
theorem d_Q_areTwins_105 : decode b_Q_areTwins 105 = .ok (.iinc 4 1, 3) := by decide +kernel
theorem d_Q_areTwins_108 : decode b_Q_areTwins 108 = .ok (.goto (-37), 3) := by decide +kernel
theorem d_Q_areTwins_111 : decode b_Q_areTwins 111 = .ok (.iload_n 3, 1) := by decide +kernel
theorem d_Q_areTwins_112 : decode b_Q_areTwins 112 = .ok (.ireturn, 1) := by decide +kernel
abbrev b_Q_twin : ByteArray := prog_9_method_34_code
abbrev y_Q_twin : MethodName := ⟨"ShapeSearchModel", "twin", "(I)I"⟩
abbrev ws_Q_twin : List Cond := .code y_Q_twin b_Q_twin 3 (some .int) :: BG
theorem hd_Q_twin : y_Q_twin.cls ≠ "java/lang/invoke/MethodHandle" ∧ y_Q_twin.cls ≠ "java/lang/invoke/VarHandle" ∧ (parseMethodDescriptor y_Q_twin.desc).map (fun d => d.parameters.length) = some 1 := by decide +kernel
theorem d_Q_twin_0 : decode b_Q_twin 0 = .ok (.aload_n 0, 1) := by decide +kernel
theorem d_Q_twin_1 : decode b_Q_twin 1 = .ok (.iload_n 1, 1) := by decide +kernel
theorem d_Q_twin_2 : decode b_Q_twin 2 = .ok (.ifCond .lt 11, 3) := by decide +kernel
theorem d_Q_twin_5 : decode b_Q_twin 5 = .ok (.iload_n 1, 1) := by decide +kernel
theorem d_Q_twin_6 : decode b_Q_twin 6 = .ok (.aload_n 0, 1) := by decide +kernel
theorem d_Q_twin_7 : decode b_Q_twin 7 = .ok (.getfield 148, 3) := by decide +kernel
theorem d_Q_twin_10 : decode b_Q_twin 10 = .ok (.if_icmp .lt 7, 3) := by decide +kernel
theorem d_Q_twin_13 : decode b_Q_twin 13 = .ok (.iconst 1, 1) := by decide +kernel
theorem d_Q_twin_14 : decode b_Q_twin 14 = .ok (.goto 4, 3) := by decide +kernel
theorem d_Q_twin_17 : decode b_Q_twin 17 = .ok (.iconst 0, 1) := by decide +kernel
theorem d_Q_twin_18 : decode b_Q_twin 18 = .ok (.invokevirtual 138, 3) := by decide +kernel
theorem d_Q_twin_21 : decode b_Q_twin 21 = .ok (.ifCond .eq 5, 3) := by decide +kernel
theorem d_Q_twin_24 : decode b_Q_twin 24 = .ok (.iconst 0, 1) := by decide +kernel
theorem d_Q_twin_25 : decode b_Q_twin 25 = .ok (.ireturn, 1) := by decide +kernel
theorem d_Q_twin_26 : decode b_Q_twin 26 = .ok (.iconst 0, 1) := by decide +kernel
theorem d_Q_twin_27 : decode b_Q_twin 27 = .ok (.istore_n 2, 1) := by decide +kernel
theorem d_Q_twin_28 : decode b_Q_twin 28 = .ok (.aload_n 0, 1) := by decide +kernel
theorem d_Q_twin_29 : decode b_Q_twin 29 = .ok (.iload_n 1, 1) := by decide +kernel
theorem d_Q_twin_30 : decode b_Q_twin 30 = .ok (.iload_n 2, 1) := by decide +kernel
theorem d_Q_twin_31 : decode b_Q_twin 31 = .ok (.invokevirtual 197, 3) := by decide +kernel
theorem d_Q_twin_34 : decode b_Q_twin 34 = .ok (.ifCond .ne 9, 3) := by decide +kernel
theorem d_Q_twin_37 : decode b_Q_twin 37 = .ok (.iinc 2 1, 3) := by decide +kernel
theorem d_Q_twin_40 : decode b_Q_twin 40 = .ok (.goto (-12), 3) := by decide +kernel
theorem d_Q_twin_43 : decode b_Q_twin 43 = .ok (.iload_n 2, 1) := by decide +kernel
theorem d_Q_twin_44 : decode b_Q_twin 44 = .ok (.iload_n 1, 1) := by decide +kernel
theorem d_Q_twin_45 : decode b_Q_twin 45 = .ok (.if_icmp .ne 7, 3) := by decide +kernel
theorem d_Q_twin_48 : decode b_Q_twin 48 = .ok (.iconst (-1), 1) := by decide +kernel
theorem d_Q_twin_49 : decode b_Q_twin 49 = .ok (.goto 4, 3) := by decide +kernel
theorem d_Q_twin_52 : decode b_Q_twin 52 = .ok (.iload_n 2, 1) := by decide +kernel
theorem d_Q_twin_53 : decode b_Q_twin 53 = .ok (.ireturn, 1) := by decide +kernel
abbrev b_Q_inOrder : ByteArray := prog_9_method_35_code
abbrev y_Q_inOrder : MethodName := ⟨"ShapeSearchModel", "inOrder", "()V"⟩
abbrev ws_Q_inOrder : List Cond := .code y_Q_inOrder b_Q_inOrder 4 (none : Option Jvm.ClassFile.FieldType) :: BG
theorem hd_Q_inOrder : y_Q_inOrder.cls ≠ "java/lang/invoke/MethodHandle" ∧ y_Q_inOrder.cls ≠ "java/lang/invoke/VarHandle" ∧ (parseMethodDescriptor y_Q_inOrder.desc).map (fun d => d.parameters.length) = some 0 := by decide +kernel
theorem d_Q_inOrder_0 : decode b_Q_inOrder 0 = .ok (.iconst 0, 1) := by decide +kernel
theorem d_Q_inOrder_1 : decode b_Q_inOrder 1 = .ok (.istore_n 1, 1) := by decide +kernel
theorem d_Q_inOrder_2 : decode b_Q_inOrder 2 = .ok (.iconst 0, 1) := by decide +kernel
theorem d_Q_inOrder_3 : decode b_Q_inOrder 3 = .ok (.istore_n 2, 1) := by decide +kernel
theorem d_Q_inOrder_4 : decode b_Q_inOrder 4 = .ok (.iload_n 2, 1) := by decide +kernel
theorem d_Q_inOrder_5 : decode b_Q_inOrder 5 = .ok (.iconst 4, 1) := by decide +kernel
theorem d_Q_inOrder_6 : decode b_Q_inOrder 6 = .ok (.if_icmp .gt 45, 3) := by decide +kernel
theorem d_Q_inOrder_9 : decode b_Q_inOrder 9 = .ok (.iconst 0, 1) := by decide +kernel
theorem d_Q_inOrder_10 : decode b_Q_inOrder 10 = .ok (.istore_n 3, 1) := by decide +kernel
theorem d_Q_inOrder_11 : decode b_Q_inOrder 11 = .ok (.iload_n 3, 1) := by decide +kernel
theorem d_Q_inOrder_12 : decode b_Q_inOrder 12 = .ok (.aload_n 0, 1) := by decide +kernel
theorem d_Q_inOrder_13 : decode b_Q_inOrder 13 = .ok (.getfield 148, 3) := by decide +kernel
theorem d_Q_inOrder_16 : decode b_Q_inOrder 16 = .ok (.if_icmp .ge 29, 3) := by decide +kernel
theorem d_Q_inOrder_19 : decode b_Q_inOrder 19 = .ok (.aload_n 0, 1) := by decide +kernel
theorem d_Q_inOrder_20 : decode b_Q_inOrder 20 = .ok (.getfield 53, 3) := by decide +kernel
theorem d_Q_inOrder_23 : decode b_Q_inOrder 23 = .ok (.iload_n 3, 1) := by decide +kernel
theorem d_Q_inOrder_24 : decode b_Q_inOrder 24 = .ok (.iaload, 1) := by decide +kernel
theorem d_Q_inOrder_25 : decode b_Q_inOrder 25 = .ok (.iload_n 2, 1) := by decide +kernel
theorem d_Q_inOrder_26 : decode b_Q_inOrder 26 = .ok (.if_icmp .ne 13, 3) := by decide +kernel
theorem d_Q_inOrder_29 : decode b_Q_inOrder 29 = .ok (.aload_n 0, 1) := by decide +kernel
theorem d_Q_inOrder_30 : decode b_Q_inOrder 30 = .ok (.getfield 102, 3) := by decide +kernel
theorem d_Q_inOrder_33 : decode b_Q_inOrder 33 = .ok (.iload_n 1, 1) := by decide +kernel
theorem d_Q_inOrder_34 : decode b_Q_inOrder 34 = .ok (.iload_n 3, 1) := by decide +kernel
theorem d_Q_inOrder_35 : decode b_Q_inOrder 35 = .ok (.iastore, 1) := by decide +kernel
theorem d_Q_inOrder_36 : decode b_Q_inOrder 36 = .ok (.iinc 1 1, 3) := by decide +kernel
theorem d_Q_inOrder_39 : decode b_Q_inOrder 39 = .ok (.iinc 3 1, 3) := by decide +kernel
theorem d_Q_inOrder_42 : decode b_Q_inOrder 42 = .ok (.goto (-31), 3) := by decide +kernel
theorem d_Q_inOrder_45 : decode b_Q_inOrder 45 = .ok (.iinc 2 1, 3) := by decide +kernel
theorem d_Q_inOrder_48 : decode b_Q_inOrder 48 = .ok (.goto (-44), 3) := by decide +kernel
theorem d_Q_inOrder_51 : decode b_Q_inOrder 51 = .ok (.return_, 1) := by decide +kernel
abbrev b_Q_shrink : ByteArray := prog_9_method_36_code
abbrev y_Q_shrink : MethodName := ⟨"ShapeSearchModel", "shrink", "(I)V"⟩
abbrev ws_Q_shrink : List Cond := .code y_Q_shrink b_Q_shrink 2 (none : Option Jvm.ClassFile.FieldType) :: BG
theorem hd_Q_shrink : y_Q_shrink.cls ≠ "java/lang/invoke/MethodHandle" ∧ y_Q_shrink.cls ≠ "java/lang/invoke/VarHandle" ∧ (parseMethodDescriptor y_Q_shrink.desc).map (fun d => d.parameters.length) = some 1 := by decide +kernel
theorem d_Q_shrink_0 : decode b_Q_shrink 0 = .ok (.aload_n 0, 1) := by decide +kernel
theorem d_Q_shrink_1 : decode b_Q_shrink 1 = .ok (.getfield 118, 3) := by decide +kernel
theorem d_Q_shrink_4 : decode b_Q_shrink 4 = .ok (.iload_n 1, 1) := by decide +kernel
theorem d_Q_shrink_5 : decode b_Q_shrink 5 = .ok (.if_icmp .le 38, 3) := by decide +kernel
theorem d_Q_shrink_8 : decode b_Q_shrink 8 = .ok (.aload_n 0, 1) := by decide +kernel
theorem d_Q_shrink_9 : decode b_Q_shrink 9 = .ok (.dup, 1) := by decide +kernel
theorem d_Q_shrink_10 : decode b_Q_shrink 10 = .ok (.getfield 118, 3) := by decide +kernel
theorem d_Q_shrink_13 : decode b_Q_shrink 13 = .ok (.iconst 1, 1) := by decide +kernel
theorem d_Q_shrink_14 : decode b_Q_shrink 14 = .ok (.isub, 1) := by decide +kernel
theorem d_Q_shrink_15 : decode b_Q_shrink 15 = .ok (.putfield 118, 3) := by decide +kernel
theorem d_Q_shrink_18 : decode b_Q_shrink 18 = .ok (.aload_n 0, 1) := by decide +kernel
theorem d_Q_shrink_19 : decode b_Q_shrink 19 = .ok (.getfield 29, 3) := by decide +kernel
theorem d_Q_shrink_22 : decode b_Q_shrink 22 = .ok (.aload_n 0, 1) := by decide +kernel
theorem d_Q_shrink_23 : decode b_Q_shrink 23 = .ok (.aload_n 0, 1) := by decide +kernel
theorem d_Q_shrink_24 : decode b_Q_shrink 24 = .ok (.getfield 118, 3) := by decide +kernel
theorem d_Q_shrink_27 : decode b_Q_shrink 27 = .ok (.invokevirtual 200, 3) := by decide +kernel
theorem d_Q_shrink_30 : decode b_Q_shrink 30 = .ok (.aload_n 0, 1) := by decide +kernel
theorem d_Q_shrink_31 : decode b_Q_shrink 31 = .ok (.getfield 26, 3) := by decide +kernel
theorem d_Q_shrink_34 : decode b_Q_shrink 34 = .ok (.aload_n 0, 1) := by decide +kernel
theorem d_Q_shrink_35 : decode b_Q_shrink 35 = .ok (.getfield 118, 3) := by decide +kernel
theorem d_Q_shrink_38 : decode b_Q_shrink 38 = .ok (.iaload, 1) := by decide +kernel
theorem d_Q_shrink_39 : decode b_Q_shrink 39 = .ok (.iastore, 1) := by decide +kernel
theorem d_Q_shrink_40 : decode b_Q_shrink 40 = .ok (.goto (-40), 3) := by decide +kernel
theorem d_Q_shrink_43 : decode b_Q_shrink 43 = .ok (.return_, 1) := by decide +kernel
abbrev b_Q_look : ByteArray := prog_9_method_37_code
abbrev y_Q_look : MethodName := ⟨"ShapeSearchModel", "look", "(III)V"⟩
abbrev ws_Q_look : List Cond := .code y_Q_look b_Q_look 4 (none : Option Jvm.ClassFile.FieldType) :: BG
theorem hd_Q_look : y_Q_look.cls ≠ "java/lang/invoke/MethodHandle" ∧ y_Q_look.cls ≠ "java/lang/invoke/VarHandle" ∧ (parseMethodDescriptor y_Q_look.desc).map (fun d => d.parameters.length) = some 3 := by decide +kernel
theorem d_Q_look_0 : decode b_Q_look 0 = .ok (.aload_n 0, 1) := by decide +kernel
theorem d_Q_look_1 : decode b_Q_look 1 = .ok (.getfield 84, 3) := by decide +kernel
theorem d_Q_look_4 : decode b_Q_look 4 = .ok (.iload_n 1, 1) := by decide +kernel
theorem d_Q_look_5 : decode b_Q_look 5 = .ok (.iload_n 2, 1) := by decide +kernel
theorem d_Q_look_6 : decode b_Q_look 6 = .ok (.iastore, 1) := by decide +kernel
theorem d_Q_look_7 : decode b_Q_look 7 = .ok (.aload_n 0, 1) := by decide +kernel
theorem d_Q_look_8 : decode b_Q_look 8 = .ok (.getfield 87, 3) := by decide +kernel
theorem d_Q_look_11 : decode b_Q_look 11 = .ok (.iload_n 1, 1) := by decide +kernel
theorem d_Q_look_12 : decode b_Q_look 12 = .ok (.iload_n 3, 1) := by decide +kernel
theorem d_Q_look_13 : decode b_Q_look 13 = .ok (.iastore, 1) := by decide +kernel
theorem d_Q_look_14 : decode b_Q_look 14 = .ok (.aload_n 0, 1) := by decide +kernel
theorem d_Q_look_15 : decode b_Q_look 15 = .ok (.getfield 90, 3) := by decide +kernel
theorem d_Q_look_18 : decode b_Q_look 18 = .ok (.iload_n 1, 1) := by decide +kernel
theorem d_Q_look_19 : decode b_Q_look 19 = .ok (.iconst 0, 1) := by decide +kernel
theorem d_Q_look_20 : decode b_Q_look 20 = .ok (.iastore, 1) := by decide +kernel
theorem d_Q_look_21 : decode b_Q_look 21 = .ok (.aload_n 0, 1) := by decide +kernel
theorem d_Q_look_22 : decode b_Q_look 22 = .ok (.getfield 93, 3) := by decide +kernel
theorem d_Q_look_25 : decode b_Q_look 25 = .ok (.iload_n 1, 1) := by decide +kernel
theorem d_Q_look_26 : decode b_Q_look 26 = .ok (.iconst (-1), 1) := by decide +kernel
theorem d_Q_look_27 : decode b_Q_look 27 = .ok (.iastore, 1) := by decide +kernel
theorem d_Q_look_28 : decode b_Q_look 28 = .ok (.aload_n 0, 1) := by decide +kernel
theorem d_Q_look_29 : decode b_Q_look 29 = .ok (.getfield 96, 3) := by decide +kernel
theorem d_Q_look_32 : decode b_Q_look 32 = .ok (.iload_n 1, 1) := by decide +kernel
theorem d_Q_look_33 : decode b_Q_look 33 = .ok (.iconst 1, 1) := by decide +kernel
theorem d_Q_look_34 : decode b_Q_look 34 = .ok (.iastore, 1) := by decide +kernel
theorem d_Q_look_35 : decode b_Q_look 35 = .ok (.return_, 1) := by decide +kernel
abbrev b_Q_takes : ByteArray := prog_9_method_38_code
abbrev y_Q_takes : MethodName := ⟨"ShapeSearchModel", "takes", "(I)Z"⟩
abbrev ws_Q_takes : List Cond := .code y_Q_takes b_Q_takes 4 (some .boolean) :: BG
theorem hd_Q_takes : y_Q_takes.cls ≠ "java/lang/invoke/MethodHandle" ∧ y_Q_takes.cls ≠ "java/lang/invoke/VarHandle" ∧ (parseMethodDescriptor y_Q_takes.desc).map (fun d => d.parameters.length) = some 1 := by decide +kernel
theorem d_Q_takes_0 : decode b_Q_takes 0 = .ok (.aload_n 0, 1) := by decide +kernel
theorem d_Q_takes_1 : decode b_Q_takes 1 = .ok (.getfield 102, 3) := by decide +kernel
theorem d_Q_takes_4 : decode b_Q_takes 4 = .ok (.aload_n 0, 1) := by decide +kernel
theorem d_Q_takes_5 : decode b_Q_takes 5 = .ok (.getfield 90, 3) := by decide +kernel
theorem d_Q_takes_8 : decode b_Q_takes 8 = .ok (.iload_n 1, 1) := by decide +kernel
theorem d_Q_takes_9 : decode b_Q_takes 9 = .ok (.iaload, 1) := by decide +kernel
theorem d_Q_takes_10 : decode b_Q_takes 10 = .ok (.iaload, 1) := by decide +kernel
theorem d_Q_takes_11 : decode b_Q_takes 11 = .ok (.istore_n 2, 1) := by decide +kernel
theorem d_Q_takes_12 : decode b_Q_takes 12 = .ok (.aload_n 0, 1) := by decide +kernel
theorem d_Q_takes_13 : decode b_Q_takes 13 = .ok (.dup, 1) := by decide +kernel
theorem d_Q_takes_14 : decode b_Q_takes 14 = .ok (.getfield 203, 3) := by decide +kernel
theorem d_Q_takes_17 : decode b_Q_takes 17 = .ok (.iconst 1, 1) := by decide +kernel
theorem d_Q_takes_18 : decode b_Q_takes 18 = .ok (.iadd, 1) := by decide +kernel
theorem d_Q_takes_19 : decode b_Q_takes 19 = .ok (.putfield 203, 3) := by decide +kernel
theorem d_Q_takes_22 : decode b_Q_takes 22 = .ok (.aload_n 0, 1) := by decide +kernel
theorem d_Q_takes_23 : decode b_Q_takes 23 = .ok (.iload_n 2, 1) := by decide +kernel
theorem d_Q_takes_24 : decode b_Q_takes 24 = .ok (.invokevirtual 175, 3) := by decide +kernel
theorem d_Q_takes_27 : decode b_Q_takes 27 = .ok (.ifCond .ne 23, 3) := by decide +kernel
theorem d_Q_takes_30 : decode b_Q_takes 30 = .ok (.aload_n 0, 1) := by decide +kernel
theorem d_Q_takes_31 : decode b_Q_takes 31 = .ok (.aload_n 0, 1) := by decide +kernel
theorem d_Q_takes_32 : decode b_Q_takes 32 = .ok (.getfield 47, 3) := by decide +kernel
theorem d_Q_takes_35 : decode b_Q_takes 35 = .ok (.iload_n 2, 1) := by decide +kernel
theorem d_Q_takes_36 : decode b_Q_takes 36 = .ok (.iaload, 1) := by decide +kernel
theorem d_Q_takes_37 : decode b_Q_takes 37 = .ok (.aload_n 0, 1) := by decide +kernel
theorem d_Q_takes_38 : decode b_Q_takes 38 = .ok (.getfield 84, 3) := by decide +kernel
theorem d_Q_takes_41 : decode b_Q_takes 41 = .ok (.iload_n 1, 1) := by decide +kernel
theorem d_Q_takes_42 : decode b_Q_takes 42 = .ok (.iaload, 1) := by decide +kernel
theorem d_Q_takes_43 : decode b_Q_takes 43 = .ok (.iconst 0, 1) := by decide +kernel
theorem d_Q_takes_44 : decode b_Q_takes 44 = .ok (.invokevirtual 160, 3) := by decide +kernel
theorem d_Q_takes_47 : decode b_Q_takes 47 = .ok (.ifCond .ne 5, 3) := by decide +kernel
theorem d_Q_takes_50 : decode b_Q_takes 50 = .ok (.iconst 0, 1) := by decide +kernel
theorem d_Q_takes_51 : decode b_Q_takes 51 = .ok (.ireturn, 1) := by decide +kernel
theorem d_Q_takes_52 : decode b_Q_takes 52 = .ok (.iconst 0, 1) := by decide +kernel
theorem d_Q_takes_53 : decode b_Q_takes 53 = .ok (.istore_n 3, 1) := by decide +kernel
theorem d_Q_takes_54 : decode b_Q_takes 54 = .ok (.iload_n 3, 1) := by decide +kernel
theorem d_Q_takes_55 : decode b_Q_takes 55 = .ok (.aload_n 0, 1) := by decide +kernel
theorem d_Q_takes_56 : decode b_Q_takes 56 = .ok (.getfield 53, 3) := by decide +kernel
theorem d_Q_takes_59 : decode b_Q_takes 59 = .ok (.iload_n 2, 1) := by decide +kernel
theorem d_Q_takes_60 : decode b_Q_takes 60 = .ok (.iaload, 1) := by decide +kernel
theorem d_Q_takes_61 : decode b_Q_takes 61 = .ok (.if_icmp .ge 31, 3) := by decide +kernel
theorem d_Q_takes_64 : decode b_Q_takes 64 = .ok (.aload_n 0, 1) := by decide +kernel
theorem d_Q_takes_65 : decode b_Q_takes 65 = .ok (.getfield 99, 3) := by decide +kernel
theorem d_Q_takes_68 : decode b_Q_takes 68 = .ok (.iconst 4, 1) := by decide +kernel
theorem d_Q_takes_69 : decode b_Q_takes 69 = .ok (.iload_n 1, 1) := by decide +kernel
theorem d_Q_takes_70 : decode b_Q_takes 70 = .ok (.imul, 1) := by decide +kernel
theorem d_Q_takes_71 : decode b_Q_takes 71 = .ok (.iload_n 3, 1) := by decide +kernel
theorem d_Q_takes_72 : decode b_Q_takes 72 = .ok (.iadd, 1) := by decide +kernel
theorem d_Q_takes_73 : decode b_Q_takes 73 = .ok (.aload_n 0, 1) := by decide +kernel
theorem d_Q_takes_74 : decode b_Q_takes 74 = .ok (.aload_n 0, 1) := by decide +kernel
theorem d_Q_takes_75 : decode b_Q_takes 75 = .ok (.iload_n 2, 1) := by decide +kernel
theorem d_Q_takes_76 : decode b_Q_takes 76 = .ok (.iload_n 3, 1) := by decide +kernel
theorem d_Q_takes_77 : decode b_Q_takes 77 = .ok (.invokevirtual 157, 3) := by decide +kernel
theorem d_Q_takes_80 : decode b_Q_takes 80 = .ok (.ldc 7, 2) := by decide +kernel
theorem d_Q_takes_82 : decode b_Q_takes 82 = .ok (.invokevirtual 190, 3) := by decide +kernel
theorem d_Q_takes_85 : decode b_Q_takes 85 = .ok (.iastore, 1) := by decide +kernel
theorem d_Q_takes_86 : decode b_Q_takes 86 = .ok (.iinc 3 1, 3) := by decide +kernel
theorem d_Q_takes_89 : decode b_Q_takes 89 = .ok (.goto (-35), 3) := by decide +kernel
theorem d_Q_takes_92 : decode b_Q_takes 92 = .ok (.iconst 1, 1) := by decide +kernel
theorem d_Q_takes_93 : decode b_Q_takes 93 = .ok (.ireturn, 1) := by decide +kernel
abbrev b_Q_tried : ByteArray := prog_9_method_40_code
abbrev y_Q_tried : MethodName := ⟨"ShapeSearchModel", "tried", "(I)I"⟩
abbrev ws_Q_tried : List Cond := .code y_Q_tried b_Q_tried 2 (some .int) :: BG
theorem hd_Q_tried : y_Q_tried.cls ≠ "java/lang/invoke/MethodHandle" ∧ y_Q_tried.cls ≠ "java/lang/invoke/VarHandle" ∧ (parseMethodDescriptor y_Q_tried.desc).map (fun d => d.parameters.length) = some 1 := by decide +kernel
theorem d_Q_tried_0 : decode b_Q_tried 0 = .ok (.aload_n 0, 1) := by decide +kernel
theorem d_Q_tried_1 : decode b_Q_tried 1 = .ok (.iconst 0, 1) := by decide +kernel
theorem d_Q_tried_2 : decode b_Q_tried 2 = .ok (.putfield 115, 3) := by decide +kernel
theorem d_Q_tried_5 : decode b_Q_tried 5 = .ok (.iload_n 1, 1) := by decide +kernel
theorem d_Q_tried_6 : decode b_Q_tried 6 = .ok (.ifCond .ne 10, 3) := by decide +kernel
theorem d_Q_tried_9 : decode b_Q_tried 9 = .ok (.aload_n 0, 1) := by decide +kernel
theorem d_Q_tried_10 : decode b_Q_tried 10 = .ok (.getfield 203, 3) := by decide +kernel
theorem d_Q_tried_13 : decode b_Q_tried 13 = .ok (.goto 28, 3) := by decide +kernel
theorem d_Q_tried_16 : decode b_Q_tried 16 = .ok (.iload_n 1, 1) := by decide +kernel
theorem d_Q_tried_17 : decode b_Q_tried 17 = .ok (.iconst 1, 1) := by decide +kernel
theorem d_Q_tried_18 : decode b_Q_tried 18 = .ok (.if_icmp .ne 10, 3) := by decide +kernel
theorem d_Q_tried_21 : decode b_Q_tried 21 = .ok (.aload_n 0, 1) := by decide +kernel
theorem d_Q_tried_22 : decode b_Q_tried 22 = .ok (.getfield 209, 3) := by decide +kernel
theorem d_Q_tried_25 : decode b_Q_tried 25 = .ok (.goto 16, 3) := by decide +kernel
theorem d_Q_tried_28 : decode b_Q_tried 28 = .ok (.iload_n 1, 1) := by decide +kernel
theorem d_Q_tried_29 : decode b_Q_tried 29 = .ok (.iconst 2, 1) := by decide +kernel
theorem d_Q_tried_30 : decode b_Q_tried 30 = .ok (.if_icmp .ne 10, 3) := by decide +kernel
theorem d_Q_tried_33 : decode b_Q_tried 33 = .ok (.aload_n 0, 1) := by decide +kernel
theorem d_Q_tried_34 : decode b_Q_tried 34 = .ok (.getfield 105, 3) := by decide +kernel
theorem d_Q_tried_37 : decode b_Q_tried 37 = .ok (.goto 4, 3) := by decide +kernel
theorem d_Q_tried_40 : decode b_Q_tried 40 = .ok (.iconst (-1), 1) := by decide +kernel
theorem d_Q_tried_41 : decode b_Q_tried 41 = .ok (.ireturn, 1) := by decide +kernel
abbrev b_Q_about : ByteArray := prog_9_method_41_code
abbrev y_Q_about : MethodName := ⟨"ShapeSearchModel", "about", "(I)I"⟩
abbrev ws_Q_about : List Cond := .code y_Q_about b_Q_about 4 (some .int) :: BG
theorem hd_Q_about : y_Q_about.cls ≠ "java/lang/invoke/MethodHandle" ∧ y_Q_about.cls ≠ "java/lang/invoke/VarHandle" ∧ (parseMethodDescriptor y_Q_about.desc).map (fun d => d.parameters.length) = some 1 := by decide +kernel
theorem d_Q_about_0 : decode b_Q_about 0 = .ok (.aload_n 0, 1) := by decide +kernel
theorem d_Q_about_1 : decode b_Q_about 1 = .ok (.iconst 0, 1) := by decide +kernel
theorem d_Q_about_2 : decode b_Q_about 2 = .ok (.putfield 115, 3) := by decide +kernel
theorem d_Q_about_5 : decode b_Q_about 5 = .ok (.iconst 0, 1) := by decide +kernel
theorem d_Q_about_6 : decode b_Q_about 6 = .ok (.istore_n 2, 1) := by decide +kernel
theorem d_Q_about_7 : decode b_Q_about 7 = .ok (.iconst 0, 1) := by decide +kernel
theorem d_Q_about_8 : decode b_Q_about 8 = .ok (.istore_n 3, 1) := by decide +kernel
theorem d_Q_about_9 : decode b_Q_about 9 = .ok (.iload_n 3, 1) := by decide +kernel
theorem d_Q_about_10 : decode b_Q_about 10 = .ok (.bipush 30, 2) := by decide +kernel
theorem d_Q_about_12 : decode b_Q_about 12 = .ok (.if_icmp .ge 27, 3) := by decide +kernel
theorem d_Q_about_15 : decode b_Q_about 15 = .ok (.iload_n 2, 1) := by decide +kernel
theorem d_Q_about_16 : decode b_Q_about 16 = .ok (.aload_n 0, 1) := by decide +kernel
theorem d_Q_about_17 : decode b_Q_about 17 = .ok (.getfield 44, 3) := by decide +kernel
theorem d_Q_about_20 : decode b_Q_about 20 = .ok (.iload_n 3, 1) := by decide +kernel
theorem d_Q_about_21 : decode b_Q_about 21 = .ok (.iaload, 1) := by decide +kernel
theorem d_Q_about_22 : decode b_Q_about 22 = .ok (.iconst (-1), 1) := by decide +kernel
theorem d_Q_about_23 : decode b_Q_about 23 = .ok (.if_icmp .ne 7, 3) := by decide +kernel
theorem d_Q_about_26 : decode b_Q_about 26 = .ok (.iconst 0, 1) := by decide +kernel
theorem d_Q_about_27 : decode b_Q_about 27 = .ok (.goto 4, 3) := by decide +kernel
theorem d_Q_about_30 : decode b_Q_about 30 = .ok (.iconst 1, 1) := by decide +kernel
theorem d_Q_about_31 : decode b_Q_about 31 = .ok (.iadd, 1) := by decide +kernel
theorem d_Q_about_32 : decode b_Q_about 32 = .ok (.istore_n 2, 1) := by decide +kernel
theorem d_Q_about_33 : decode b_Q_about 33 = .ok (.iinc 3 1, 3) := by decide +kernel
theorem d_Q_about_36 : decode b_Q_about 36 = .ok (.goto (-27), 3) := by decide +kernel
theorem d_Q_about_39 : decode b_Q_about 39 = .ok (.iload_n 1, 1) := by decide +kernel
theorem d_Q_about_40 : decode b_Q_about 40 = .ok (.tableswitch 49 0 3 #[32, 37, 42, 44], 32) := by decide +kernel
theorem d_Q_about_72 : decode b_Q_about 72 = .ok (.aload_n 0, 1) := by decide +kernel
theorem d_Q_about_73 : decode b_Q_about 73 = .ok (.getfield 118, 3) := by decide +kernel
theorem d_Q_about_76 : decode b_Q_about 76 = .ok (.ireturn, 1) := by decide +kernel
theorem d_Q_about_77 : decode b_Q_about 77 = .ok (.aload_n 0, 1) := by decide +kernel
theorem d_Q_about_78 : decode b_Q_about 78 = .ok (.getfield 148, 3) := by decide +kernel
theorem d_Q_about_81 : decode b_Q_about 81 = .ok (.ireturn, 1) := by decide +kernel
theorem d_Q_about_82 : decode b_Q_about 82 = .ok (.iload_n 2, 1) := by decide +kernel
theorem d_Q_about_83 : decode b_Q_about 83 = .ok (.ireturn, 1) := by decide +kernel
theorem d_Q_about_84 : decode b_Q_about 84 = .ok (.aload_n 0, 1) := by decide +kernel
theorem d_Q_about_85 : decode b_Q_about 85 = .ok (.getfield 151, 3) := by decide +kernel
theorem d_Q_about_88 : decode b_Q_about 88 = .ok (.ireturn, 1) := by decide +kernel
theorem d_Q_about_89 : decode b_Q_about 89 = .ok (.iconst (-1), 1) := by decide +kernel
theorem d_Q_about_90 : decode b_Q_about 90 = .ok (.ireturn, 1) := by decide +kernel
theorem k5_62 : Cond.methodLink "ShapeSearchModel" 187 ⟨"ShapeSearchModel", "become0", "(I)I"⟩ ∈ BG := List.mem_filter.mpr ⟨in_5 (List.mem_of_getElem? (i := 62) rfl), rfl⟩
theorem k5_65 : Cond.code ⟨"ShapeSearchModel", "become0", "(I)I"⟩ prog_9_method_30_code 2 (some .int) ∈ BG := List.mem_filter.mpr ⟨in_5 (List.mem_of_getElem? (i := 65) rfl), rfl⟩
theorem k5_64 : Cond.instanceMethod ⟨"ShapeSearchModel", "become0", "(I)I"⟩ ∈ BG := List.mem_filter.mpr ⟨in_5 (List.mem_of_getElem? (i := 64) rfl), rfl⟩
theorem k5_58 : Cond.methodLink "ShapeSearchModel" 184 ⟨"ShapeSearchModel", "become", "(II)I"⟩ ∈ BG := List.mem_filter.mpr ⟨in_5 (List.mem_of_getElem? (i := 58) rfl), rfl⟩
theorem k5_61 : Cond.code ⟨"ShapeSearchModel", "become", "(II)I"⟩ prog_9_method_29_code 3 (some .int) ∈ BG := List.mem_filter.mpr ⟨in_5 (List.mem_of_getElem? (i := 61) rfl), rfl⟩
theorem k5_60 : Cond.instanceMethod ⟨"ShapeSearchModel", "become", "(II)I"⟩ ∈ BG := List.mem_filter.mpr ⟨in_5 (List.mem_of_getElem? (i := 60) rfl), rfl⟩
theorem k5_54 : Cond.methodLink "ShapeSearchModel" 190 ⟨"ShapeSearchModel", "put", "(II)I"⟩ ∈ BG := List.mem_filter.mpr ⟨in_5 (List.mem_of_getElem? (i := 54) rfl), rfl⟩
theorem k5_57 : Cond.code ⟨"ShapeSearchModel", "put", "(II)I"⟩ prog_9_method_28_code 8 (some .int) ∈ BG := List.mem_filter.mpr ⟨in_5 (List.mem_of_getElem? (i := 57) rfl), rfl⟩
theorem k5_56 : Cond.instanceMethod ⟨"ShapeSearchModel", "put", "(II)I"⟩ ∈ BG := List.mem_filter.mpr ⟨in_5 (List.mem_of_getElem? (i := 56) rfl), rfl⟩
theorem k4_106 : Cond.fieldLink "ShapeSearchModel" 109 "ShapeSearchModel" "there" "[I" ∈ BG := List.mem_filter.mpr ⟨in_4 (List.mem_of_getElem? (i := 106) rfl), rfl⟩
theorem k4_107 : Cond.fieldLink "ShapeSearchModel" 112 "ShapeSearchModel" "back" "[I" ∈ BG := List.mem_filter.mpr ⟨in_4 (List.mem_of_getElem? (i := 107) rfl), rfl⟩
theorem k5_74 : Cond.methodLink "ShapeSearchModel" 193 ⟨"ShapeSearchModel", "areAlike", "(II)Z"⟩ ∈ BG := List.mem_filter.mpr ⟨in_5 (List.mem_of_getElem? (i := 74) rfl), rfl⟩
theorem k5_77 : Cond.code ⟨"ShapeSearchModel", "areAlike", "(II)Z"⟩ prog_9_method_32_code 8 (some .boolean) ∈ BG := List.mem_filter.mpr ⟨in_5 (List.mem_of_getElem? (i := 77) rfl), rfl⟩
theorem k5_76 : Cond.instanceMethod ⟨"ShapeSearchModel", "areAlike", "(II)Z"⟩ ∈ BG := List.mem_filter.mpr ⟨in_5 (List.mem_of_getElem? (i := 76) rfl), rfl⟩
theorem k5_70 : Cond.methodLink "ShapeSearchModel" 197 ⟨"ShapeSearchModel", "areTwins", "(II)Z"⟩ ∈ BG := List.mem_filter.mpr ⟨in_5 (List.mem_of_getElem? (i := 70) rfl), rfl⟩
theorem k5_73 : Cond.code ⟨"ShapeSearchModel", "areTwins", "(II)Z"⟩ prog_9_method_33_code 5 (some .boolean) ∈ BG := List.mem_filter.mpr ⟨in_5 (List.mem_of_getElem? (i := 73) rfl), rfl⟩
theorem k5_72 : Cond.instanceMethod ⟨"ShapeSearchModel", "areTwins", "(II)Z"⟩ ∈ BG := List.mem_filter.mpr ⟨in_5 (List.mem_of_getElem? (i := 72) rfl), rfl⟩
theorem k4_102 : Cond.fieldLink "ShapeSearchModel" 102 "ShapeSearchModel" "order" "[I" ∈ BG := List.mem_filter.mpr ⟨in_4 (List.mem_of_getElem? (i := 102) rfl), rfl⟩
theorem k5_94 : Cond.methodLink "ShapeSearchModel" 200 ⟨"ShapeSearchModel", "head", "(I)I"⟩ ∈ BG := List.mem_filter.mpr ⟨in_5 (List.mem_of_getElem? (i := 94) rfl), rfl⟩
theorem k5_97 : Cond.code ⟨"ShapeSearchModel", "head", "(I)I"⟩ prog_9_method_6_code 2 (some .int) ∈ BG := List.mem_filter.mpr ⟨in_5 (List.mem_of_getElem? (i := 97) rfl), rfl⟩
theorem k5_96 : Cond.instanceMethod ⟨"ShapeSearchModel", "head", "(I)I"⟩ ∈ BG := List.mem_filter.mpr ⟨in_5 (List.mem_of_getElem? (i := 96) rfl), rfl⟩
theorem k4_96 : Cond.fieldLink "ShapeSearchModel" 84 "ShapeSearchModel" "goals" "[I" ∈ BG := List.mem_filter.mpr ⟨in_4 (List.mem_of_getElem? (i := 96) rfl), rfl⟩
theorem k4_97 : Cond.fieldLink "ShapeSearchModel" 87 "ShapeSearchModel" "steps" "[I" ∈ BG := List.mem_filter.mpr ⟨in_4 (List.mem_of_getElem? (i := 97) rfl), rfl⟩
theorem k4_99 : Cond.fieldLink "ShapeSearchModel" 93 "ShapeSearchModel" "under" "[I" ∈ BG := List.mem_filter.mpr ⟨in_4 (List.mem_of_getElem? (i := 99) rfl), rfl⟩
theorem k4_100 : Cond.fieldLink "ShapeSearchModel" 96 "ShapeSearchModel" "taken" "[I" ∈ BG := List.mem_filter.mpr ⟨in_4 (List.mem_of_getElem? (i := 100) rfl), rfl⟩
theorem k4_103 : Cond.fieldLink "ShapeSearchModel" 203 "ShapeSearchModel" "tries" "I" ∈ BG := List.mem_filter.mpr ⟨in_4 (List.mem_of_getElem? (i := 103) rfl), rfl⟩
theorem k4_101 : Cond.fieldLink "ShapeSearchModel" 99 "ShapeSearchModel" "news" "[I" ∈ BG := List.mem_filter.mpr ⟨in_4 (List.mem_of_getElem? (i := 101) rfl), rfl⟩
theorem k4_66 : Cond.constant "ShapeSearchModel" 7 101100 ∈ BG := List.mem_filter.mpr ⟨in_4 (List.mem_of_getElem? (i := 66) rfl), rfl⟩
theorem k4_105 : Cond.fieldLink "ShapeSearchModel" 105 "ShapeSearchModel" "takenFirst" "I" ∈ BG := List.mem_filter.mpr ⟨in_4 (List.mem_of_getElem? (i := 105) rfl), rfl⟩
theorem k4_104 : Cond.fieldLink "ShapeSearchModel" 209 "ShapeSearchModel" "takenAll" "I" ∈ BG := List.mem_filter.mpr ⟨in_4 (List.mem_of_getElem? (i := 104) rfl), rfl⟩
abbrev wv_58 (cI cJ cZ : ClassId) (aQ aQ_kinds aQ_which aQ_firsts aQ_seconds aQ_thirds aQ_nexts aQ_heads aQ_names aQ_variables aQ_holes aQ_sizes aQ_places aQ_conclusions aQ_premises aQ_counts aQ_hitOf aQ_hitOne aQ_hitTwo aQ_hitTerms aQ_image aQ_bound aQ_waits aQ_waitsFor aQ_seen aQ_goals aQ_steps aQ_looked aQ_under aQ_taken aQ_news aQ_order aQ_there aQ_back : Nat) (Q_thrown : Int32) (Q_all : Int32) (Q_statements : Int32) (Q_hitKind : Int32) (Q_hits : Int32) (Q_tries : Int32) (Q_takenAll : Int32) (Q_takenFirst : Int32) (Q_image : (Nat → Int32)) : va_W := [(aQ, .inr (7, [.int Q_thrown, .ref aQ_kinds, .ref aQ_which, .ref aQ_firsts, .ref aQ_seconds, .ref aQ_thirds, .ref aQ_nexts, .ref aQ_heads, .int Q_all, .ref aQ_names, .ref aQ_variables, .ref aQ_holes, .ref aQ_sizes, .ref aQ_places, .ref aQ_conclusions, .ref aQ_premises, .ref aQ_counts, .int Q_statements, .int Q_hitKind, .int Q_hits, .ref aQ_hitOf, .ref aQ_hitOne, .ref aQ_hitTwo, .ref aQ_hitTerms, .ref aQ_image, .ref aQ_bound, .ref aQ_waits, .ref aQ_waitsFor, .ref aQ_seen, .ref aQ_goals, .ref aQ_steps, .ref aQ_looked, .ref aQ_under, .ref aQ_taken, .ref aQ_news, .ref aQ_order, .int Q_tries, .int Q_takenAll, .int Q_takenFirst, .ref aQ_there, .ref aQ_back])), (aQ_image, .inl (cI, 100, .inl Q_image))]
abbrev wv_59 (cI cJ cZ : ClassId) (aQ aQ_kinds aQ_which aQ_firsts aQ_seconds aQ_thirds aQ_nexts aQ_heads aQ_names aQ_variables aQ_holes aQ_sizes aQ_places aQ_conclusions aQ_premises aQ_counts aQ_hitOf aQ_hitOne aQ_hitTwo aQ_hitTerms aQ_image aQ_bound aQ_waits aQ_waitsFor aQ_seen aQ_goals aQ_steps aQ_looked aQ_under aQ_taken aQ_news aQ_order aQ_there aQ_back : Nat) (Q_thrown : Int32) (Q_all : Int32) (Q_statements : Int32) (Q_hitKind : Int32) (Q_hits : Int32) (Q_tries : Int32) (Q_takenAll : Int32) (Q_takenFirst : Int32) (Q_kinds : (Nat → Int32)) (Q_which : (Nat → Int32)) (Q_firsts : (Nat → Int32)) (Q_seconds : (Nat → Int32)) (Q_thirds : (Nat → Int32)) (Q_nexts : (Nat → Int32)) (Q_heads : (Nat → Int32)) (Q_names : (Nat → Int32)) (Q_variables : (Nat → Int32)) (Q_holes : (Nat → Int32)) (Q_sizes : (Nat → Int32)) (Q_image : (Nat → Int32)) (Q_bound : (Nat → Int32)) : va_W := [(aQ, .inr (7, [.int Q_thrown, .ref aQ_kinds, .ref aQ_which, .ref aQ_firsts, .ref aQ_seconds, .ref aQ_thirds, .ref aQ_nexts, .ref aQ_heads, .int Q_all, .ref aQ_names, .ref aQ_variables, .ref aQ_holes, .ref aQ_sizes, .ref aQ_places, .ref aQ_conclusions, .ref aQ_premises, .ref aQ_counts, .int Q_statements, .int Q_hitKind, .int Q_hits, .ref aQ_hitOf, .ref aQ_hitOne, .ref aQ_hitTwo, .ref aQ_hitTerms, .ref aQ_image, .ref aQ_bound, .ref aQ_waits, .ref aQ_waitsFor, .ref aQ_seen, .ref aQ_goals, .ref aQ_steps, .ref aQ_looked, .ref aQ_under, .ref aQ_taken, .ref aQ_news, .ref aQ_order, .int Q_tries, .int Q_takenAll, .int Q_takenFirst, .ref aQ_there, .ref aQ_back])), (aQ_kinds, .inl (cI, 101100, .inl Q_kinds)), (aQ_which, .inl (cI, 101100, .inl Q_which)), (aQ_firsts, .inl (cI, 101100, .inl Q_firsts)), (aQ_seconds, .inl (cI, 101100, .inl Q_seconds)), (aQ_thirds, .inl (cI, 101100, .inl Q_thirds)), (aQ_nexts, .inl (cI, 101100, .inl Q_nexts)), (aQ_heads, .inl (cI, 4096, .inl Q_heads)), (aQ_names, .inl (cI, 100, .inl Q_names)), (aQ_variables, .inl (cI, 100, .inl Q_variables)), (aQ_holes, .inl (cI, 100, .inl Q_holes)), (aQ_sizes, .inl (cI, 100, .inl Q_sizes)), (aQ_image, .inl (cI, 100, .inl Q_image)), (aQ_bound, .inl (cI, 8, .inl Q_bound))]
abbrev wv_60 (cI cJ cZ : ClassId) (aQ aQ_kinds aQ_which aQ_firsts aQ_seconds aQ_thirds aQ_nexts aQ_heads aQ_names aQ_variables aQ_holes aQ_sizes aQ_places aQ_conclusions aQ_premises aQ_counts aQ_hitOf aQ_hitOne aQ_hitTwo aQ_hitTerms aQ_image aQ_bound aQ_waits aQ_waitsFor aQ_seen aQ_goals aQ_steps aQ_looked aQ_under aQ_taken aQ_news aQ_order aQ_there aQ_back : Nat) (Q_thrown : Int32) (Q_all : Int32) (Q_statements : Int32) (Q_hitKind : Int32) (Q_hits : Int32) (Q_tries : Int32) (Q_takenAll : Int32) (Q_takenFirst : Int32) (Q_kinds : (Nat → Int32)) (Q_which : (Nat → Int32)) (Q_firsts : (Nat → Int32)) (Q_seconds : (Nat → Int32)) (Q_thirds : (Nat → Int32)) (Q_nexts : (Nat → Int32)) (Q_heads : (Nat → Int32)) (Q_names : (Nat → Int32)) (Q_variables : (Nat → Int32)) (Q_holes : (Nat → Int32)) (Q_sizes : (Nat → Int32)) (Q_image : (Nat → Int32)) (Q_bound : (Nat → Int32)) (Q_waits : (Nat → Int32)) : va_W := [(aQ, .inr (7, [.int Q_thrown, .ref aQ_kinds, .ref aQ_which, .ref aQ_firsts, .ref aQ_seconds, .ref aQ_thirds, .ref aQ_nexts, .ref aQ_heads, .int Q_all, .ref aQ_names, .ref aQ_variables, .ref aQ_holes, .ref aQ_sizes, .ref aQ_places, .ref aQ_conclusions, .ref aQ_premises, .ref aQ_counts, .int Q_statements, .int Q_hitKind, .int Q_hits, .ref aQ_hitOf, .ref aQ_hitOne, .ref aQ_hitTwo, .ref aQ_hitTerms, .ref aQ_image, .ref aQ_bound, .ref aQ_waits, .ref aQ_waitsFor, .ref aQ_seen, .ref aQ_goals, .ref aQ_steps, .ref aQ_looked, .ref aQ_under, .ref aQ_taken, .ref aQ_news, .ref aQ_order, .int Q_tries, .int Q_takenAll, .int Q_takenFirst, .ref aQ_there, .ref aQ_back])), (aQ_kinds, .inl (cI, 101100, .inl Q_kinds)), (aQ_which, .inl (cI, 101100, .inl Q_which)), (aQ_firsts, .inl (cI, 101100, .inl Q_firsts)), (aQ_seconds, .inl (cI, 101100, .inl Q_seconds)), (aQ_thirds, .inl (cI, 101100, .inl Q_thirds)), (aQ_nexts, .inl (cI, 101100, .inl Q_nexts)), (aQ_heads, .inl (cI, 4096, .inl Q_heads)), (aQ_names, .inl (cI, 100, .inl Q_names)), (aQ_variables, .inl (cI, 100, .inl Q_variables)), (aQ_holes, .inl (cI, 100, .inl Q_holes)), (aQ_sizes, .inl (cI, 100, .inl Q_sizes)), (aQ_image, .inl (cI, 100, .inl Q_image)), (aQ_bound, .inl (cI, 8, .inl Q_bound)), (aQ_waits, .inl (cI, 400, .inl Q_waits))]
abbrev wv_61 (cI cJ cZ : ClassId) (aQ aQ_kinds aQ_which aQ_firsts aQ_seconds aQ_thirds aQ_nexts aQ_heads aQ_names aQ_variables aQ_holes aQ_sizes aQ_places aQ_conclusions aQ_premises aQ_counts aQ_hitOf aQ_hitOne aQ_hitTwo aQ_hitTerms aQ_image aQ_bound aQ_waits aQ_waitsFor aQ_seen aQ_goals aQ_steps aQ_looked aQ_under aQ_taken aQ_news aQ_order aQ_there aQ_back : Nat) (Q_thrown : Int32) (Q_all : Int32) (Q_statements : Int32) (Q_hitKind : Int32) (Q_hits : Int32) (Q_tries : Int32) (Q_takenAll : Int32) (Q_takenFirst : Int32) (Q_kinds : (Nat → Int32)) (Q_which : (Nat → Int32)) (Q_firsts : (Nat → Int32)) (Q_seconds : (Nat → Int32)) (Q_thirds : (Nat → Int32)) (Q_nexts : (Nat → Int32)) (Q_heads : (Nat → Int32)) (Q_names : (Nat → Int32)) (Q_variables : (Nat → Int32)) (Q_holes : (Nat → Int32)) (Q_sizes : (Nat → Int32)) (Q_premises : (Nat → Int32)) (Q_hitOf : (Nat → Int32)) (Q_hitTwo : (Nat → Int32)) (Q_hitTerms : (Nat → Int32)) (Q_image : (Nat → Int32)) (Q_bound : (Nat → Int32)) (Q_waits : (Nat → Int32)) : va_W := [(aQ, .inr (7, [.int Q_thrown, .ref aQ_kinds, .ref aQ_which, .ref aQ_firsts, .ref aQ_seconds, .ref aQ_thirds, .ref aQ_nexts, .ref aQ_heads, .int Q_all, .ref aQ_names, .ref aQ_variables, .ref aQ_holes, .ref aQ_sizes, .ref aQ_places, .ref aQ_conclusions, .ref aQ_premises, .ref aQ_counts, .int Q_statements, .int Q_hitKind, .int Q_hits, .ref aQ_hitOf, .ref aQ_hitOne, .ref aQ_hitTwo, .ref aQ_hitTerms, .ref aQ_image, .ref aQ_bound, .ref aQ_waits, .ref aQ_waitsFor, .ref aQ_seen, .ref aQ_goals, .ref aQ_steps, .ref aQ_looked, .ref aQ_under, .ref aQ_taken, .ref aQ_news, .ref aQ_order, .int Q_tries, .int Q_takenAll, .int Q_takenFirst, .ref aQ_there, .ref aQ_back])), (aQ_kinds, .inl (cI, 101100, .inl Q_kinds)), (aQ_which, .inl (cI, 101100, .inl Q_which)), (aQ_firsts, .inl (cI, 101100, .inl Q_firsts)), (aQ_seconds, .inl (cI, 101100, .inl Q_seconds)), (aQ_thirds, .inl (cI, 101100, .inl Q_thirds)), (aQ_nexts, .inl (cI, 101100, .inl Q_nexts)), (aQ_heads, .inl (cI, 4096, .inl Q_heads)), (aQ_names, .inl (cI, 100, .inl Q_names)), (aQ_variables, .inl (cI, 100, .inl Q_variables)), (aQ_holes, .inl (cI, 100, .inl Q_holes)), (aQ_sizes, .inl (cI, 100, .inl Q_sizes)), (aQ_premises, .inl (cI, 120, .inl Q_premises)), (aQ_hitOf, .inl (cI, 30, .inl Q_hitOf)), (aQ_hitTwo, .inl (cI, 30, .inl Q_hitTwo)), (aQ_hitTerms, .inl (cI, 240, .inl Q_hitTerms)), (aQ_image, .inl (cI, 100, .inl Q_image)), (aQ_bound, .inl (cI, 8, .inl Q_bound)), (aQ_waits, .inl (cI, 400, .inl Q_waits))]
abbrev wv_62 (cI cJ cZ : ClassId) (aQ aQ_kinds aQ_which aQ_firsts aQ_seconds aQ_thirds aQ_nexts aQ_heads aQ_names aQ_variables aQ_holes aQ_sizes aQ_places aQ_conclusions aQ_premises aQ_counts aQ_hitOf aQ_hitOne aQ_hitTwo aQ_hitTerms aQ_image aQ_bound aQ_waits aQ_waitsFor aQ_seen aQ_goals aQ_steps aQ_looked aQ_under aQ_taken aQ_news aQ_order aQ_there aQ_back : Nat) (Q_thrown : Int32) (Q_all : Int32) (Q_statements : Int32) (Q_hitKind : Int32) (Q_hits : Int32) (Q_tries : Int32) (Q_takenAll : Int32) (Q_takenFirst : Int32) (Q_kinds : (Nat → Int32)) (Q_which : (Nat → Int32)) (Q_firsts : (Nat → Int32)) (Q_seconds : (Nat → Int32)) (Q_thirds : (Nat → Int32)) (Q_image : (Nat → Int32)) (Q_waits : (Nat → Int32)) (Q_waitsFor : (Nat → Int32)) (Q_there : (Nat → Int32)) (Q_back : (Nat → Int32)) : va_W := [(aQ, .inr (7, [.int Q_thrown, .ref aQ_kinds, .ref aQ_which, .ref aQ_firsts, .ref aQ_seconds, .ref aQ_thirds, .ref aQ_nexts, .ref aQ_heads, .int Q_all, .ref aQ_names, .ref aQ_variables, .ref aQ_holes, .ref aQ_sizes, .ref aQ_places, .ref aQ_conclusions, .ref aQ_premises, .ref aQ_counts, .int Q_statements, .int Q_hitKind, .int Q_hits, .ref aQ_hitOf, .ref aQ_hitOne, .ref aQ_hitTwo, .ref aQ_hitTerms, .ref aQ_image, .ref aQ_bound, .ref aQ_waits, .ref aQ_waitsFor, .ref aQ_seen, .ref aQ_goals, .ref aQ_steps, .ref aQ_looked, .ref aQ_under, .ref aQ_taken, .ref aQ_news, .ref aQ_order, .int Q_tries, .int Q_takenAll, .int Q_takenFirst, .ref aQ_there, .ref aQ_back])), (aQ_kinds, .inl (cI, 101100, .inl Q_kinds)), (aQ_which, .inl (cI, 101100, .inl Q_which)), (aQ_firsts, .inl (cI, 101100, .inl Q_firsts)), (aQ_seconds, .inl (cI, 101100, .inl Q_seconds)), (aQ_thirds, .inl (cI, 101100, .inl Q_thirds)), (aQ_image, .inl (cI, 100, .inl Q_image)), (aQ_waits, .inl (cI, 400, .inl Q_waits)), (aQ_waitsFor, .inl (cI, 400, .inl Q_waitsFor)), (aQ_there, .inl (cI, 8, .inl Q_there)), (aQ_back, .inl (cI, 8, .inl Q_back))]
abbrev wv_63 (cI cJ cZ : ClassId) (aQ aQ_kinds aQ_which aQ_firsts aQ_seconds aQ_thirds aQ_nexts aQ_heads aQ_names aQ_variables aQ_holes aQ_sizes aQ_places aQ_conclusions aQ_premises aQ_counts aQ_hitOf aQ_hitOne aQ_hitTwo aQ_hitTerms aQ_image aQ_bound aQ_waits aQ_waitsFor aQ_seen aQ_goals aQ_steps aQ_looked aQ_under aQ_taken aQ_news aQ_order aQ_there aQ_back : Nat) (Q_thrown : Int32) (Q_all : Int32) (Q_statements : Int32) (Q_hitKind : Int32) (Q_hits : Int32) (Q_tries : Int32) (Q_takenAll : Int32) (Q_takenFirst : Int32) (Q_kinds : (Nat → Int32)) (Q_which : (Nat → Int32)) (Q_firsts : (Nat → Int32)) (Q_seconds : (Nat → Int32)) (Q_thirds : (Nat → Int32)) (Q_conclusions : (Nat → Int32)) (Q_premises : (Nat → Int32)) (Q_counts : (Nat → Int32)) (Q_image : (Nat → Int32)) (Q_waits : (Nat → Int32)) (Q_waitsFor : (Nat → Int32)) (Q_there : (Nat → Int32)) (Q_back : (Nat → Int32)) : va_W := [(aQ, .inr (7, [.int Q_thrown, .ref aQ_kinds, .ref aQ_which, .ref aQ_firsts, .ref aQ_seconds, .ref aQ_thirds, .ref aQ_nexts, .ref aQ_heads, .int Q_all, .ref aQ_names, .ref aQ_variables, .ref aQ_holes, .ref aQ_sizes, .ref aQ_places, .ref aQ_conclusions, .ref aQ_premises, .ref aQ_counts, .int Q_statements, .int Q_hitKind, .int Q_hits, .ref aQ_hitOf, .ref aQ_hitOne, .ref aQ_hitTwo, .ref aQ_hitTerms, .ref aQ_image, .ref aQ_bound, .ref aQ_waits, .ref aQ_waitsFor, .ref aQ_seen, .ref aQ_goals, .ref aQ_steps, .ref aQ_looked, .ref aQ_under, .ref aQ_taken, .ref aQ_news, .ref aQ_order, .int Q_tries, .int Q_takenAll, .int Q_takenFirst, .ref aQ_there, .ref aQ_back])), (aQ_kinds, .inl (cI, 101100, .inl Q_kinds)), (aQ_which, .inl (cI, 101100, .inl Q_which)), (aQ_firsts, .inl (cI, 101100, .inl Q_firsts)), (aQ_seconds, .inl (cI, 101100, .inl Q_seconds)), (aQ_thirds, .inl (cI, 101100, .inl Q_thirds)), (aQ_conclusions, .inl (cI, 30, .inl Q_conclusions)), (aQ_premises, .inl (cI, 120, .inl Q_premises)), (aQ_counts, .inl (cI, 30, .inl Q_counts)), (aQ_image, .inl (cI, 100, .inl Q_image)), (aQ_waits, .inl (cI, 400, .inl Q_waits)), (aQ_waitsFor, .inl (cI, 400, .inl Q_waitsFor)), (aQ_there, .inl (cI, 8, .inl Q_there)), (aQ_back, .inl (cI, 8, .inl Q_back))]
abbrev wv_64 (cI cJ cZ : ClassId) (aQ aQ_kinds aQ_which aQ_firsts aQ_seconds aQ_thirds aQ_nexts aQ_heads aQ_names aQ_variables aQ_holes aQ_sizes aQ_places aQ_conclusions aQ_premises aQ_counts aQ_hitOf aQ_hitOne aQ_hitTwo aQ_hitTerms aQ_image aQ_bound aQ_waits aQ_waitsFor aQ_seen aQ_goals aQ_steps aQ_looked aQ_under aQ_taken aQ_news aQ_order aQ_there aQ_back : Nat) (Q_thrown : Int32) (Q_all : Int32) (Q_statements : Int32) (Q_hitKind : Int32) (Q_hits : Int32) (Q_tries : Int32) (Q_takenAll : Int32) (Q_takenFirst : Int32) (Q_counts : (Nat → Int32)) (Q_order : (Nat → Int32)) : va_W := [(aQ, .inr (7, [.int Q_thrown, .ref aQ_kinds, .ref aQ_which, .ref aQ_firsts, .ref aQ_seconds, .ref aQ_thirds, .ref aQ_nexts, .ref aQ_heads, .int Q_all, .ref aQ_names, .ref aQ_variables, .ref aQ_holes, .ref aQ_sizes, .ref aQ_places, .ref aQ_conclusions, .ref aQ_premises, .ref aQ_counts, .int Q_statements, .int Q_hitKind, .int Q_hits, .ref aQ_hitOf, .ref aQ_hitOne, .ref aQ_hitTwo, .ref aQ_hitTerms, .ref aQ_image, .ref aQ_bound, .ref aQ_waits, .ref aQ_waitsFor, .ref aQ_seen, .ref aQ_goals, .ref aQ_steps, .ref aQ_looked, .ref aQ_under, .ref aQ_taken, .ref aQ_news, .ref aQ_order, .int Q_tries, .int Q_takenAll, .int Q_takenFirst, .ref aQ_there, .ref aQ_back])), (aQ_counts, .inl (cI, 30, .inl Q_counts)), (aQ_order, .inl (cI, 30, .inl Q_order))]
abbrev wv_65 (cI cJ cZ : ClassId) (aQ aQ_kinds aQ_which aQ_firsts aQ_seconds aQ_thirds aQ_nexts aQ_heads aQ_names aQ_variables aQ_holes aQ_sizes aQ_places aQ_conclusions aQ_premises aQ_counts aQ_hitOf aQ_hitOne aQ_hitTwo aQ_hitTerms aQ_image aQ_bound aQ_waits aQ_waitsFor aQ_seen aQ_goals aQ_steps aQ_looked aQ_under aQ_taken aQ_news aQ_order aQ_there aQ_back : Nat) (Q_thrown : Int32) (Q_all : Int32) (Q_statements : Int32) (Q_hitKind : Int32) (Q_hits : Int32) (Q_tries : Int32) (Q_takenAll : Int32) (Q_takenFirst : Int32) (Q_kinds : (Nat → Int32)) (Q_which : (Nat → Int32)) (Q_firsts : (Nat → Int32)) (Q_seconds : (Nat → Int32)) (Q_thirds : (Nat → Int32)) (Q_nexts : (Nat → Int32)) (Q_heads : (Nat → Int32)) : va_W := [(aQ, .inr (7, [.int Q_thrown, .ref aQ_kinds, .ref aQ_which, .ref aQ_firsts, .ref aQ_seconds, .ref aQ_thirds, .ref aQ_nexts, .ref aQ_heads, .int Q_all, .ref aQ_names, .ref aQ_variables, .ref aQ_holes, .ref aQ_sizes, .ref aQ_places, .ref aQ_conclusions, .ref aQ_premises, .ref aQ_counts, .int Q_statements, .int Q_hitKind, .int Q_hits, .ref aQ_hitOf, .ref aQ_hitOne, .ref aQ_hitTwo, .ref aQ_hitTerms, .ref aQ_image, .ref aQ_bound, .ref aQ_waits, .ref aQ_waitsFor, .ref aQ_seen, .ref aQ_goals, .ref aQ_steps, .ref aQ_looked, .ref aQ_under, .ref aQ_taken, .ref aQ_news, .ref aQ_order, .int Q_tries, .int Q_takenAll, .int Q_takenFirst, .ref aQ_there, .ref aQ_back])), (aQ_kinds, .inl (cI, 101100, .inl Q_kinds)), (aQ_which, .inl (cI, 101100, .inl Q_which)), (aQ_firsts, .inl (cI, 101100, .inl Q_firsts)), (aQ_seconds, .inl (cI, 101100, .inl Q_seconds)), (aQ_thirds, .inl (cI, 101100, .inl Q_thirds)), (aQ_nexts, .inl (cI, 101100, .inl Q_nexts)), (aQ_heads, .inl (cI, 4096, .inl Q_heads))]
abbrev wv_66 (cI cJ cZ : ClassId) (aQ aQ_kinds aQ_which aQ_firsts aQ_seconds aQ_thirds aQ_nexts aQ_heads aQ_names aQ_variables aQ_holes aQ_sizes aQ_places aQ_conclusions aQ_premises aQ_counts aQ_hitOf aQ_hitOne aQ_hitTwo aQ_hitTerms aQ_image aQ_bound aQ_waits aQ_waitsFor aQ_seen aQ_goals aQ_steps aQ_looked aQ_under aQ_taken aQ_news aQ_order aQ_there aQ_back : Nat) (Q_thrown : Int32) (Q_all : Int32) (Q_statements : Int32) (Q_hitKind : Int32) (Q_hits : Int32) (Q_tries : Int32) (Q_takenAll : Int32) (Q_takenFirst : Int32) (Q_goals : (Nat → Int32)) (Q_steps : (Nat → Int32)) (Q_looked : (Nat → Int32)) (Q_under : (Nat → Int32)) (Q_taken : (Nat → Int32)) : va_W := [(aQ, .inr (7, [.int Q_thrown, .ref aQ_kinds, .ref aQ_which, .ref aQ_firsts, .ref aQ_seconds, .ref aQ_thirds, .ref aQ_nexts, .ref aQ_heads, .int Q_all, .ref aQ_names, .ref aQ_variables, .ref aQ_holes, .ref aQ_sizes, .ref aQ_places, .ref aQ_conclusions, .ref aQ_premises, .ref aQ_counts, .int Q_statements, .int Q_hitKind, .int Q_hits, .ref aQ_hitOf, .ref aQ_hitOne, .ref aQ_hitTwo, .ref aQ_hitTerms, .ref aQ_image, .ref aQ_bound, .ref aQ_waits, .ref aQ_waitsFor, .ref aQ_seen, .ref aQ_goals, .ref aQ_steps, .ref aQ_looked, .ref aQ_under, .ref aQ_taken, .ref aQ_news, .ref aQ_order, .int Q_tries, .int Q_takenAll, .int Q_takenFirst, .ref aQ_there, .ref aQ_back])), (aQ_goals, .inl (cI, 1002, .inl Q_goals)), (aQ_steps, .inl (cI, 1002, .inl Q_steps)), (aQ_looked, .inl (cI, 1002, .inl Q_looked)), (aQ_under, .inl (cI, 1002, .inl Q_under)), (aQ_taken, .inl (cI, 1002, .inl Q_taken))]
abbrev wv_67 (cI cJ cZ : ClassId) (aQ aQ_kinds aQ_which aQ_firsts aQ_seconds aQ_thirds aQ_nexts aQ_heads aQ_names aQ_variables aQ_holes aQ_sizes aQ_places aQ_conclusions aQ_premises aQ_counts aQ_hitOf aQ_hitOne aQ_hitTwo aQ_hitTerms aQ_image aQ_bound aQ_waits aQ_waitsFor aQ_seen aQ_goals aQ_steps aQ_looked aQ_under aQ_taken aQ_news aQ_order aQ_there aQ_back : Nat) (Q_thrown : Int32) (Q_all : Int32) (Q_statements : Int32) (Q_hitKind : Int32) (Q_hits : Int32) (Q_tries : Int32) (Q_takenAll : Int32) (Q_takenFirst : Int32) (Q_kinds : (Nat → Int32)) (Q_which : (Nat → Int32)) (Q_firsts : (Nat → Int32)) (Q_seconds : (Nat → Int32)) (Q_thirds : (Nat → Int32)) (Q_nexts : (Nat → Int32)) (Q_heads : (Nat → Int32)) (Q_names : (Nat → Int32)) (Q_variables : (Nat → Int32)) (Q_holes : (Nat → Int32)) (Q_sizes : (Nat → Int32)) (Q_places : (Nat → Int32)) (Q_conclusions : (Nat → Int32)) (Q_premises : (Nat → Int32)) (Q_counts : (Nat → Int32)) (Q_image : (Nat → Int32)) (Q_bound : (Nat → Int32)) (Q_waits : (Nat → Int32)) (Q_waitsFor : (Nat → Int32)) (Q_goals : (Nat → Int32)) (Q_looked : (Nat → Int32)) (Q_news : (Nat → Int32)) (Q_order : (Nat → Int32)) : va_W := [(aQ, .inr (7, [.int Q_thrown, .ref aQ_kinds, .ref aQ_which, .ref aQ_firsts, .ref aQ_seconds, .ref aQ_thirds, .ref aQ_nexts, .ref aQ_heads, .int Q_all, .ref aQ_names, .ref aQ_variables, .ref aQ_holes, .ref aQ_sizes, .ref aQ_places, .ref aQ_conclusions, .ref aQ_premises, .ref aQ_counts, .int Q_statements, .int Q_hitKind, .int Q_hits, .ref aQ_hitOf, .ref aQ_hitOne, .ref aQ_hitTwo, .ref aQ_hitTerms, .ref aQ_image, .ref aQ_bound, .ref aQ_waits, .ref aQ_waitsFor, .ref aQ_seen, .ref aQ_goals, .ref aQ_steps, .ref aQ_looked, .ref aQ_under, .ref aQ_taken, .ref aQ_news, .ref aQ_order, .int Q_tries, .int Q_takenAll, .int Q_takenFirst, .ref aQ_there, .ref aQ_back])), (aQ_kinds, .inl (cI, 101100, .inl Q_kinds)), (aQ_which, .inl (cI, 101100, .inl Q_which)), (aQ_firsts, .inl (cI, 101100, .inl Q_firsts)), (aQ_seconds, .inl (cI, 101100, .inl Q_seconds)), (aQ_thirds, .inl (cI, 101100, .inl Q_thirds)), (aQ_nexts, .inl (cI, 101100, .inl Q_nexts)), (aQ_heads, .inl (cI, 4096, .inl Q_heads)), (aQ_names, .inl (cI, 100, .inl Q_names)), (aQ_variables, .inl (cI, 100, .inl Q_variables)), (aQ_holes, .inl (cI, 100, .inl Q_holes)), (aQ_sizes, .inl (cI, 100, .inl Q_sizes)), (aQ_places, .inl (cI, 30, .inl Q_places)), (aQ_conclusions, .inl (cI, 30, .inl Q_conclusions)), (aQ_premises, .inl (cI, 120, .inl Q_premises)), (aQ_counts, .inl (cI, 30, .inl Q_counts)), (aQ_image, .inl (cI, 100, .inl Q_image)), (aQ_bound, .inl (cI, 8, .inl Q_bound)), (aQ_waits, .inl (cI, 400, .inl Q_waits)), (aQ_waitsFor, .inl (cI, 400, .inl Q_waitsFor)), (aQ_goals, .inl (cI, 1002, .inl Q_goals)), (aQ_looked, .inl (cI, 1002, .inl Q_looked)), (aQ_news, .inl (cI, 4008, .inl Q_news)), (aQ_order, .inl (cI, 30, .inl Q_order))]
abbrev wv_68 (cI cJ cZ : ClassId) (aQ aQ_kinds aQ_which aQ_firsts aQ_seconds aQ_thirds aQ_nexts aQ_heads aQ_names aQ_variables aQ_holes aQ_sizes aQ_places aQ_conclusions aQ_premises aQ_counts aQ_hitOf aQ_hitOne aQ_hitTwo aQ_hitTerms aQ_image aQ_bound aQ_waits aQ_waitsFor aQ_seen aQ_goals aQ_steps aQ_looked aQ_under aQ_taken aQ_news aQ_order aQ_there aQ_back : Nat) (Q_thrown : Int32) (Q_all : Int32) (Q_statements : Int32) (Q_hitKind : Int32) (Q_hits : Int32) (Q_tries : Int32) (Q_takenAll : Int32) (Q_takenFirst : Int32) (Q_places : (Nat → Int32)) : va_W := [(aQ, .inr (7, [.int Q_thrown, .ref aQ_kinds, .ref aQ_which, .ref aQ_firsts, .ref aQ_seconds, .ref aQ_thirds, .ref aQ_nexts, .ref aQ_heads, .int Q_all, .ref aQ_names, .ref aQ_variables, .ref aQ_holes, .ref aQ_sizes, .ref aQ_places, .ref aQ_conclusions, .ref aQ_premises, .ref aQ_counts, .int Q_statements, .int Q_hitKind, .int Q_hits, .ref aQ_hitOf, .ref aQ_hitOne, .ref aQ_hitTwo, .ref aQ_hitTerms, .ref aQ_image, .ref aQ_bound, .ref aQ_waits, .ref aQ_waitsFor, .ref aQ_seen, .ref aQ_goals, .ref aQ_steps, .ref aQ_looked, .ref aQ_under, .ref aQ_taken, .ref aQ_news, .ref aQ_order, .int Q_tries, .int Q_takenAll, .int Q_takenFirst, .ref aQ_there, .ref aQ_back])), (aQ_places, .inl (cI, 30, .inl Q_places))]
def f_Q_become0 (Q_image : (Nat → Int32)) (p0 : Int32) : Option (Int32) :=
  if p0 = (-1 : Int32) then
    some (-1 : Int32)
  else
    gd (ixb p0 100) <|
    some (Q_image p0.toNatClampNeg)
abbrev rm_Q_become0 : Room := { frames := 0, cells := 0, slots := 0, locals := 0 }
set_option maxHeartbeats 4000000 in
set_option maxRecDepth 100000 in
theorem c_Q_become0 (l : Launch) (D : va_G) (cI cJ cZ : ClassId) (aQ aQ_kinds aQ_which aQ_firsts aQ_seconds aQ_thirds aQ_nexts aQ_heads aQ_names aQ_variables aQ_holes aQ_sizes aQ_places aQ_conclusions aQ_premises aQ_counts aQ_hitOf aQ_hitOne aQ_hitTwo aQ_hitTerms aQ_image aQ_bound aQ_waits aQ_waitsFor aQ_seen aQ_goals aQ_steps aQ_looked aQ_under aQ_taken aQ_news aQ_order aQ_there aQ_back : Nat) (Q_thrown : Int32) (Q_all : Int32) (Q_statements : Int32) (Q_hitKind : Int32) (Q_hits : Int32) (Q_tries : Int32) (Q_takenAll : Int32) (Q_takenFirst : Int32) (Q_image : (Nat → Int32)) (p0 : Int32) (o : Int32) (hf : f_Q_become0 Q_image p0 = some o) : Met l y_Q_become0 (ws_Q_become0) rm_Q_become0 (RPc D vwCl cI cJ cZ [.ref aQ, .int p0] (wv_58 cI cJ cZ aQ aQ_kinds aQ_which aQ_firsts aQ_seconds aQ_thirds aQ_nexts aQ_heads aQ_names aQ_variables aQ_holes aQ_sizes aQ_places aQ_conclusions aQ_premises aQ_counts aQ_hitOf aQ_hitOne aQ_hitTwo aQ_hitTerms aQ_image aQ_bound aQ_waits aQ_waitsFor aQ_seen aQ_goals aQ_steps aQ_looked aQ_under aQ_taken aQ_news aQ_order aQ_there aQ_back Q_thrown Q_all Q_statements Q_hitKind Q_hits Q_tries Q_takenAll Q_takenFirst Q_image)) (RQ (some (.int o))) 0 0 (fun _ => False) := by
  refine Met.ofW (cc := b_Q_become0) (maxL := 2) (ret := (some .int)) (by decide) rfl ?_
  intro p e s m args below meth c s₁ B hml hv
  obtain ⟨rfl, hP, hK⟩ := hv
  have hx := B.exec
  have hb := B.bytes
  have hr := B.returns
  have hts : ∀ w ∈ BG, w.before _ s = true := fun w h => atoms_spec (ws := (ws_Q_become0)) B.pre w (List.mem_cons_of_mem _ h)
  have hown : s.vm.findClass RR_Q = some m.cls := findClass_of_methodNamed B.named
  have hlocks := B.notSynchronized
  have hl := lv_entry ([.ref aQ, .int p0]) (n := 2) (Nat.le_of_ble_eq_true rfl)
  rw [lg_entry_eq]
  generalize (lg_sl ([.ref aQ, .int p0]) ++ List.replicate (2 - (lg_sl ([.ref aQ, .int p0])).length) Slot.unset).toArray = ls at hl ⊢
  have hl : lv_has ls 2 [(0, .ref aQ), (1, .int p0)] := hl
  rw [f_Q_become0] at hf
  refine lv_iload_n hx hb d_Q_become0_0 rfl (lv_at hl 1 rfl) ?_
  refine lv_iconst (v := -1) hx hb d_Q_become0_1 (by decide) ?_
  refine lv_icmp_ne (tgt := 9) hx hb d_Q_become0_2 (by decide) (fun c1 => ?_) (fun c1 => ?_)
  · have hf := ite_f c1 hf
    refine lv_aload_n hx hb d_Q_become0_9 rfl (lv_at hl 0 rfl) ?_
    refine va_get (D := D) (ci := 7) (v := .ref aQ_image) (C := RR_Q) (T := FF_Q) (N := 41) hx hb hts kin_Q hown hK.1 hP 0 rfl rfl 24 (by decide) (hts _ k4_91) (fun _ h9 => h9) rfl d_Q_become0_10 ?_
    refine lv_iload_n hx hb d_Q_become0_13 rfl (lv_at hl 1 rfl) ?_
    obtain ⟨h2, hf⟩ := of_gd hf
    refine va_iald hx hb hK.1 hP 1 0 rfl rfl (ixb_in h2) d_Q_become0_14 ?_
    obtain rfl := Option.some.inj hf
    exact W.iret (v := Q_image p0.toNatClampNeg) hx hb hr (fun t ht hW => ⟨rfl, ht⟩) (fun q h => by cases h) d_Q_become0_15
  · have hf := ite_t c1 hf
    refine lv_iconst (v := -1) hx hb d_Q_become0_5 (by decide) ?_
    refine lv_goto (tgt := 15) hx hb d_Q_become0_6 (by decide) ?_
    obtain rfl := Option.some.inj hf
    exact W.iret (v := (-1 : Int32)) hx hb hr (fun t ht hW => ⟨rfl, ht⟩) (fun q h => by cases h) d_Q_become0_15
def f_Q_become (Q_all : Int32) (Q_kinds : (Nat → Int32)) (Q_which : (Nat → Int32)) (Q_firsts : (Nat → Int32)) (Q_seconds : (Nat → Int32)) (Q_thirds : (Nat → Int32)) (Q_nexts : (Nat → Int32)) (Q_heads : (Nat → Int32)) (Q_names : (Nat → Int32)) (Q_variables : (Nat → Int32)) (Q_holes : (Nat → Int32)) (Q_sizes : (Nat → Int32)) (Q_image : (Nat → Int32)) (Q_bound : (Nat → Int32)) (p0 : Int32) (p1 : Int32) : Option (Int32 × Int32 × (Nat → Int32) × (Nat → Int32) × (Nat → Int32) × (Nat → Int32) × (Nat → Int32) × (Nat → Int32) × (Nat → Int32) × (Nat → Int32) × (Nat → Int32) × (Nat → Int32) × (Nat → Int32)) :=
  gd (ixb p0 101100) <|
  if (Q_kinds p0.toNatClampNeg) = (1 : Int32) then
    gd (ixb p0 101100) <|
    gd (ixb (Q_which p0.toNatClampNeg) 8) <|
    if (Q_bound (Q_which p0.toNatClampNeg).toNatClampNeg) = (-1 : Int32) then
      some (p0, Q_all, Q_kinds, Q_which, Q_firsts, Q_seconds, Q_thirds, Q_nexts, Q_heads, Q_names, Q_variables, Q_holes, Q_sizes)
    else
      gd (ixb p0 101100) <|
      gd (ixb (Q_which p0.toNatClampNeg) 8) <|
      some (Q_bound (Q_which p0.toNatClampNeg).toNatClampNeg, Q_all, Q_kinds, Q_which, Q_firsts, Q_seconds, Q_thirds, Q_nexts, Q_heads, Q_names, Q_variables, Q_holes, Q_sizes)
  else
    gd (ixb p0 101100) <|
    if (Q_kinds p0.toNatClampNeg) = (2 : Int32) then
      some (p0, Q_all, Q_kinds, Q_which, Q_firsts, Q_seconds, Q_thirds, Q_nexts, Q_heads, Q_names, Q_variables, Q_holes, Q_sizes)
    else
      gd (ixb p0 101100) <|
      gd (ixb p0 101100) <|
      (f_Q_become0 Q_image (Q_firsts p0.toNatClampNeg)).bind fun r7 =>
      gd (ixb p0 101100) <|
      (f_Q_become0 Q_image (Q_seconds p0.toNatClampNeg)).bind fun r9 =>
      gd (ixb p0 101100) <|
      (f_Q_become0 Q_image (Q_thirds p0.toNatClampNeg)).bind fun r11 =>
      (f_Q_make Q_all Q_kinds Q_which Q_firsts Q_seconds Q_thirds Q_nexts Q_heads Q_names Q_variables Q_holes Q_sizes (0 : Int32) (Q_which p0.toNatClampNeg) r7 r9 r11 p1).bind fun r12 =>
      some (r12.1, r12.2.1, r12.2.2.1, r12.2.2.2.1, r12.2.2.2.2.1, r12.2.2.2.2.2.1, r12.2.2.2.2.2.2.1, r12.2.2.2.2.2.2.2.1, r12.2.2.2.2.2.2.2.2.1, r12.2.2.2.2.2.2.2.2.2.1, r12.2.2.2.2.2.2.2.2.2.2.1, r12.2.2.2.2.2.2.2.2.2.2.2.1, r12.2.2.2.2.2.2.2.2.2.2.2.2)
abbrev rm_Q_become : Room := { frames := 3, cells := 0, slots := 0, locals := 73 }
set_option maxHeartbeats 4000000 in
set_option maxRecDepth 100000 in
theorem c_Q_become (l : Launch) (D : va_G) (cI cJ cZ : ClassId) (aQ aQ_kinds aQ_which aQ_firsts aQ_seconds aQ_thirds aQ_nexts aQ_heads aQ_names aQ_variables aQ_holes aQ_sizes aQ_places aQ_conclusions aQ_premises aQ_counts aQ_hitOf aQ_hitOne aQ_hitTwo aQ_hitTerms aQ_image aQ_bound aQ_waits aQ_waitsFor aQ_seen aQ_goals aQ_steps aQ_looked aQ_under aQ_taken aQ_news aQ_order aQ_there aQ_back : Nat) (sz : Nat) (Q_thrown : Int32) (Q_all : Int32) (Q_statements : Int32) (Q_hitKind : Int32) (Q_hits : Int32) (Q_tries : Int32) (Q_takenAll : Int32) (Q_takenFirst : Int32) (Q_kinds : (Nat → Int32)) (Q_which : (Nat → Int32)) (Q_firsts : (Nat → Int32)) (Q_seconds : (Nat → Int32)) (Q_thirds : (Nat → Int32)) (Q_nexts : (Nat → Int32)) (Q_heads : (Nat → Int32)) (Q_names : (Nat → Int32)) (Q_variables : (Nat → Int32)) (Q_holes : (Nat → Int32)) (Q_sizes : (Nat → Int32)) (Q_image : (Nat → Int32)) (Q_bound : (Nat → Int32)) (p0 : Int32) (p1 : Int32) (o : Int32 × Int32 × (Nat → Int32) × (Nat → Int32) × (Nat → Int32) × (Nat → Int32) × (Nat → Int32) × (Nat → Int32) × (Nat → Int32) × (Nat → Int32) × (Nat → Int32) × (Nat → Int32) × (Nat → Int32)) (hf : f_Q_become Q_all Q_kinds Q_which Q_firsts Q_seconds Q_thirds Q_nexts Q_heads Q_names Q_variables Q_holes Q_sizes Q_image Q_bound p0 p1 = some o) : Met l y_Q_become (ws_Q_become) rm_Q_become (WPc D vwCl cI cJ cZ [.ref aQ, .int p0, .int p1] (wv_59 cI cJ cZ aQ aQ_kinds aQ_which aQ_firsts aQ_seconds aQ_thirds aQ_nexts aQ_heads aQ_names aQ_variables aQ_holes aQ_sizes aQ_places aQ_conclusions aQ_premises aQ_counts aQ_hitOf aQ_hitOne aQ_hitTwo aQ_hitTerms aQ_image aQ_bound aQ_waits aQ_waitsFor aQ_seen aQ_goals aQ_steps aQ_looked aQ_under aQ_taken aQ_news aQ_order aQ_there aQ_back Q_thrown Q_all Q_statements Q_hitKind Q_hits Q_tries Q_takenAll Q_takenFirst Q_kinds Q_which Q_firsts Q_seconds Q_thirds Q_nexts Q_heads Q_names Q_variables Q_holes Q_sizes Q_image Q_bound) sz) (WQ D vwCl (some (.int o.1)) (wv_59 cI cJ cZ aQ aQ_kinds aQ_which aQ_firsts aQ_seconds aQ_thirds aQ_nexts aQ_heads aQ_names aQ_variables aQ_holes aQ_sizes aQ_places aQ_conclusions aQ_premises aQ_counts aQ_hitOf aQ_hitOne aQ_hitTwo aQ_hitTerms aQ_image aQ_bound aQ_waits aQ_waitsFor aQ_seen aQ_goals aQ_steps aQ_looked aQ_under aQ_taken aQ_news aQ_order aQ_there aQ_back Q_thrown o.2.1 Q_statements Q_hitKind Q_hits Q_tries Q_takenAll Q_takenFirst o.2.2.1 o.2.2.2.1 o.2.2.2.2.1 o.2.2.2.2.2.1 o.2.2.2.2.2.2.1 o.2.2.2.2.2.2.2.1 o.2.2.2.2.2.2.2.2.1 o.2.2.2.2.2.2.2.2.2.1 o.2.2.2.2.2.2.2.2.2.2.1 o.2.2.2.2.2.2.2.2.2.2.2.1 o.2.2.2.2.2.2.2.2.2.2.2.2 Q_image Q_bound) (va_A (wv_59 cI cJ cZ aQ aQ_kinds aQ_which aQ_firsts aQ_seconds aQ_thirds aQ_nexts aQ_heads aQ_names aQ_variables aQ_holes aQ_sizes aQ_places aQ_conclusions aQ_premises aQ_counts aQ_hitOf aQ_hitOne aQ_hitTwo aQ_hitTerms aQ_image aQ_bound aQ_waits aQ_waitsFor aQ_seen aQ_goals aQ_steps aQ_looked aQ_under aQ_taken aQ_news aQ_order aQ_there aQ_back Q_thrown Q_all Q_statements Q_hitKind Q_hits Q_tries Q_takenAll Q_takenFirst Q_kinds Q_which Q_firsts Q_seconds Q_thirds Q_nexts Q_heads Q_names Q_variables Q_holes Q_sizes Q_image Q_bound) sz)) 0 0 (va_A (wv_59 cI cJ cZ aQ aQ_kinds aQ_which aQ_firsts aQ_seconds aQ_thirds aQ_nexts aQ_heads aQ_names aQ_variables aQ_holes aQ_sizes aQ_places aQ_conclusions aQ_premises aQ_counts aQ_hitOf aQ_hitOne aQ_hitTwo aQ_hitTerms aQ_image aQ_bound aQ_waits aQ_waitsFor aQ_seen aQ_goals aQ_steps aQ_looked aQ_under aQ_taken aQ_news aQ_order aQ_there aQ_back Q_thrown Q_all Q_statements Q_hitKind Q_hits Q_tries Q_takenAll Q_takenFirst Q_kinds Q_which Q_firsts Q_seconds Q_thirds Q_nexts Q_heads Q_names Q_variables Q_holes Q_sizes Q_image Q_bound) sz) := by
  refine Met.ofW (cc := b_Q_become) (maxL := 3) (ret := (some .int)) (by decide) rfl ?_
  intro p e s m args below meth c s₁ B hml hv
  obtain ⟨rfl, rfl, hP, hK, hD0⟩ := hv
  have hx := B.exec
  have hb := B.bytes
  have hr := B.returns
  have hts : ∀ w ∈ BG, w.before _ s = true := fun w h => atoms_spec (ws := (ws_Q_become)) B.pre w (List.mem_cons_of_mem _ h)
  have hown : s.vm.findClass RR_Q = some m.cls := findClass_of_methodNamed B.named
  have hlocks := B.notSynchronized
  have hD := hD0.self (sz := s.heap.size)
  have hA : ∀ q : Nat, s.heap.size ≤ q → va_A (wv_59 cI cJ cZ aQ aQ_kinds aQ_which aQ_firsts aQ_seconds aQ_thirds aQ_nexts aQ_heads aQ_names aQ_variables aQ_holes aQ_sizes aQ_places aQ_conclusions aQ_premises aQ_counts aQ_hitOf aQ_hitOne aQ_hitTwo aQ_hitTerms aQ_image aQ_bound aQ_waits aQ_waitsFor aQ_seen aQ_goals aQ_steps aQ_looked aQ_under aQ_taken aQ_news aQ_order aQ_there aQ_back Q_thrown Q_all Q_statements Q_hitKind Q_hits Q_tries Q_takenAll Q_takenFirst Q_kinds Q_which Q_firsts Q_seconds Q_thirds Q_nexts Q_heads Q_names Q_variables Q_holes Q_sizes Q_image Q_bound) s.heap.size q := fun q h => Or.inr h
  have hS : va_S (va_A (wv_59 cI cJ cZ aQ aQ_kinds aQ_which aQ_firsts aQ_seconds aQ_thirds aQ_nexts aQ_heads aQ_names aQ_variables aQ_holes aQ_sizes aQ_places aQ_conclusions aQ_premises aQ_counts aQ_hitOf aQ_hitOne aQ_hitTwo aQ_hitTerms aQ_image aQ_bound aQ_waits aQ_waitsFor aQ_seen aQ_goals aQ_steps aQ_looked aQ_under aQ_taken aQ_news aQ_order aQ_there aQ_back Q_thrown Q_all Q_statements Q_hitKind Q_hits Q_tries Q_takenAll Q_takenFirst Q_kinds Q_which Q_firsts Q_seconds Q_thirds Q_nexts Q_heads Q_names Q_variables Q_holes Q_sizes Q_image Q_bound) s.heap.size) s.heap s.heap [] := va_S.rf
  generalize va_A (wv_59 cI cJ cZ aQ aQ_kinds aQ_which aQ_firsts aQ_seconds aQ_thirds aQ_nexts aQ_heads aQ_names aQ_variables aQ_holes aQ_sizes aQ_places aQ_conclusions aQ_premises aQ_counts aQ_hitOf aQ_hitOne aQ_hitTwo aQ_hitTerms aQ_image aQ_bound aQ_waits aQ_waitsFor aQ_seen aQ_goals aQ_steps aQ_looked aQ_under aQ_taken aQ_news aQ_order aQ_there aQ_back Q_thrown Q_all Q_statements Q_hitKind Q_hits Q_tries Q_takenAll Q_takenFirst Q_kinds Q_which Q_firsts Q_seconds Q_thirds Q_nexts Q_heads Q_names Q_variables Q_holes Q_sizes Q_image Q_bound) s.heap.size = A at hD hA hS ⊢
  have hl := lv_entry ([.ref aQ, .int p0, .int p1]) (n := 3) (Nat.le_of_ble_eq_true rfl)
  rw [lg_entry_eq]
  generalize (lg_sl ([.ref aQ, .int p0, .int p1]) ++ List.replicate (3 - (lg_sl ([.ref aQ, .int p0, .int p1])).length) Slot.unset).toArray = ls at hl ⊢
  have hl : lv_has ls 3 [(0, .ref aQ), (1, .int p0), (2, .int p1)] := hl
  rw [f_Q_become] at hf
  refine lv_aload_n hx hb d_Q_become_0 rfl (lv_at hl 0 rfl) ?_
  refine va_get (D := D) (ci := 7) (v := .ref aQ_kinds) (C := RR_Q) (T := FF_Q) (N := 41) hx hb hts kin_Q hown hK.1 hP 0 rfl rfl 1 (by decide) (hts _ k4_68) (fun _ h9 => h9) rfl d_Q_become_1 ?_
  refine lv_iload_n hx hb d_Q_become_4 rfl (lv_at hl 1 rfl) ?_
  obtain ⟨h1, hf⟩ := of_gd hf
  refine va_iald hx hb hK.1 hP 1 0 rfl rfl (ixb_in h1) d_Q_become_5 ?_
  refine lv_iconst (v := 1) hx hb d_Q_become_6 (by decide) ?_
  refine lv_icmp_ne (tgt := 41) hx hb d_Q_become_7 (by decide) (fun c2 => ?_) (fun c2 => ?_)
  · have hf := ite_f c2 hf
    refine lv_aload_n hx hb d_Q_become_41 rfl (lv_at hl 0 rfl) ?_
    refine va_get (D := D) (ci := 7) (v := .ref aQ_kinds) (C := RR_Q) (T := FF_Q) (N := 41) hx hb hts kin_Q hown hK.1 hP 0 rfl rfl 1 (by decide) (hts _ k4_68) (fun _ h9 => h9) rfl d_Q_become_42 ?_
    refine lv_iload_n hx hb d_Q_become_45 rfl (lv_at hl 1 rfl) ?_
    obtain ⟨h3, hf⟩ := of_gd hf
    refine va_iald hx hb hK.1 hP 1 0 rfl rfl (ixb_in h3) d_Q_become_46 ?_
    refine lv_iconst (v := 2) hx hb d_Q_become_47 (by decide) ?_
    refine lv_icmp_ne (tgt := 53) hx hb d_Q_become_48 (by decide) (fun c4 => ?_) (fun c4 => ?_)
    · have hf := ite_f c4 hf
      refine lv_aload_n hx hb d_Q_become_53 rfl (lv_at hl 0 rfl) ?_
      refine lv_iconst (v := 0) hx hb d_Q_become_54 (by decide) ?_
      refine lv_aload_n hx hb d_Q_become_55 rfl (lv_at hl 0 rfl) ?_
      refine va_get (D := D) (ci := 7) (v := .ref aQ_which) (C := RR_Q) (T := FF_Q) (N := 41) hx hb hts kin_Q hown hK.1 hP 0 rfl rfl 2 (by decide) (hts _ k4_69) (fun _ h9 => h9) rfl d_Q_become_56 ?_
      refine lv_iload_n hx hb d_Q_become_59 rfl (lv_at hl 1 rfl) ?_
      obtain ⟨h5, hf⟩ := of_gd hf
      refine va_iald hx hb hK.1 hP 2 0 rfl rfl (ixb_in h5) d_Q_become_60 ?_
      refine lv_aload_n hx hb d_Q_become_61 rfl (lv_at hl 0 rfl) ?_
      refine lv_aload_n hx hb d_Q_become_62 rfl (lv_at hl 0 rfl) ?_
      refine va_get (D := D) (ci := 7) (v := .ref aQ_firsts) (C := RR_Q) (T := FF_Q) (N := 41) hx hb hts kin_Q hown hK.1 hP 0 rfl rfl 3 (by decide) (hts _ k4_70) (fun _ h9 => h9) rfl d_Q_become_63 ?_
      refine lv_iload_n hx hb d_Q_become_66 rfl (lv_at hl 1 rfl) ?_
      obtain ⟨h6, hf⟩ := of_gd hf
      refine va_iald hx hb hK.1 hP 3 0 rfl rfl (ixb_in h6) d_Q_become_67 ?_
      obtain ⟨r7, hr7, hf⟩ := of_bd hf
      refine rd_call (va_runV (As := [.int (Q_firsts p0.toNatClampNeg)]) (rest := [.int (Q_which p0.toNatClampNeg), .int (0 : Int32), .ref aQ]) ⟨hx, hb, hml, hown, hts⟩ (c_Q_become0 l D cI cJ cZ aQ aQ_kinds aQ_which aQ_firsts aQ_seconds aQ_thirds aQ_nexts aQ_heads aQ_names aQ_variables aQ_holes aQ_sizes aQ_places aQ_conclusions aQ_premises aQ_counts aQ_hitOf aQ_hitOne aQ_hitTwo aQ_hitTerms aQ_image aQ_bound aQ_waits aQ_waitsFor aQ_seen aQ_goals aQ_steps aQ_looked aQ_under aQ_taken aQ_news aQ_order aQ_there aQ_back Q_thrown Q_all Q_statements Q_hitKind Q_hits Q_tries Q_takenAll Q_takenFirst Q_image (Q_firsts p0.toNatClampNeg) r7 hr7) (bigV 1 hts k5_62 k5_64 ks_Q_become0 k1_9 k5_65 rfl rfl hd_Q_become0 ⟨Nat.le_of_ble_eq_true rfl, Nat.le_of_ble_eq_true rfl⟩) (rd_preV hK hP [0, 12] rfl 0 rfl rfl rfl) rfl rfl hl.1 rfl (lv_room (Nat.le_of_ble_eq_true rfl)) d_Q_become_68 ⟨Nat.le_of_ble_eq_true rfl, Nat.le_of_ble_eq_true rfl⟩) ?_
      refine lv_aload_n hx hb d_Q_become_71 rfl (lv_at hl 0 rfl) ?_
      refine lv_aload_n hx hb d_Q_become_72 rfl (lv_at hl 0 rfl) ?_
      refine va_get (D := D) (ci := 7) (v := .ref aQ_seconds) (C := RR_Q) (T := FF_Q) (N := 41) hx hb hts kin_Q hown hK.1 hP 0 rfl rfl 4 (by decide) (hts _ k4_71) (fun _ h9 => h9) rfl d_Q_become_73 ?_
      refine lv_iload_n hx hb d_Q_become_76 rfl (lv_at hl 1 rfl) ?_
      obtain ⟨h8, hf⟩ := of_gd hf
      refine va_iald hx hb hK.1 hP 4 0 rfl rfl (ixb_in h8) d_Q_become_77 ?_
      obtain ⟨r9, hr9, hf⟩ := of_bd hf
      refine rd_call (va_runV (As := [.int (Q_seconds p0.toNatClampNeg)]) (rest := [.int r7, .int (Q_which p0.toNatClampNeg), .int (0 : Int32), .ref aQ]) ⟨hx, hb, hml, hown, hts⟩ (c_Q_become0 l D cI cJ cZ aQ aQ_kinds aQ_which aQ_firsts aQ_seconds aQ_thirds aQ_nexts aQ_heads aQ_names aQ_variables aQ_holes aQ_sizes aQ_places aQ_conclusions aQ_premises aQ_counts aQ_hitOf aQ_hitOne aQ_hitTwo aQ_hitTerms aQ_image aQ_bound aQ_waits aQ_waitsFor aQ_seen aQ_goals aQ_steps aQ_looked aQ_under aQ_taken aQ_news aQ_order aQ_there aQ_back Q_thrown Q_all Q_statements Q_hitKind Q_hits Q_tries Q_takenAll Q_takenFirst Q_image (Q_seconds p0.toNatClampNeg) r9 hr9) (bigV 1 hts k5_62 k5_64 ks_Q_become0 k1_9 k5_65 rfl rfl hd_Q_become0 ⟨Nat.le_of_ble_eq_true rfl, Nat.le_of_ble_eq_true rfl⟩) (rd_preV hK hP [0, 12] rfl 0 rfl rfl rfl) rfl rfl hl.1 rfl (lv_room (Nat.le_of_ble_eq_true rfl)) d_Q_become_78 ⟨Nat.le_of_ble_eq_true rfl, Nat.le_of_ble_eq_true rfl⟩) ?_
      refine lv_aload_n hx hb d_Q_become_81 rfl (lv_at hl 0 rfl) ?_
      refine lv_aload_n hx hb d_Q_become_82 rfl (lv_at hl 0 rfl) ?_
      refine va_get (D := D) (ci := 7) (v := .ref aQ_thirds) (C := RR_Q) (T := FF_Q) (N := 41) hx hb hts kin_Q hown hK.1 hP 0 rfl rfl 5 (by decide) (hts _ k4_72) (fun _ h9 => h9) rfl d_Q_become_83 ?_
      refine lv_iload_n hx hb d_Q_become_86 rfl (lv_at hl 1 rfl) ?_
      obtain ⟨h10, hf⟩ := of_gd hf
      refine va_iald hx hb hK.1 hP 5 0 rfl rfl (ixb_in h10) d_Q_become_87 ?_
      obtain ⟨r11, hr11, hf⟩ := of_bd hf
      refine rd_call (va_runV (As := [.int (Q_thirds p0.toNatClampNeg)]) (rest := [.int r9, .int r7, .int (Q_which p0.toNatClampNeg), .int (0 : Int32), .ref aQ]) ⟨hx, hb, hml, hown, hts⟩ (c_Q_become0 l D cI cJ cZ aQ aQ_kinds aQ_which aQ_firsts aQ_seconds aQ_thirds aQ_nexts aQ_heads aQ_names aQ_variables aQ_holes aQ_sizes aQ_places aQ_conclusions aQ_premises aQ_counts aQ_hitOf aQ_hitOne aQ_hitTwo aQ_hitTerms aQ_image aQ_bound aQ_waits aQ_waitsFor aQ_seen aQ_goals aQ_steps aQ_looked aQ_under aQ_taken aQ_news aQ_order aQ_there aQ_back Q_thrown Q_all Q_statements Q_hitKind Q_hits Q_tries Q_takenAll Q_takenFirst Q_image (Q_thirds p0.toNatClampNeg) r11 hr11) (bigV 1 hts k5_62 k5_64 ks_Q_become0 k1_9 k5_65 rfl rfl hd_Q_become0 ⟨Nat.le_of_ble_eq_true rfl, Nat.le_of_ble_eq_true rfl⟩) (rd_preV hK hP [0, 12] rfl 0 rfl rfl rfl) rfl rfl hl.1 rfl (lv_room (Nat.le_of_ble_eq_true rfl)) d_Q_become_88 ⟨Nat.le_of_ble_eq_true rfl, Nat.le_of_ble_eq_true rfl⟩) ?_
      refine lv_iload_n hx hb d_Q_become_91 rfl (lv_at hl 2 rfl) ?_
      obtain ⟨r12, hr12, hf⟩ := of_bd hf
      refine wr_call (ws' := (wv_59 cI cJ cZ aQ aQ_kinds aQ_which aQ_firsts aQ_seconds aQ_thirds aQ_nexts aQ_heads aQ_names aQ_variables aQ_holes aQ_sizes aQ_places aQ_conclusions aQ_premises aQ_counts aQ_hitOf aQ_hitOne aQ_hitTwo aQ_hitTerms aQ_image aQ_bound aQ_waits aQ_waitsFor aQ_seen aQ_goals aQ_steps aQ_looked aQ_under aQ_taken aQ_news aQ_order aQ_there aQ_back Q_thrown r12.2.1 Q_statements Q_hitKind Q_hits Q_tries Q_takenAll Q_takenFirst r12.2.2.1 r12.2.2.2.1 r12.2.2.2.2.1 r12.2.2.2.2.2.1 r12.2.2.2.2.2.2.1 r12.2.2.2.2.2.2.2.1 r12.2.2.2.2.2.2.2.2.1 r12.2.2.2.2.2.2.2.2.2.1 r12.2.2.2.2.2.2.2.2.2.2.1 r12.2.2.2.2.2.2.2.2.2.2.2.1 r12.2.2.2.2.2.2.2.2.2.2.2.2 Q_image Q_bound)) (va_runV (As := [.int (0 : Int32), .int (Q_which p0.toNatClampNeg), .int r7, .int r9, .int r11, .int p1]) (rest := []) ⟨hx, hb, hml, hown, hts⟩ (c_Q_make l D cI cJ cZ aQ aQ_kinds aQ_which aQ_firsts aQ_seconds aQ_thirds aQ_nexts aQ_heads aQ_names aQ_variables aQ_holes aQ_sizes aQ_places aQ_conclusions aQ_premises aQ_counts aQ_hitOf aQ_hitOne aQ_hitTwo aQ_hitTerms aQ_image aQ_bound aQ_waits aQ_waitsFor aQ_seen aQ_goals aQ_steps aQ_looked aQ_under aQ_taken aQ_news aQ_order aQ_there aQ_back _ Q_thrown Q_all Q_statements Q_hitKind Q_hits Q_tries Q_takenAll Q_takenFirst Q_kinds Q_which Q_firsts Q_seconds Q_thirds Q_nexts Q_heads Q_names Q_variables Q_holes Q_sizes (0 : Int32) (Q_which p0.toNatClampNeg) r7 r9 r11 p1 r12 hr12) (bigV 6 hts k4_207 k4_209 ks_Q_make k1_9 k4_210 rfl rfl hd_Q_make ⟨Nat.le_of_ble_eq_true rfl, Nat.le_of_ble_eq_true rfl⟩) (wr_preV hK hP hD [0, 1, 2, 3, 4, 5, 6, 7, 8, 9, 10, 11] rfl (by decide) rfl 0 rfl rfl rfl) rfl rfl hl.1 rfl (lv_room (Nat.le_of_ble_eq_true rfl)) d_Q_become_92 ⟨Nat.le_of_ble_eq_true rfl, Nat.le_of_ble_eq_true rfl⟩) hP hD hS hA [0, 1, 2, 3, 4, 5, 6, 7, 8, 9, 10, 11] [12, 13] rfl rfl (by decide) (by decide) [2, 3, 4, 5, 6, 7, 8, 9, 10, 11, 12, 13, 0, 1] (by decide) rfl (fun H locs hP hD hS => ?_)
      obtain rfl := Option.some.inj hf
      exact W.iret (v := r12.1) hx hb hr (fun t ht hW => ⟨rfl, by rw [ht]; exact hP, hD, hS.F ht⟩) hS.2.2 d_Q_become_95
    · have hf := ite_t c4 hf
      refine lv_iload_n hx hb d_Q_become_51 rfl (lv_at hl 1 rfl) ?_
      obtain rfl := Option.some.inj hf
      exact W.iret (v := p0) hx hb hr (fun t ht hW => ⟨rfl, by rw [ht]; exact hP, hD, hS.F ht⟩) hS.2.2 d_Q_become_52
  · have hf := ite_t c2 hf
    refine lv_aload_n hx hb d_Q_become_10 rfl (lv_at hl 0 rfl) ?_
    refine va_get (D := D) (ci := 7) (v := .ref aQ_bound) (C := RR_Q) (T := FF_Q) (N := 41) hx hb hts kin_Q hown hK.1 hP 0 rfl rfl 25 (by decide) (hts _ k4_92) (fun _ h9 => h9) rfl d_Q_become_11 ?_
    refine lv_aload_n hx hb d_Q_become_14 rfl (lv_at hl 0 rfl) ?_
    refine va_get (D := D) (ci := 7) (v := .ref aQ_which) (C := RR_Q) (T := FF_Q) (N := 41) hx hb hts kin_Q hown hK.1 hP 0 rfl rfl 2 (by decide) (hts _ k4_69) (fun _ h9 => h9) rfl d_Q_become_15 ?_
    refine lv_iload_n hx hb d_Q_become_18 rfl (lv_at hl 1 rfl) ?_
    obtain ⟨h13, hf⟩ := of_gd hf
    refine va_iald hx hb hK.1 hP 2 0 rfl rfl (ixb_in h13) d_Q_become_19 ?_
    obtain ⟨h14, hf⟩ := of_gd hf
    refine va_iald hx hb hK.1 hP 13 0 rfl rfl (ixb_in h14) d_Q_become_20 ?_
    refine lv_iconst (v := -1) hx hb d_Q_become_21 (by decide) ?_
    refine lv_icmp_ne (tgt := 29) hx hb d_Q_become_22 (by decide) (fun c15 => ?_) (fun c15 => ?_)
    · have hf := ite_f c15 hf
      refine lv_aload_n hx hb d_Q_become_29 rfl (lv_at hl 0 rfl) ?_
      refine va_get (D := D) (ci := 7) (v := .ref aQ_bound) (C := RR_Q) (T := FF_Q) (N := 41) hx hb hts kin_Q hown hK.1 hP 0 rfl rfl 25 (by decide) (hts _ k4_92) (fun _ h9 => h9) rfl d_Q_become_30 ?_
      refine lv_aload_n hx hb d_Q_become_33 rfl (lv_at hl 0 rfl) ?_
      refine va_get (D := D) (ci := 7) (v := .ref aQ_which) (C := RR_Q) (T := FF_Q) (N := 41) hx hb hts kin_Q hown hK.1 hP 0 rfl rfl 2 (by decide) (hts _ k4_69) (fun _ h9 => h9) rfl d_Q_become_34 ?_
      refine lv_iload_n hx hb d_Q_become_37 rfl (lv_at hl 1 rfl) ?_
      obtain ⟨h16, hf⟩ := of_gd hf
      refine va_iald hx hb hK.1 hP 2 0 rfl rfl (ixb_in h16) d_Q_become_38 ?_
      obtain ⟨h17, hf⟩ := of_gd hf
      refine va_iald hx hb hK.1 hP 13 0 rfl rfl (ixb_in h17) d_Q_become_39 ?_
      obtain rfl := Option.some.inj hf
      exact W.iret (v := Q_bound (Q_which p0.toNatClampNeg).toNatClampNeg) hx hb hr (fun t ht hW => ⟨rfl, by rw [ht]; exact hP, hD, hS.F ht⟩) hS.2.2 d_Q_become_40
    · have hf := ite_t c15 hf
      refine lv_iload_n hx hb d_Q_become_25 rfl (lv_at hl 1 rfl) ?_
      refine lv_goto (tgt := 40) hx hb d_Q_become_26 (by decide) ?_
      obtain rfl := Option.some.inj hf
      exact W.iret (v := p0) hx hb hr (fun t ht hW => ⟨rfl, by rw [ht]; exact hP, hD, hS.F ht⟩) hS.2.2 d_Q_become_40
def f_Q_put_L50 (Q_bound : (Nat → Int32)) (K30 : Int32 → (Nat → Int32) → (Nat → Int32) → (Nat → Int32) → (Nat → Int32) → (Nat → Int32) → (Nat → Int32) → (Nat → Int32) → (Nat → Int32) → (Nat → Int32) → (Nat → Int32) → (Nat → Int32) → (Nat → Int32) → (Nat → Int32) → Int32 → Int32 → Int32 → Option (Int32 × Int32 × (Nat → Int32) × (Nat → Int32) × (Nat → Int32) × (Nat → Int32) × (Nat → Int32) × (Nat → Int32) × (Nat → Int32) × (Nat → Int32) × (Nat → Int32) × (Nat → Int32) × (Nat → Int32) × (Nat → Int32) × (Nat → Int32))) : Nat → Int32 → (Nat → Int32) → (Nat → Int32) → (Nat → Int32) → (Nat → Int32) → (Nat → Int32) → (Nat → Int32) → (Nat → Int32) → (Nat → Int32) → (Nat → Int32) → (Nat → Int32) → (Nat → Int32) → (Nat → Int32) → (Nat → Int32) → Int32 → Int32 → Int32 → Int32 → Int32 → Int32 → Option (Int32 × Int32 × (Nat → Int32) × (Nat → Int32) × (Nat → Int32) × (Nat → Int32) × (Nat → Int32) × (Nat → Int32) × (Nat → Int32) × (Nat → Int32) × (Nat → Int32) × (Nat → Int32) × (Nat → Int32) × (Nat → Int32) × (Nat → Int32))
  | 0, _, _, _, _, _, _, _, _, _, _, _, _, _, _, _, _, _, _, _, _ => none
  | n + 1, Q_all_50, Q_kinds_50, Q_which_50, Q_firsts_50, Q_seconds_50, Q_thirds_50, Q_nexts_50, Q_heads_50, Q_names_50, Q_variables_50, Q_holes_50, Q_sizes_50, Q_image_50, Q_waits_50, x1_50, x2_50, x3_50, x4_50, x5_50, x6_50 =>
    if x6_50 < 0 then
      if x5_50 = (-1 : Int32) then
        (f_Q_become Q_all_50 Q_kinds_50 Q_which_50 Q_firsts_50 Q_seconds_50 Q_thirds_50 Q_nexts_50 Q_heads_50 Q_names_50 Q_variables_50 Q_holes_50 Q_sizes_50 Q_image_50 Q_bound x4_50 x2_50).bind fun r13 =>
        gd (ixb x4_50 100) <| nm (upd Q_image_50 x4_50.toNatClampNeg r13.1) fun g15 =>
        gd (ixb x4_50 100) <|
        if (g15 x4_50.toNatClampNeg) = (-1 : Int32) then
          some ((-1 : Int32), r13.2.1, r13.2.2.1, r13.2.2.2.1, r13.2.2.2.2.1, r13.2.2.2.2.2.1, r13.2.2.2.2.2.2.1, r13.2.2.2.2.2.2.2.1, r13.2.2.2.2.2.2.2.2.1, r13.2.2.2.2.2.2.2.2.2.1, r13.2.2.2.2.2.2.2.2.2.2.1, r13.2.2.2.2.2.2.2.2.2.2.2.1, r13.2.2.2.2.2.2.2.2.2.2.2.2, g15, Q_waits_50)
        else
          nm (x3_50 + (-1 : Int32)) fun x18 =>
          K30 r13.2.1 r13.2.2.1 r13.2.2.2.1 r13.2.2.2.2.1 r13.2.2.2.2.2.1 r13.2.2.2.2.2.2.1 r13.2.2.2.2.2.2.2.1 r13.2.2.2.2.2.2.2.2.1 r13.2.2.2.2.2.2.2.2.2.1 r13.2.2.2.2.2.2.2.2.2.2.1 r13.2.2.2.2.2.2.2.2.2.2.2.1 r13.2.2.2.2.2.2.2.2.2.2.2.2 g15 Q_waits_50 x1_50 x2_50 x18
      else
        gd (ixb x3_50 400) <| nm (upd Q_waits_50 x3_50.toNatClampNeg x5_50) fun g20 =>
        nm (x3_50 + (1 : Int32)) fun x21 =>
        K30 Q_all_50 Q_kinds_50 Q_which_50 Q_firsts_50 Q_seconds_50 Q_thirds_50 Q_nexts_50 Q_heads_50 Q_names_50 Q_variables_50 Q_holes_50 Q_sizes_50 Q_image_50 g20 x1_50 x2_50 x21
    else
      (f_Q_part Q_firsts_50 Q_seconds_50 Q_thirds_50 x4_50 x6_50).bind fun r22 =>
      if r22 = (-1 : Int32) then
        nm (x6_50 + (-1 : Int32)) fun x24 =>
        (f_Q_put_L50 Q_bound K30 n) Q_all_50 Q_kinds_50 Q_which_50 Q_firsts_50 Q_seconds_50 Q_thirds_50 Q_nexts_50 Q_heads_50 Q_names_50 Q_variables_50 Q_holes_50 Q_sizes_50 Q_image_50 Q_waits_50 x1_50 x2_50 x3_50 x4_50 x5_50 x24
      else
        gd (ixb r22 100) <|
        if (Q_image_50 r22.toNatClampNeg) = (-1 : Int32) then
          nm (x6_50 + (-1 : Int32)) fun x28 =>
          (f_Q_put_L50 Q_bound K30 n) Q_all_50 Q_kinds_50 Q_which_50 Q_firsts_50 Q_seconds_50 Q_thirds_50 Q_nexts_50 Q_heads_50 Q_names_50 Q_variables_50 Q_holes_50 Q_sizes_50 Q_image_50 Q_waits_50 x1_50 x2_50 x3_50 x4_50 r22 x28
        else
          nm (x6_50 + (-1 : Int32)) fun x27 =>
          (f_Q_put_L50 Q_bound K30 n) Q_all_50 Q_kinds_50 Q_which_50 Q_firsts_50 Q_seconds_50 Q_thirds_50 Q_nexts_50 Q_heads_50 Q_names_50 Q_variables_50 Q_holes_50 Q_sizes_50 Q_image_50 Q_waits_50 x1_50 x2_50 x3_50 x4_50 x5_50 x27
def f_Q_put_L30 (Q_bound : (Nat → Int32)) : Nat → Int32 → (Nat → Int32) → (Nat → Int32) → (Nat → Int32) → (Nat → Int32) → (Nat → Int32) → (Nat → Int32) → (Nat → Int32) → (Nat → Int32) → (Nat → Int32) → (Nat → Int32) → (Nat → Int32) → (Nat → Int32) → (Nat → Int32) → Int32 → Int32 → Int32 → Option (Int32 × Int32 × (Nat → Int32) × (Nat → Int32) × (Nat → Int32) × (Nat → Int32) × (Nat → Int32) × (Nat → Int32) × (Nat → Int32) × (Nat → Int32) × (Nat → Int32) × (Nat → Int32) × (Nat → Int32) × (Nat → Int32) × (Nat → Int32))
  | 0, _, _, _, _, _, _, _, _, _, _, _, _, _, _, _, _, _ => none
  | n + 1, Q_all_30, Q_kinds_30, Q_which_30, Q_firsts_30, Q_seconds_30, Q_thirds_30, Q_nexts_30, Q_heads_30, Q_names_30, Q_variables_30, Q_holes_30, Q_sizes_30, Q_image_30, Q_waits_30, x1_30, x2_30, x3_30 =>
    if x3_30 ≤ 0 then
      gd (ixb x1_30 100) <|
      some (Q_image_30 x1_30.toNatClampNeg, Q_all_30, Q_kinds_30, Q_which_30, Q_firsts_30, Q_seconds_30, Q_thirds_30, Q_nexts_30, Q_heads_30, Q_names_30, Q_variables_30, Q_holes_30, Q_sizes_30, Q_image_30, Q_waits_30)
    else
      gd (ixb (x3_30 - (1 : Int32)) 400) <|
      nm (Q_waits_30 (x3_30 - (1 : Int32)).toNatClampNeg) fun x10 =>
      f_Q_put_L50 Q_bound (f_Q_put_L30 Q_bound n) FU Q_all_30 Q_kinds_30 Q_which_30 Q_firsts_30 Q_seconds_30 Q_thirds_30 Q_nexts_30 Q_heads_30 Q_names_30 Q_variables_30 Q_holes_30 Q_sizes_30 Q_image_30 Q_waits_30 x1_30 x2_30 x3_30 x10 (-1 : Int32) (2 : Int32)
def f_Q_put_L2 (Q_bound : (Nat → Int32)) : Nat → Int32 → (Nat → Int32) → (Nat → Int32) → (Nat → Int32) → (Nat → Int32) → (Nat → Int32) → (Nat → Int32) → (Nat → Int32) → (Nat → Int32) → (Nat → Int32) → (Nat → Int32) → (Nat → Int32) → (Nat → Int32) → (Nat → Int32) → Int32 → Int32 → Int32 → Option (Int32 × Int32 × (Nat → Int32) × (Nat → Int32) × (Nat → Int32) × (Nat → Int32) × (Nat → Int32) × (Nat → Int32) × (Nat → Int32) × (Nat → Int32) × (Nat → Int32) × (Nat → Int32) × (Nat → Int32) × (Nat → Int32) × (Nat → Int32))
  | 0, _, _, _, _, _, _, _, _, _, _, _, _, _, _, _, _, _ => none
  | n + 1, Q_all_2, Q_kinds_2, Q_which_2, Q_firsts_2, Q_seconds_2, Q_thirds_2, Q_nexts_2, Q_heads_2, Q_names_2, Q_variables_2, Q_holes_2, Q_sizes_2, Q_image_2, Q_waits_2, x1_2, x2_2, x3_2 =>
    if (100 : Int32) ≤ x3_2 then
      gd (ixb (0 : Int32) 400) <| nm (upd Q_waits_2 (0 : Int32).toNatClampNeg x1_2) fun g3 =>
      f_Q_put_L30 Q_bound FU Q_all_2 Q_kinds_2 Q_which_2 Q_firsts_2 Q_seconds_2 Q_thirds_2 Q_nexts_2 Q_heads_2 Q_names_2 Q_variables_2 Q_holes_2 Q_sizes_2 Q_image_2 g3 x1_2 x2_2 (1 : Int32)
    else
      gd (ixb x3_2 100) <| nm (upd Q_image_2 x3_2.toNatClampNeg (-1 : Int32)) fun g5 =>
      nm (x3_2 + (1 : Int32)) fun x6 =>
      (f_Q_put_L2 Q_bound n) Q_all_2 Q_kinds_2 Q_which_2 Q_firsts_2 Q_seconds_2 Q_thirds_2 Q_nexts_2 Q_heads_2 Q_names_2 Q_variables_2 Q_holes_2 Q_sizes_2 g5 Q_waits_2 x1_2 x2_2 x6
def f_Q_put (Q_all : Int32) (Q_kinds : (Nat → Int32)) (Q_which : (Nat → Int32)) (Q_firsts : (Nat → Int32)) (Q_seconds : (Nat → Int32)) (Q_thirds : (Nat → Int32)) (Q_nexts : (Nat → Int32)) (Q_heads : (Nat → Int32)) (Q_names : (Nat → Int32)) (Q_variables : (Nat → Int32)) (Q_holes : (Nat → Int32)) (Q_sizes : (Nat → Int32)) (Q_image : (Nat → Int32)) (Q_bound : (Nat → Int32)) (Q_waits : (Nat → Int32)) (p0 : Int32) (p1 : Int32) : Option (Int32 × Int32 × (Nat → Int32) × (Nat → Int32) × (Nat → Int32) × (Nat → Int32) × (Nat → Int32) × (Nat → Int32) × (Nat → Int32) × (Nat → Int32) × (Nat → Int32) × (Nat → Int32) × (Nat → Int32) × (Nat → Int32) × (Nat → Int32)) :=
  f_Q_put_L2 Q_bound FU Q_all Q_kinds Q_which Q_firsts Q_seconds Q_thirds Q_nexts Q_heads Q_names Q_variables Q_holes Q_sizes Q_image Q_waits p0 p1 (0 : Int32)
abbrev rm_Q_put : Room := { frames := 4, cells := 0, slots := 0, locals := 95 }
set_option maxHeartbeats 4000000 in
set_option maxRecDepth 100000 in
theorem c_Q_put (l : Launch) (D : va_G) (cI cJ cZ : ClassId) (aQ aQ_kinds aQ_which aQ_firsts aQ_seconds aQ_thirds aQ_nexts aQ_heads aQ_names aQ_variables aQ_holes aQ_sizes aQ_places aQ_conclusions aQ_premises aQ_counts aQ_hitOf aQ_hitOne aQ_hitTwo aQ_hitTerms aQ_image aQ_bound aQ_waits aQ_waitsFor aQ_seen aQ_goals aQ_steps aQ_looked aQ_under aQ_taken aQ_news aQ_order aQ_there aQ_back : Nat) (sz : Nat) (Q_thrown : Int32) (Q_all : Int32) (Q_statements : Int32) (Q_hitKind : Int32) (Q_hits : Int32) (Q_tries : Int32) (Q_takenAll : Int32) (Q_takenFirst : Int32) (Q_kinds : (Nat → Int32)) (Q_which : (Nat → Int32)) (Q_firsts : (Nat → Int32)) (Q_seconds : (Nat → Int32)) (Q_thirds : (Nat → Int32)) (Q_nexts : (Nat → Int32)) (Q_heads : (Nat → Int32)) (Q_names : (Nat → Int32)) (Q_variables : (Nat → Int32)) (Q_holes : (Nat → Int32)) (Q_sizes : (Nat → Int32)) (Q_image : (Nat → Int32)) (Q_bound : (Nat → Int32)) (Q_waits : (Nat → Int32)) (p0 : Int32) (p1 : Int32) (o : Int32 × Int32 × (Nat → Int32) × (Nat → Int32) × (Nat → Int32) × (Nat → Int32) × (Nat → Int32) × (Nat → Int32) × (Nat → Int32) × (Nat → Int32) × (Nat → Int32) × (Nat → Int32) × (Nat → Int32) × (Nat → Int32) × (Nat → Int32)) (hf : f_Q_put Q_all Q_kinds Q_which Q_firsts Q_seconds Q_thirds Q_nexts Q_heads Q_names Q_variables Q_holes Q_sizes Q_image Q_bound Q_waits p0 p1 = some o) : Met l y_Q_put (ws_Q_put) rm_Q_put (WPc D vwCl cI cJ cZ [.ref aQ, .int p0, .int p1] (wv_60 cI cJ cZ aQ aQ_kinds aQ_which aQ_firsts aQ_seconds aQ_thirds aQ_nexts aQ_heads aQ_names aQ_variables aQ_holes aQ_sizes aQ_places aQ_conclusions aQ_premises aQ_counts aQ_hitOf aQ_hitOne aQ_hitTwo aQ_hitTerms aQ_image aQ_bound aQ_waits aQ_waitsFor aQ_seen aQ_goals aQ_steps aQ_looked aQ_under aQ_taken aQ_news aQ_order aQ_there aQ_back Q_thrown Q_all Q_statements Q_hitKind Q_hits Q_tries Q_takenAll Q_takenFirst Q_kinds Q_which Q_firsts Q_seconds Q_thirds Q_nexts Q_heads Q_names Q_variables Q_holes Q_sizes Q_image Q_bound Q_waits) sz) (WQ D vwCl (some (.int o.1)) (wv_60 cI cJ cZ aQ aQ_kinds aQ_which aQ_firsts aQ_seconds aQ_thirds aQ_nexts aQ_heads aQ_names aQ_variables aQ_holes aQ_sizes aQ_places aQ_conclusions aQ_premises aQ_counts aQ_hitOf aQ_hitOne aQ_hitTwo aQ_hitTerms aQ_image aQ_bound aQ_waits aQ_waitsFor aQ_seen aQ_goals aQ_steps aQ_looked aQ_under aQ_taken aQ_news aQ_order aQ_there aQ_back Q_thrown o.2.1 Q_statements Q_hitKind Q_hits Q_tries Q_takenAll Q_takenFirst o.2.2.1 o.2.2.2.1 o.2.2.2.2.1 o.2.2.2.2.2.1 o.2.2.2.2.2.2.1 o.2.2.2.2.2.2.2.1 o.2.2.2.2.2.2.2.2.1 o.2.2.2.2.2.2.2.2.2.1 o.2.2.2.2.2.2.2.2.2.2.1 o.2.2.2.2.2.2.2.2.2.2.2.1 o.2.2.2.2.2.2.2.2.2.2.2.2.1 o.2.2.2.2.2.2.2.2.2.2.2.2.2.1 Q_bound o.2.2.2.2.2.2.2.2.2.2.2.2.2.2) (va_A (wv_60 cI cJ cZ aQ aQ_kinds aQ_which aQ_firsts aQ_seconds aQ_thirds aQ_nexts aQ_heads aQ_names aQ_variables aQ_holes aQ_sizes aQ_places aQ_conclusions aQ_premises aQ_counts aQ_hitOf aQ_hitOne aQ_hitTwo aQ_hitTerms aQ_image aQ_bound aQ_waits aQ_waitsFor aQ_seen aQ_goals aQ_steps aQ_looked aQ_under aQ_taken aQ_news aQ_order aQ_there aQ_back Q_thrown Q_all Q_statements Q_hitKind Q_hits Q_tries Q_takenAll Q_takenFirst Q_kinds Q_which Q_firsts Q_seconds Q_thirds Q_nexts Q_heads Q_names Q_variables Q_holes Q_sizes Q_image Q_bound Q_waits) sz)) 0 0 (va_A (wv_60 cI cJ cZ aQ aQ_kinds aQ_which aQ_firsts aQ_seconds aQ_thirds aQ_nexts aQ_heads aQ_names aQ_variables aQ_holes aQ_sizes aQ_places aQ_conclusions aQ_premises aQ_counts aQ_hitOf aQ_hitOne aQ_hitTwo aQ_hitTerms aQ_image aQ_bound aQ_waits aQ_waitsFor aQ_seen aQ_goals aQ_steps aQ_looked aQ_under aQ_taken aQ_news aQ_order aQ_there aQ_back Q_thrown Q_all Q_statements Q_hitKind Q_hits Q_tries Q_takenAll Q_takenFirst Q_kinds Q_which Q_firsts Q_seconds Q_thirds Q_nexts Q_heads Q_names Q_variables Q_holes Q_sizes Q_image Q_bound Q_waits) sz) := by
  refine Met.ofW (cc := b_Q_put) (maxL := 8) (ret := (some .int)) (by decide) rfl ?_
  intro p e s m args below meth c s₁ B hml hv
  obtain ⟨rfl, rfl, hP, hK, hD0⟩ := hv
  have hx := B.exec
  have hb := B.bytes
  have hr := B.returns
  have hts : ∀ w ∈ BG, w.before _ s = true := fun w h => atoms_spec (ws := (ws_Q_put)) B.pre w (List.mem_cons_of_mem _ h)
  have hown : s.vm.findClass RR_Q = some m.cls := findClass_of_methodNamed B.named
  have hlocks := B.notSynchronized
  have hD := hD0.self (sz := s.heap.size)
  have hA : ∀ q : Nat, s.heap.size ≤ q → va_A (wv_60 cI cJ cZ aQ aQ_kinds aQ_which aQ_firsts aQ_seconds aQ_thirds aQ_nexts aQ_heads aQ_names aQ_variables aQ_holes aQ_sizes aQ_places aQ_conclusions aQ_premises aQ_counts aQ_hitOf aQ_hitOne aQ_hitTwo aQ_hitTerms aQ_image aQ_bound aQ_waits aQ_waitsFor aQ_seen aQ_goals aQ_steps aQ_looked aQ_under aQ_taken aQ_news aQ_order aQ_there aQ_back Q_thrown Q_all Q_statements Q_hitKind Q_hits Q_tries Q_takenAll Q_takenFirst Q_kinds Q_which Q_firsts Q_seconds Q_thirds Q_nexts Q_heads Q_names Q_variables Q_holes Q_sizes Q_image Q_bound Q_waits) s.heap.size q := fun q h => Or.inr h
  have hS : va_S (va_A (wv_60 cI cJ cZ aQ aQ_kinds aQ_which aQ_firsts aQ_seconds aQ_thirds aQ_nexts aQ_heads aQ_names aQ_variables aQ_holes aQ_sizes aQ_places aQ_conclusions aQ_premises aQ_counts aQ_hitOf aQ_hitOne aQ_hitTwo aQ_hitTerms aQ_image aQ_bound aQ_waits aQ_waitsFor aQ_seen aQ_goals aQ_steps aQ_looked aQ_under aQ_taken aQ_news aQ_order aQ_there aQ_back Q_thrown Q_all Q_statements Q_hitKind Q_hits Q_tries Q_takenAll Q_takenFirst Q_kinds Q_which Q_firsts Q_seconds Q_thirds Q_nexts Q_heads Q_names Q_variables Q_holes Q_sizes Q_image Q_bound Q_waits) s.heap.size) s.heap s.heap [] := va_S.rf
  generalize va_A (wv_60 cI cJ cZ aQ aQ_kinds aQ_which aQ_firsts aQ_seconds aQ_thirds aQ_nexts aQ_heads aQ_names aQ_variables aQ_holes aQ_sizes aQ_places aQ_conclusions aQ_premises aQ_counts aQ_hitOf aQ_hitOne aQ_hitTwo aQ_hitTerms aQ_image aQ_bound aQ_waits aQ_waitsFor aQ_seen aQ_goals aQ_steps aQ_looked aQ_under aQ_taken aQ_news aQ_order aQ_there aQ_back Q_thrown Q_all Q_statements Q_hitKind Q_hits Q_tries Q_takenAll Q_takenFirst Q_kinds Q_which Q_firsts Q_seconds Q_thirds Q_nexts Q_heads Q_names Q_variables Q_holes Q_sizes Q_image Q_bound Q_waits) s.heap.size = A at hD hA hS ⊢
  have hl := lv_entry ([.ref aQ, .int p0, .int p1]) (n := 8) (Nat.le_of_ble_eq_true rfl)
  rw [lg_entry_eq]
  generalize (lg_sl ([.ref aQ, .int p0, .int p1]) ++ List.replicate (8 - (lg_sl ([.ref aQ, .int p0, .int p1])).length) Slot.unset).toArray = ls at hl ⊢
  have hl : lv_has ls 8 [(0, .ref aQ), (1, .int p0), (2, .int p1)] := hl
  have hL30 : ∀ (n30 : Nat), ∀ (Q_all_30 : Int32) (Q_kinds_30 : (Nat → Int32)) (Q_which_30 : (Nat → Int32)) (Q_firsts_30 : (Nat → Int32)) (Q_seconds_30 : (Nat → Int32)) (Q_thirds_30 : (Nat → Int32)) (Q_nexts_30 : (Nat → Int32)) (Q_heads_30 : (Nat → Int32)) (Q_names_30 : (Nat → Int32)) (Q_variables_30 : (Nat → Int32)) (Q_holes_30 : (Nat → Int32)) (Q_sizes_30 : (Nat → Int32)) (Q_image_30 : (Nat → Int32)) (Q_waits_30 : (Nat → Int32)) (x1_30 : Int32) (x2_30 : Int32) (x3_30 : Int32), ∀ (H : Heap) (locs : List Loc), va_P D vwCl (wv_60 cI cJ cZ aQ aQ_kinds aQ_which aQ_firsts aQ_seconds aQ_thirds aQ_nexts aQ_heads aQ_names aQ_variables aQ_holes aQ_sizes aQ_places aQ_conclusions aQ_premises aQ_counts aQ_hitOf aQ_hitOne aQ_hitTwo aQ_hitTerms aQ_image aQ_bound aQ_waits aQ_waitsFor aQ_seen aQ_goals aQ_steps aQ_looked aQ_under aQ_taken aQ_news aQ_order aQ_there aQ_back Q_thrown Q_all_30 Q_statements Q_hitKind Q_hits Q_tries Q_takenAll Q_takenFirst Q_kinds_30 Q_which_30 Q_firsts_30 Q_seconds_30 Q_thirds_30 Q_nexts_30 Q_heads_30 Q_names_30 Q_variables_30 Q_holes_30 Q_sizes_30 Q_image_30 Q_bound Q_waits_30) H → va_D A (wv_60 cI cJ cZ aQ aQ_kinds aQ_which aQ_firsts aQ_seconds aQ_thirds aQ_nexts aQ_heads aQ_names aQ_variables aQ_holes aQ_sizes aQ_places aQ_conclusions aQ_premises aQ_counts aQ_hitOf aQ_hitOne aQ_hitTwo aQ_hitTerms aQ_image aQ_bound aQ_waits aQ_waitsFor aQ_seen aQ_goals aQ_steps aQ_looked aQ_under aQ_taken aQ_news aQ_order aQ_there aQ_back Q_thrown Q_all_30 Q_statements Q_hitKind Q_hits Q_tries Q_takenAll Q_takenFirst Q_kinds_30 Q_which_30 Q_firsts_30 Q_seconds_30 Q_thirds_30 Q_nexts_30 Q_heads_30 Q_names_30 Q_variables_30 Q_holes_30 Q_sizes_30 Q_image_30 Q_bound Q_waits_30) → va_S A s.heap H locs → ∀ (ls : Array Slot), lv_has ls 8 [(0, .ref aQ), (1, .int x1_30), (2, .int x2_30), (3, .int x3_30)] → f_Q_put_L30 Q_bound n30 Q_all_30 Q_kinds_30 Q_which_30 Q_firsts_30 Q_seconds_30 Q_thirds_30 Q_nexts_30 Q_heads_30 Q_names_30 Q_variables_30 Q_holes_30 Q_sizes_30 Q_image_30 Q_waits_30 x1_30 x2_30 x3_30 = some o → W p l e (headSpec (ws_Q_put) rm_Q_put).room s m ([.ref aQ, .int p0, .int p1] : List Value).toArray below meth c H locs 0 0 (MQ below (WQ D vwCl (some (.int o.1)) (wv_60 cI cJ cZ aQ aQ_kinds aQ_which aQ_firsts aQ_seconds aQ_thirds aQ_nexts aQ_heads aQ_names aQ_variables aQ_holes aQ_sizes aQ_places aQ_conclusions aQ_premises aQ_counts aQ_hitOf aQ_hitOne aQ_hitTwo aQ_hitTerms aQ_image aQ_bound aQ_waits aQ_waitsFor aQ_seen aQ_goals aQ_steps aQ_looked aQ_under aQ_taken aQ_news aQ_order aQ_there aQ_back Q_thrown o.2.1 Q_statements Q_hitKind Q_hits Q_tries Q_takenAll Q_takenFirst o.2.2.1 o.2.2.2.1 o.2.2.2.2.1 o.2.2.2.2.2.1 o.2.2.2.2.2.2.1 o.2.2.2.2.2.2.2.1 o.2.2.2.2.2.2.2.2.1 o.2.2.2.2.2.2.2.2.2.1 o.2.2.2.2.2.2.2.2.2.2.1 o.2.2.2.2.2.2.2.2.2.2.2.1 o.2.2.2.2.2.2.2.2.2.2.2.2.1 o.2.2.2.2.2.2.2.2.2.2.2.2.2.1 Q_bound o.2.2.2.2.2.2.2.2.2.2.2.2.2.2) A) ([.ref aQ, .int p0, .int p1] : List Value).toArray s 0 0 A) (F0 m 30 ls []) := by
    intro n30
    induction n30 with
    | zero =>
      intro Q_all_30 Q_kinds_30 Q_which_30 Q_firsts_30 Q_seconds_30 Q_thirds_30 Q_nexts_30 Q_heads_30 Q_names_30 Q_variables_30 Q_holes_30 Q_sizes_30 Q_image_30 Q_waits_30 x1_30 x2_30 x3_30 H locs hP hD hS ls hl hf
      rw [f_Q_put_L30] at hf
      cases hf
    | succ n30 ih30 =>
      have hL50 : ∀ (n50 : Nat), ∀ (Q_all_50 : Int32) (Q_kinds_50 : (Nat → Int32)) (Q_which_50 : (Nat → Int32)) (Q_firsts_50 : (Nat → Int32)) (Q_seconds_50 : (Nat → Int32)) (Q_thirds_50 : (Nat → Int32)) (Q_nexts_50 : (Nat → Int32)) (Q_heads_50 : (Nat → Int32)) (Q_names_50 : (Nat → Int32)) (Q_variables_50 : (Nat → Int32)) (Q_holes_50 : (Nat → Int32)) (Q_sizes_50 : (Nat → Int32)) (Q_image_50 : (Nat → Int32)) (Q_waits_50 : (Nat → Int32)) (x1_50 : Int32) (x2_50 : Int32) (x3_50 : Int32) (x4_50 : Int32) (x5_50 : Int32) (x6_50 : Int32), ∀ (H : Heap) (locs : List Loc), va_P D vwCl (wv_60 cI cJ cZ aQ aQ_kinds aQ_which aQ_firsts aQ_seconds aQ_thirds aQ_nexts aQ_heads aQ_names aQ_variables aQ_holes aQ_sizes aQ_places aQ_conclusions aQ_premises aQ_counts aQ_hitOf aQ_hitOne aQ_hitTwo aQ_hitTerms aQ_image aQ_bound aQ_waits aQ_waitsFor aQ_seen aQ_goals aQ_steps aQ_looked aQ_under aQ_taken aQ_news aQ_order aQ_there aQ_back Q_thrown Q_all_50 Q_statements Q_hitKind Q_hits Q_tries Q_takenAll Q_takenFirst Q_kinds_50 Q_which_50 Q_firsts_50 Q_seconds_50 Q_thirds_50 Q_nexts_50 Q_heads_50 Q_names_50 Q_variables_50 Q_holes_50 Q_sizes_50 Q_image_50 Q_bound Q_waits_50) H → va_D A (wv_60 cI cJ cZ aQ aQ_kinds aQ_which aQ_firsts aQ_seconds aQ_thirds aQ_nexts aQ_heads aQ_names aQ_variables aQ_holes aQ_sizes aQ_places aQ_conclusions aQ_premises aQ_counts aQ_hitOf aQ_hitOne aQ_hitTwo aQ_hitTerms aQ_image aQ_bound aQ_waits aQ_waitsFor aQ_seen aQ_goals aQ_steps aQ_looked aQ_under aQ_taken aQ_news aQ_order aQ_there aQ_back Q_thrown Q_all_50 Q_statements Q_hitKind Q_hits Q_tries Q_takenAll Q_takenFirst Q_kinds_50 Q_which_50 Q_firsts_50 Q_seconds_50 Q_thirds_50 Q_nexts_50 Q_heads_50 Q_names_50 Q_variables_50 Q_holes_50 Q_sizes_50 Q_image_50 Q_bound Q_waits_50) → va_S A s.heap H locs → ∀ (ls : Array Slot), lv_has ls 8 [(0, .ref aQ), (1, .int x1_50), (2, .int x2_50), (3, .int x3_50), (4, .int x4_50), (5, .int x5_50), (6, .int x6_50)] → f_Q_put_L50 Q_bound (f_Q_put_L30 Q_bound n30) n50 Q_all_50 Q_kinds_50 Q_which_50 Q_firsts_50 Q_seconds_50 Q_thirds_50 Q_nexts_50 Q_heads_50 Q_names_50 Q_variables_50 Q_holes_50 Q_sizes_50 Q_image_50 Q_waits_50 x1_50 x2_50 x3_50 x4_50 x5_50 x6_50 = some o → W p l e (headSpec (ws_Q_put) rm_Q_put).room s m ([.ref aQ, .int p0, .int p1] : List Value).toArray below meth c H locs 0 0 (MQ below (WQ D vwCl (some (.int o.1)) (wv_60 cI cJ cZ aQ aQ_kinds aQ_which aQ_firsts aQ_seconds aQ_thirds aQ_nexts aQ_heads aQ_names aQ_variables aQ_holes aQ_sizes aQ_places aQ_conclusions aQ_premises aQ_counts aQ_hitOf aQ_hitOne aQ_hitTwo aQ_hitTerms aQ_image aQ_bound aQ_waits aQ_waitsFor aQ_seen aQ_goals aQ_steps aQ_looked aQ_under aQ_taken aQ_news aQ_order aQ_there aQ_back Q_thrown o.2.1 Q_statements Q_hitKind Q_hits Q_tries Q_takenAll Q_takenFirst o.2.2.1 o.2.2.2.1 o.2.2.2.2.1 o.2.2.2.2.2.1 o.2.2.2.2.2.2.1 o.2.2.2.2.2.2.2.1 o.2.2.2.2.2.2.2.2.1 o.2.2.2.2.2.2.2.2.2.1 o.2.2.2.2.2.2.2.2.2.2.1 o.2.2.2.2.2.2.2.2.2.2.2.1 o.2.2.2.2.2.2.2.2.2.2.2.2.1 o.2.2.2.2.2.2.2.2.2.2.2.2.2.1 Q_bound o.2.2.2.2.2.2.2.2.2.2.2.2.2.2) A) ([.ref aQ, .int p0, .int p1] : List Value).toArray s 0 0 A) (F0 m 50 ls []) := by
        intro n50
        induction n50 with
        | zero =>
          intro Q_all_50 Q_kinds_50 Q_which_50 Q_firsts_50 Q_seconds_50 Q_thirds_50 Q_nexts_50 Q_heads_50 Q_names_50 Q_variables_50 Q_holes_50 Q_sizes_50 Q_image_50 Q_waits_50 x1_50 x2_50 x3_50 x4_50 x5_50 x6_50 H locs hP hD hS ls hl hf
          rw [f_Q_put_L50] at hf
          cases hf
        | succ n50 ih50 =>
          intro Q_all_50 Q_kinds_50 Q_which_50 Q_firsts_50 Q_seconds_50 Q_thirds_50 Q_nexts_50 Q_heads_50 Q_names_50 Q_variables_50 Q_holes_50 Q_sizes_50 Q_image_50 Q_waits_50 x1_50 x2_50 x3_50 x4_50 x5_50 x6_50 H locs hP hD hS ls hl hf
          rw [f_Q_put_L50] at hf
          refine lv_iload hx hb d_Q_put_50 (lv_at hl 6 rfl) ?_
          refine lv_if_lt (tgt := 97) hx hb d_Q_put_52 (by decide) (fun c11 => ?_) (fun c11 => ?_)
          · have hf := ite_t c11 hf
            refine lv_iload hx hb d_Q_put_97 (lv_at hl 5 rfl) ?_
            refine lv_iconst (v := -1) hx hb d_Q_put_99 (by decide) ?_
            refine lv_icmp_eq (tgt := 117) hx hb d_Q_put_100 (by decide) (fun c12 => ?_) (fun c12 => ?_)
            · have hf := ite_t c12 hf
              refine lv_aload_n hx hb d_Q_put_117 rfl (lv_at hl 0 rfl) ?_
              refine va_get (D := D) (ci := 7) (v := .ref aQ_image) (C := RR_Q) (T := FF_Q) (N := 41) hx hb hts kin_Q hown hK.1 hP 0 rfl rfl 24 (by decide) (hts _ k4_91) (fun _ h9 => h9) rfl d_Q_put_118 ?_
              refine lv_iload hx hb d_Q_put_121 (lv_at hl 4 rfl) ?_
              refine lv_aload_n hx hb d_Q_put_123 rfl (lv_at hl 0 rfl) ?_
              refine lv_iload hx hb d_Q_put_124 (lv_at hl 4 rfl) ?_
              refine lv_iload_n hx hb d_Q_put_126 rfl (lv_at hl 2 rfl) ?_
              obtain ⟨r13, hr13, hf⟩ := of_bd hf
              refine wr_call (ws' := (wv_60 cI cJ cZ aQ aQ_kinds aQ_which aQ_firsts aQ_seconds aQ_thirds aQ_nexts aQ_heads aQ_names aQ_variables aQ_holes aQ_sizes aQ_places aQ_conclusions aQ_premises aQ_counts aQ_hitOf aQ_hitOne aQ_hitTwo aQ_hitTerms aQ_image aQ_bound aQ_waits aQ_waitsFor aQ_seen aQ_goals aQ_steps aQ_looked aQ_under aQ_taken aQ_news aQ_order aQ_there aQ_back Q_thrown r13.2.1 Q_statements Q_hitKind Q_hits Q_tries Q_takenAll Q_takenFirst r13.2.2.1 r13.2.2.2.1 r13.2.2.2.2.1 r13.2.2.2.2.2.1 r13.2.2.2.2.2.2.1 r13.2.2.2.2.2.2.2.1 r13.2.2.2.2.2.2.2.2.1 r13.2.2.2.2.2.2.2.2.2.1 r13.2.2.2.2.2.2.2.2.2.2.1 r13.2.2.2.2.2.2.2.2.2.2.2.1 r13.2.2.2.2.2.2.2.2.2.2.2.2 Q_image_50 Q_bound Q_waits_50)) (va_runV (As := [.int x4_50, .int x2_50]) (rest := [.int x4_50, .ref aQ_image]) ⟨hx, hb, hml, hown, hts⟩ (c_Q_become l D cI cJ cZ aQ aQ_kinds aQ_which aQ_firsts aQ_seconds aQ_thirds aQ_nexts aQ_heads aQ_names aQ_variables aQ_holes aQ_sizes aQ_places aQ_conclusions aQ_premises aQ_counts aQ_hitOf aQ_hitOne aQ_hitTwo aQ_hitTerms aQ_image aQ_bound aQ_waits aQ_waitsFor aQ_seen aQ_goals aQ_steps aQ_looked aQ_under aQ_taken aQ_news aQ_order aQ_there aQ_back _ Q_thrown Q_all_50 Q_statements Q_hitKind Q_hits Q_tries Q_takenAll Q_takenFirst Q_kinds_50 Q_which_50 Q_firsts_50 Q_seconds_50 Q_thirds_50 Q_nexts_50 Q_heads_50 Q_names_50 Q_variables_50 Q_holes_50 Q_sizes_50 Q_image_50 Q_bound x4_50 x2_50 r13 hr13) (bigV 2 hts k5_58 k5_60 ks_Q_become k1_9 k5_61 rfl rfl hd_Q_become ⟨Nat.le_of_ble_eq_true rfl, Nat.le_of_ble_eq_true rfl⟩) (wr_preV hK hP hD [0, 1, 2, 3, 4, 5, 6, 7, 8, 9, 10, 11, 12, 13] rfl (by decide) rfl 0 rfl rfl rfl) rfl rfl hl.1 rfl (lv_room (Nat.le_of_ble_eq_true rfl)) d_Q_put_127 ⟨Nat.le_of_ble_eq_true rfl, Nat.le_of_ble_eq_true rfl⟩) hP hD hS hA [0, 1, 2, 3, 4, 5, 6, 7, 8, 9, 10, 11, 12, 13] [14] rfl rfl (by decide) (by decide) [1, 2, 3, 4, 5, 6, 7, 8, 9, 10, 11, 12, 13, 14, 0] (by decide) rfl (fun H locs hP hD hS => ?_)
              obtain ⟨h14, hf⟩ := of_gd hf
              obtain ⟨g15, eg15⟩ : ∃ y : Nat → Int32, y = upd Q_image_50 x4_50.toNatClampNeg r13.1 := ⟨_, rfl⟩
              have hf := of_nm eg15 hf
              refine va_iast hx hb hK.1 hP hD hS 12 0 rfl rfl (ixb_in h14) d_Q_put_130 (fun H locs hP hD hS => ?_)
              rw [← eg15] at hP hD
              have hP : va_P D vwCl (wv_60 cI cJ cZ aQ aQ_kinds aQ_which aQ_firsts aQ_seconds aQ_thirds aQ_nexts aQ_heads aQ_names aQ_variables aQ_holes aQ_sizes aQ_places aQ_conclusions aQ_premises aQ_counts aQ_hitOf aQ_hitOne aQ_hitTwo aQ_hitTerms aQ_image aQ_bound aQ_waits aQ_waitsFor aQ_seen aQ_goals aQ_steps aQ_looked aQ_under aQ_taken aQ_news aQ_order aQ_there aQ_back Q_thrown r13.2.1 Q_statements Q_hitKind Q_hits Q_tries Q_takenAll Q_takenFirst r13.2.2.1 r13.2.2.2.1 r13.2.2.2.2.1 r13.2.2.2.2.2.1 r13.2.2.2.2.2.2.1 r13.2.2.2.2.2.2.2.1 r13.2.2.2.2.2.2.2.2.1 r13.2.2.2.2.2.2.2.2.2.1 r13.2.2.2.2.2.2.2.2.2.2.1 r13.2.2.2.2.2.2.2.2.2.2.2.1 r13.2.2.2.2.2.2.2.2.2.2.2.2 g15 Q_bound Q_waits_50) H := hP
              have hD : va_D A (wv_60 cI cJ cZ aQ aQ_kinds aQ_which aQ_firsts aQ_seconds aQ_thirds aQ_nexts aQ_heads aQ_names aQ_variables aQ_holes aQ_sizes aQ_places aQ_conclusions aQ_premises aQ_counts aQ_hitOf aQ_hitOne aQ_hitTwo aQ_hitTerms aQ_image aQ_bound aQ_waits aQ_waitsFor aQ_seen aQ_goals aQ_steps aQ_looked aQ_under aQ_taken aQ_news aQ_order aQ_there aQ_back Q_thrown r13.2.1 Q_statements Q_hitKind Q_hits Q_tries Q_takenAll Q_takenFirst r13.2.2.1 r13.2.2.2.1 r13.2.2.2.2.1 r13.2.2.2.2.2.1 r13.2.2.2.2.2.2.1 r13.2.2.2.2.2.2.2.1 r13.2.2.2.2.2.2.2.2.1 r13.2.2.2.2.2.2.2.2.2.1 r13.2.2.2.2.2.2.2.2.2.2.1 r13.2.2.2.2.2.2.2.2.2.2.2.1 r13.2.2.2.2.2.2.2.2.2.2.2.2 g15 Q_bound Q_waits_50) := hD
              refine lv_aload_n hx hb d_Q_put_131 rfl (lv_at hl 0 rfl) ?_
              refine va_get (D := D) (ci := 7) (v := .ref aQ_image) (C := RR_Q) (T := FF_Q) (N := 41) hx hb hts kin_Q hown hK.1 hP 0 rfl rfl 24 (by decide) (hts _ k4_91) (fun _ h9 => h9) rfl d_Q_put_132 ?_
              refine lv_iload hx hb d_Q_put_135 (lv_at hl 4 rfl) ?_
              obtain ⟨h16, hf⟩ := of_gd hf
              refine va_iald hx hb hK.1 hP 12 0 rfl rfl (ixb_in h16) d_Q_put_137 ?_
              refine lv_iconst (v := -1) hx hb d_Q_put_138 (by decide) ?_
              refine lv_icmp_ne (tgt := 144) hx hb d_Q_put_139 (by decide) (fun c17 => ?_) (fun c17 => ?_)
              · have hf := ite_f c17 hf
                obtain ⟨x18, ex18⟩ : ∃ y : Int32, y = x3_50 + (-1 : Int32) := ⟨_, rfl⟩
                refine lv_iinc (v := x18) (lv' := [(3, .int x18), (0, .ref aQ), (1, .int x1_50), (2, .int x2_50), (4, .int x4_50), (5, .int x5_50), (6, .int x6_50)]) hx hb d_Q_put_144 hl (k := 3) rfl (by rw [ex18]; rfl) (by decide) rfl (fun ls hl => ?_)
                have hf := of_nm ex18 hf
                refine lv_goto (tgt := 30) hx hb d_Q_put_147 (by decide) ?_
                exact ih30 _ _ _ _ _ _ _ _ _ _ _ _ _ _ _ _ _ _ _ hP hD hS _ (lv_sub hl [1, 2, 3, 0] rfl) hf
              · have hf := ite_t c17 hf
                refine lv_iconst (v := -1) hx hb d_Q_put_142 (by decide) ?_
                obtain rfl := Option.some.inj hf
                exact W.iret (v := (-1 : Int32)) hx hb hr (fun t ht hW => ⟨rfl, by rw [ht]; exact hP, hD, hS.F ht⟩) hS.2.2 d_Q_put_143
            · have hf := ite_f c12 hf
              refine lv_aload_n hx hb d_Q_put_103 rfl (lv_at hl 0 rfl) ?_
              refine va_get (D := D) (ci := 7) (v := .ref aQ_waits) (C := RR_Q) (T := FF_Q) (N := 41) hx hb hts kin_Q hown hK.1 hP 0 rfl rfl 26 (by decide) (hts _ k4_93) (fun _ h9 => h9) rfl d_Q_put_104 ?_
              refine lv_iload_n hx hb d_Q_put_107 rfl (lv_at hl 3 rfl) ?_
              refine lv_iload hx hb d_Q_put_108 (lv_at hl 5 rfl) ?_
              obtain ⟨h19, hf⟩ := of_gd hf
              obtain ⟨g20, eg20⟩ : ∃ y : Nat → Int32, y = upd Q_waits_50 x3_50.toNatClampNeg x5_50 := ⟨_, rfl⟩
              have hf := of_nm eg20 hf
              refine va_iast hx hb hK.1 hP hD hS 14 0 rfl rfl (ixb_in h19) d_Q_put_110 (fun H locs hP hD hS => ?_)
              rw [← eg20] at hP hD
              have hP : va_P D vwCl (wv_60 cI cJ cZ aQ aQ_kinds aQ_which aQ_firsts aQ_seconds aQ_thirds aQ_nexts aQ_heads aQ_names aQ_variables aQ_holes aQ_sizes aQ_places aQ_conclusions aQ_premises aQ_counts aQ_hitOf aQ_hitOne aQ_hitTwo aQ_hitTerms aQ_image aQ_bound aQ_waits aQ_waitsFor aQ_seen aQ_goals aQ_steps aQ_looked aQ_under aQ_taken aQ_news aQ_order aQ_there aQ_back Q_thrown Q_all_50 Q_statements Q_hitKind Q_hits Q_tries Q_takenAll Q_takenFirst Q_kinds_50 Q_which_50 Q_firsts_50 Q_seconds_50 Q_thirds_50 Q_nexts_50 Q_heads_50 Q_names_50 Q_variables_50 Q_holes_50 Q_sizes_50 Q_image_50 Q_bound g20) H := hP
              have hD : va_D A (wv_60 cI cJ cZ aQ aQ_kinds aQ_which aQ_firsts aQ_seconds aQ_thirds aQ_nexts aQ_heads aQ_names aQ_variables aQ_holes aQ_sizes aQ_places aQ_conclusions aQ_premises aQ_counts aQ_hitOf aQ_hitOne aQ_hitTwo aQ_hitTerms aQ_image aQ_bound aQ_waits aQ_waitsFor aQ_seen aQ_goals aQ_steps aQ_looked aQ_under aQ_taken aQ_news aQ_order aQ_there aQ_back Q_thrown Q_all_50 Q_statements Q_hitKind Q_hits Q_tries Q_takenAll Q_takenFirst Q_kinds_50 Q_which_50 Q_firsts_50 Q_seconds_50 Q_thirds_50 Q_nexts_50 Q_heads_50 Q_names_50 Q_variables_50 Q_holes_50 Q_sizes_50 Q_image_50 Q_bound g20) := hD
              obtain ⟨x21, ex21⟩ : ∃ y : Int32, y = x3_50 + (1 : Int32) := ⟨_, rfl⟩
              refine lv_iinc (v := x21) (lv' := [(3, .int x21), (0, .ref aQ), (1, .int x1_50), (2, .int x2_50), (4, .int x4_50), (5, .int x5_50), (6, .int x6_50)]) hx hb d_Q_put_111 hl (k := 3) rfl (by rw [ex21]; rfl) (by decide) rfl (fun ls hl => ?_)
              have hf := of_nm ex21 hf
              refine lv_goto (tgt := 30) hx hb d_Q_put_114 (by decide) ?_
              exact ih30 _ _ _ _ _ _ _ _ _ _ _ _ _ _ _ _ _ _ _ hP hD hS _ (lv_sub hl [1, 2, 3, 0] rfl) hf
          · have hf := ite_f c11 hf
            refine lv_aload_n hx hb d_Q_put_55 rfl (lv_at hl 0 rfl) ?_
            refine lv_iload hx hb d_Q_put_56 (lv_at hl 4 rfl) ?_
            refine lv_iload hx hb d_Q_put_58 (lv_at hl 6 rfl) ?_
            obtain ⟨r22, hr22, hf⟩ := of_bd hf
            refine rd_call (va_runV (As := [.int x4_50, .int x6_50]) (rest := []) ⟨hx, hb, hml, hown, hts⟩ (c_Q_part l D cI cJ cZ aQ aQ_kinds aQ_which aQ_firsts aQ_seconds aQ_thirds aQ_nexts aQ_heads aQ_names aQ_variables aQ_holes aQ_sizes aQ_places aQ_conclusions aQ_premises aQ_counts aQ_hitOf aQ_hitOne aQ_hitTwo aQ_hitTerms aQ_image aQ_bound aQ_waits aQ_waitsFor aQ_seen aQ_goals aQ_steps aQ_looked aQ_under aQ_taken aQ_news aQ_order aQ_there aQ_back Q_thrown Q_all_50 Q_statements Q_hitKind Q_hits Q_tries Q_takenAll Q_takenFirst Q_firsts_50 Q_seconds_50 Q_thirds_50 x4_50 x6_50 r22 hr22) (bigV 2 hts k4_218 k4_220 ks_Q_part k1_9 k4_221 rfl rfl hd_Q_part ⟨Nat.le_of_ble_eq_true rfl, Nat.le_of_ble_eq_true rfl⟩) (rd_preV hK hP [0, 3, 4, 5] rfl 0 rfl rfl rfl) rfl rfl hl.1 rfl (lv_room (Nat.le_of_ble_eq_true rfl)) d_Q_put_60 ⟨Nat.le_of_ble_eq_true rfl, Nat.le_of_ble_eq_true rfl⟩) ?_
            refine lv_istore (lv' := [(7, .int r22), (0, .ref aQ), (1, .int x1_50), (2, .int x2_50), (3, .int x3_50), (4, .int x4_50), (5, .int x5_50), (6, .int x6_50)]) hx hb d_Q_put_63 hl (by decide) rfl (fun ls hl => ?_)
            refine lv_iload hx hb d_Q_put_65 (lv_at hl 0 rfl) ?_
            refine lv_iconst (v := -1) hx hb d_Q_put_67 (by decide) ?_
            refine lv_icmp_eq (tgt := 87) hx hb d_Q_put_68 (by decide) (fun c23 => ?_) (fun c23 => ?_)
            · have hf := ite_t c23 hf
              refine lv_iload hx hb d_Q_put_87 (lv_at hl 6 rfl) ?_
              refine lv_istore (lv' := [(5, .int x5_50), (7, .int r22), (0, .ref aQ), (1, .int x1_50), (2, .int x2_50), (3, .int x3_50), (4, .int x4_50), (6, .int x6_50)]) hx hb d_Q_put_89 hl (by decide) rfl (fun ls hl => ?_)
              obtain ⟨x24, ex24⟩ : ∃ y : Int32, y = x6_50 + (-1 : Int32) := ⟨_, rfl⟩
              refine lv_iinc (v := x24) (lv' := [(6, .int x24), (5, .int x5_50), (7, .int r22), (0, .ref aQ), (1, .int x1_50), (2, .int x2_50), (3, .int x3_50), (4, .int x4_50)]) hx hb d_Q_put_91 hl (k := 7) rfl (by rw [ex24]; rfl) (by decide) rfl (fun ls hl => ?_)
              have hf := of_nm ex24 hf
              refine lv_goto (tgt := 50) hx hb d_Q_put_94 (by decide) ?_
              exact ih50 _ _ _ _ _ _ _ _ _ _ _ _ _ _ _ _ _ _ _ _ _ _ hP hD hS _ (lv_sub hl [3, 4, 5, 6, 7, 1, 0] rfl) hf
            · have hf := ite_f c23 hf
              refine lv_aload_n hx hb d_Q_put_71 rfl (lv_at hl 1 rfl) ?_
              refine va_get (D := D) (ci := 7) (v := .ref aQ_image) (C := RR_Q) (T := FF_Q) (N := 41) hx hb hts kin_Q hown hK.1 hP 0 rfl rfl 24 (by decide) (hts _ k4_91) (fun _ h9 => h9) rfl d_Q_put_72 ?_
              refine lv_iload hx hb d_Q_put_75 (lv_at hl 0 rfl) ?_
              obtain ⟨h25, hf⟩ := of_gd hf
              refine va_iald hx hb hK.1 hP 12 0 rfl rfl (ixb_in h25) d_Q_put_77 ?_
              refine lv_iconst (v := -1) hx hb d_Q_put_78 (by decide) ?_
              refine lv_icmp_ne (tgt := 87) hx hb d_Q_put_79 (by decide) (fun c26 => ?_) (fun c26 => ?_)
              · have hf := ite_f c26 hf
                refine lv_iload hx hb d_Q_put_87 (lv_at hl 6 rfl) ?_
                refine lv_istore (lv' := [(5, .int x5_50), (7, .int r22), (0, .ref aQ), (1, .int x1_50), (2, .int x2_50), (3, .int x3_50), (4, .int x4_50), (6, .int x6_50)]) hx hb d_Q_put_89 hl (by decide) rfl (fun ls hl => ?_)
                obtain ⟨x27, ex27⟩ : ∃ y : Int32, y = x6_50 + (-1 : Int32) := ⟨_, rfl⟩
                refine lv_iinc (v := x27) (lv' := [(6, .int x27), (5, .int x5_50), (7, .int r22), (0, .ref aQ), (1, .int x1_50), (2, .int x2_50), (3, .int x3_50), (4, .int x4_50)]) hx hb d_Q_put_91 hl (k := 7) rfl (by rw [ex27]; rfl) (by decide) rfl (fun ls hl => ?_)
                have hf := of_nm ex27 hf
                refine lv_goto (tgt := 50) hx hb d_Q_put_94 (by decide) ?_
                exact ih50 _ _ _ _ _ _ _ _ _ _ _ _ _ _ _ _ _ _ _ _ _ _ hP hD hS _ (lv_sub hl [3, 4, 5, 6, 7, 1, 0] rfl) hf
              · have hf := ite_t c26 hf
                refine lv_iload hx hb d_Q_put_82 (lv_at hl 0 rfl) ?_
                refine lv_goto (tgt := 89) hx hb d_Q_put_84 (by decide) ?_
                refine lv_istore (lv' := [(5, .int r22), (7, .int r22), (0, .ref aQ), (1, .int x1_50), (2, .int x2_50), (3, .int x3_50), (4, .int x4_50), (6, .int x6_50)]) hx hb d_Q_put_89 hl (by decide) rfl (fun ls hl => ?_)
                obtain ⟨x28, ex28⟩ : ∃ y : Int32, y = x6_50 + (-1 : Int32) := ⟨_, rfl⟩
                refine lv_iinc (v := x28) (lv' := [(6, .int x28), (5, .int r22), (7, .int r22), (0, .ref aQ), (1, .int x1_50), (2, .int x2_50), (3, .int x3_50), (4, .int x4_50)]) hx hb d_Q_put_91 hl (k := 7) rfl (by rw [ex28]; rfl) (by decide) rfl (fun ls hl => ?_)
                have hf := of_nm ex28 hf
                refine lv_goto (tgt := 50) hx hb d_Q_put_94 (by decide) ?_
                exact ih50 _ _ _ _ _ _ _ _ _ _ _ _ _ _ _ _ _ _ _ _ _ _ hP hD hS _ (lv_sub hl [3, 4, 5, 6, 7, 1, 0] rfl) hf
      intro Q_all_30 Q_kinds_30 Q_which_30 Q_firsts_30 Q_seconds_30 Q_thirds_30 Q_nexts_30 Q_heads_30 Q_names_30 Q_variables_30 Q_holes_30 Q_sizes_30 Q_image_30 Q_waits_30 x1_30 x2_30 x3_30 H locs hP hD hS ls hl hf
      rw [f_Q_put_L30] at hf
      refine lv_iload_n hx hb d_Q_put_30 rfl (lv_at hl 3 rfl) ?_
      refine lv_if_le (tgt := 150) hx hb d_Q_put_31 (by decide) (fun c7 => ?_) (fun c7 => ?_)
      · have hf := ite_t c7 hf
        refine lv_aload_n hx hb d_Q_put_150 rfl (lv_at hl 0 rfl) ?_
        refine va_get (D := D) (ci := 7) (v := .ref aQ_image) (C := RR_Q) (T := FF_Q) (N := 41) hx hb hts kin_Q hown hK.1 hP 0 rfl rfl 24 (by decide) (hts _ k4_91) (fun _ h9 => h9) rfl d_Q_put_151 ?_
        refine lv_iload_n hx hb d_Q_put_154 rfl (lv_at hl 1 rfl) ?_
        obtain ⟨h8, hf⟩ := of_gd hf
        refine va_iald hx hb hK.1 hP 12 0 rfl rfl (ixb_in h8) d_Q_put_155 ?_
        obtain rfl := Option.some.inj hf
        exact W.iret (v := Q_image_30 x1_30.toNatClampNeg) hx hb hr (fun t ht hW => ⟨rfl, by rw [ht]; exact hP, hD, hS.F ht⟩) hS.2.2 d_Q_put_156
      · have hf := ite_f c7 hf
        refine lv_aload_n hx hb d_Q_put_34 rfl (lv_at hl 0 rfl) ?_
        refine va_get (D := D) (ci := 7) (v := .ref aQ_waits) (C := RR_Q) (T := FF_Q) (N := 41) hx hb hts kin_Q hown hK.1 hP 0 rfl rfl 26 (by decide) (hts _ k4_93) (fun _ h9 => h9) rfl d_Q_put_35 ?_
        refine lv_iload_n hx hb d_Q_put_38 rfl (lv_at hl 3 rfl) ?_
        refine lv_iconst (v := 1) hx hb d_Q_put_39 (by decide) ?_
        refine lv_isub hx hb d_Q_put_40 ?_
        obtain ⟨h9, hf⟩ := of_gd hf
        refine va_iald hx hb hK.1 hP 14 0 rfl rfl (ixb_in h9) d_Q_put_41 ?_
        refine lv_topi (fun x10 ex10 => ?_)
        have hf := of_nm ex10 hf
        refine lv_istore (lv' := [(4, .int x10), (0, .ref aQ), (1, .int x1_30), (2, .int x2_30), (3, .int x3_30)]) hx hb d_Q_put_42 hl (by decide) rfl (fun ls hl => ?_)
        refine lv_iconst (v := -1) hx hb d_Q_put_44 (by decide) ?_
        refine lv_istore (lv' := [(5, .int (-1 : Int32)), (4, .int x10), (0, .ref aQ), (1, .int x1_30), (2, .int x2_30), (3, .int x3_30)]) hx hb d_Q_put_45 hl (by decide) rfl (fun ls hl => ?_)
        refine lv_iconst (v := 2) hx hb d_Q_put_47 (by decide) ?_
        refine lv_istore (lv' := [(6, .int (2 : Int32)), (5, .int (-1 : Int32)), (4, .int x10), (0, .ref aQ), (1, .int x1_30), (2, .int x2_30), (3, .int x3_30)]) hx hb d_Q_put_48 hl (by decide) rfl (fun ls hl => ?_)
        exact hL50 FU _ _ _ _ _ _ _ _ _ _ _ _ _ _ _ _ _ _ _ _ _ _ hP hD hS _ (lv_sub hl [3, 4, 5, 6, 2, 1, 0] rfl) hf
  have hL2 : ∀ (n2 : Nat), ∀ (Q_all_2 : Int32) (Q_kinds_2 : (Nat → Int32)) (Q_which_2 : (Nat → Int32)) (Q_firsts_2 : (Nat → Int32)) (Q_seconds_2 : (Nat → Int32)) (Q_thirds_2 : (Nat → Int32)) (Q_nexts_2 : (Nat → Int32)) (Q_heads_2 : (Nat → Int32)) (Q_names_2 : (Nat → Int32)) (Q_variables_2 : (Nat → Int32)) (Q_holes_2 : (Nat → Int32)) (Q_sizes_2 : (Nat → Int32)) (Q_image_2 : (Nat → Int32)) (Q_waits_2 : (Nat → Int32)) (x1_2 : Int32) (x2_2 : Int32) (x3_2 : Int32), ∀ (H : Heap) (locs : List Loc), va_P D vwCl (wv_60 cI cJ cZ aQ aQ_kinds aQ_which aQ_firsts aQ_seconds aQ_thirds aQ_nexts aQ_heads aQ_names aQ_variables aQ_holes aQ_sizes aQ_places aQ_conclusions aQ_premises aQ_counts aQ_hitOf aQ_hitOne aQ_hitTwo aQ_hitTerms aQ_image aQ_bound aQ_waits aQ_waitsFor aQ_seen aQ_goals aQ_steps aQ_looked aQ_under aQ_taken aQ_news aQ_order aQ_there aQ_back Q_thrown Q_all_2 Q_statements Q_hitKind Q_hits Q_tries Q_takenAll Q_takenFirst Q_kinds_2 Q_which_2 Q_firsts_2 Q_seconds_2 Q_thirds_2 Q_nexts_2 Q_heads_2 Q_names_2 Q_variables_2 Q_holes_2 Q_sizes_2 Q_image_2 Q_bound Q_waits_2) H → va_D A (wv_60 cI cJ cZ aQ aQ_kinds aQ_which aQ_firsts aQ_seconds aQ_thirds aQ_nexts aQ_heads aQ_names aQ_variables aQ_holes aQ_sizes aQ_places aQ_conclusions aQ_premises aQ_counts aQ_hitOf aQ_hitOne aQ_hitTwo aQ_hitTerms aQ_image aQ_bound aQ_waits aQ_waitsFor aQ_seen aQ_goals aQ_steps aQ_looked aQ_under aQ_taken aQ_news aQ_order aQ_there aQ_back Q_thrown Q_all_2 Q_statements Q_hitKind Q_hits Q_tries Q_takenAll Q_takenFirst Q_kinds_2 Q_which_2 Q_firsts_2 Q_seconds_2 Q_thirds_2 Q_nexts_2 Q_heads_2 Q_names_2 Q_variables_2 Q_holes_2 Q_sizes_2 Q_image_2 Q_bound Q_waits_2) → va_S A s.heap H locs → ∀ (ls : Array Slot), lv_has ls 8 [(0, .ref aQ), (1, .int x1_2), (2, .int x2_2), (3, .int x3_2)] → f_Q_put_L2 Q_bound n2 Q_all_2 Q_kinds_2 Q_which_2 Q_firsts_2 Q_seconds_2 Q_thirds_2 Q_nexts_2 Q_heads_2 Q_names_2 Q_variables_2 Q_holes_2 Q_sizes_2 Q_image_2 Q_waits_2 x1_2 x2_2 x3_2 = some o → W p l e (headSpec (ws_Q_put) rm_Q_put).room s m ([.ref aQ, .int p0, .int p1] : List Value).toArray below meth c H locs 0 0 (MQ below (WQ D vwCl (some (.int o.1)) (wv_60 cI cJ cZ aQ aQ_kinds aQ_which aQ_firsts aQ_seconds aQ_thirds aQ_nexts aQ_heads aQ_names aQ_variables aQ_holes aQ_sizes aQ_places aQ_conclusions aQ_premises aQ_counts aQ_hitOf aQ_hitOne aQ_hitTwo aQ_hitTerms aQ_image aQ_bound aQ_waits aQ_waitsFor aQ_seen aQ_goals aQ_steps aQ_looked aQ_under aQ_taken aQ_news aQ_order aQ_there aQ_back Q_thrown o.2.1 Q_statements Q_hitKind Q_hits Q_tries Q_takenAll Q_takenFirst o.2.2.1 o.2.2.2.1 o.2.2.2.2.1 o.2.2.2.2.2.1 o.2.2.2.2.2.2.1 o.2.2.2.2.2.2.2.1 o.2.2.2.2.2.2.2.2.1 o.2.2.2.2.2.2.2.2.2.1 o.2.2.2.2.2.2.2.2.2.2.1 o.2.2.2.2.2.2.2.2.2.2.2.1 o.2.2.2.2.2.2.2.2.2.2.2.2.1 o.2.2.2.2.2.2.2.2.2.2.2.2.2.1 Q_bound o.2.2.2.2.2.2.2.2.2.2.2.2.2.2) A) ([.ref aQ, .int p0, .int p1] : List Value).toArray s 0 0 A) (F0 m 2 ls []) := by
    intro n2
    induction n2 with
    | zero =>
      intro Q_all_2 Q_kinds_2 Q_which_2 Q_firsts_2 Q_seconds_2 Q_thirds_2 Q_nexts_2 Q_heads_2 Q_names_2 Q_variables_2 Q_holes_2 Q_sizes_2 Q_image_2 Q_waits_2 x1_2 x2_2 x3_2 H locs hP hD hS ls hl hf
      rw [f_Q_put_L2] at hf
      cases hf
    | succ n2 ih2 =>
      intro Q_all_2 Q_kinds_2 Q_which_2 Q_firsts_2 Q_seconds_2 Q_thirds_2 Q_nexts_2 Q_heads_2 Q_names_2 Q_variables_2 Q_holes_2 Q_sizes_2 Q_image_2 Q_waits_2 x1_2 x2_2 x3_2 H locs hP hD hS ls hl hf
      rw [f_Q_put_L2] at hf
      refine lv_iload_n hx hb d_Q_put_2 rfl (lv_at hl 3 rfl) ?_
      refine lv_bipush (v := 100) hx hb d_Q_put_3 (by decide) ?_
      refine lv_icmp_ge (tgt := 21) hx hb d_Q_put_5 (by decide) (fun c1 => ?_) (fun c1 => ?_)
      · have hf := ite_t c1 hf
        refine lv_iconst (v := 1) hx hb d_Q_put_21 (by decide) ?_
        refine lv_istore_n (lv' := [(3, .int (1 : Int32)), (0, .ref aQ), (1, .int x1_2), (2, .int x2_2)]) hx hb d_Q_put_22 rfl hl (by decide) rfl (fun ls hl => ?_)
        refine lv_aload_n hx hb d_Q_put_23 rfl (lv_at hl 1 rfl) ?_
        refine va_get (D := D) (ci := 7) (v := .ref aQ_waits) (C := RR_Q) (T := FF_Q) (N := 41) hx hb hts kin_Q hown hK.1 hP 0 rfl rfl 26 (by decide) (hts _ k4_93) (fun _ h9 => h9) rfl d_Q_put_24 ?_
        refine lv_iconst (v := 0) hx hb d_Q_put_27 (by decide) ?_
        refine lv_iload_n hx hb d_Q_put_28 rfl (lv_at hl 2 rfl) ?_
        obtain ⟨h2, hf⟩ := of_gd hf
        obtain ⟨g3, eg3⟩ : ∃ y : Nat → Int32, y = upd Q_waits_2 (0 : Int32).toNatClampNeg x1_2 := ⟨_, rfl⟩
        have hf := of_nm eg3 hf
        refine va_iast hx hb hK.1 hP hD hS 14 0 rfl rfl (ixb_in h2) d_Q_put_29 (fun H locs hP hD hS => ?_)
        rw [← eg3] at hP hD
        have hP : va_P D vwCl (wv_60 cI cJ cZ aQ aQ_kinds aQ_which aQ_firsts aQ_seconds aQ_thirds aQ_nexts aQ_heads aQ_names aQ_variables aQ_holes aQ_sizes aQ_places aQ_conclusions aQ_premises aQ_counts aQ_hitOf aQ_hitOne aQ_hitTwo aQ_hitTerms aQ_image aQ_bound aQ_waits aQ_waitsFor aQ_seen aQ_goals aQ_steps aQ_looked aQ_under aQ_taken aQ_news aQ_order aQ_there aQ_back Q_thrown Q_all_2 Q_statements Q_hitKind Q_hits Q_tries Q_takenAll Q_takenFirst Q_kinds_2 Q_which_2 Q_firsts_2 Q_seconds_2 Q_thirds_2 Q_nexts_2 Q_heads_2 Q_names_2 Q_variables_2 Q_holes_2 Q_sizes_2 Q_image_2 Q_bound g3) H := hP
        have hD : va_D A (wv_60 cI cJ cZ aQ aQ_kinds aQ_which aQ_firsts aQ_seconds aQ_thirds aQ_nexts aQ_heads aQ_names aQ_variables aQ_holes aQ_sizes aQ_places aQ_conclusions aQ_premises aQ_counts aQ_hitOf aQ_hitOne aQ_hitTwo aQ_hitTerms aQ_image aQ_bound aQ_waits aQ_waitsFor aQ_seen aQ_goals aQ_steps aQ_looked aQ_under aQ_taken aQ_news aQ_order aQ_there aQ_back Q_thrown Q_all_2 Q_statements Q_hitKind Q_hits Q_tries Q_takenAll Q_takenFirst Q_kinds_2 Q_which_2 Q_firsts_2 Q_seconds_2 Q_thirds_2 Q_nexts_2 Q_heads_2 Q_names_2 Q_variables_2 Q_holes_2 Q_sizes_2 Q_image_2 Q_bound g3) := hD
        exact hL30 FU _ _ _ _ _ _ _ _ _ _ _ _ _ _ _ _ _ _ _ hP hD hS _ (lv_sub hl [1, 2, 3, 0] rfl) hf
      · have hf := ite_f c1 hf
        refine lv_aload_n hx hb d_Q_put_8 rfl (lv_at hl 0 rfl) ?_
        refine va_get (D := D) (ci := 7) (v := .ref aQ_image) (C := RR_Q) (T := FF_Q) (N := 41) hx hb hts kin_Q hown hK.1 hP 0 rfl rfl 24 (by decide) (hts _ k4_91) (fun _ h9 => h9) rfl d_Q_put_9 ?_
        refine lv_iload_n hx hb d_Q_put_12 rfl (lv_at hl 3 rfl) ?_
        refine lv_iconst (v := -1) hx hb d_Q_put_13 (by decide) ?_
        obtain ⟨h4, hf⟩ := of_gd hf
        obtain ⟨g5, eg5⟩ : ∃ y : Nat → Int32, y = upd Q_image_2 x3_2.toNatClampNeg (-1 : Int32) := ⟨_, rfl⟩
        have hf := of_nm eg5 hf
        refine va_iast hx hb hK.1 hP hD hS 12 0 rfl rfl (ixb_in h4) d_Q_put_14 (fun H locs hP hD hS => ?_)
        rw [← eg5] at hP hD
        have hP : va_P D vwCl (wv_60 cI cJ cZ aQ aQ_kinds aQ_which aQ_firsts aQ_seconds aQ_thirds aQ_nexts aQ_heads aQ_names aQ_variables aQ_holes aQ_sizes aQ_places aQ_conclusions aQ_premises aQ_counts aQ_hitOf aQ_hitOne aQ_hitTwo aQ_hitTerms aQ_image aQ_bound aQ_waits aQ_waitsFor aQ_seen aQ_goals aQ_steps aQ_looked aQ_under aQ_taken aQ_news aQ_order aQ_there aQ_back Q_thrown Q_all_2 Q_statements Q_hitKind Q_hits Q_tries Q_takenAll Q_takenFirst Q_kinds_2 Q_which_2 Q_firsts_2 Q_seconds_2 Q_thirds_2 Q_nexts_2 Q_heads_2 Q_names_2 Q_variables_2 Q_holes_2 Q_sizes_2 g5 Q_bound Q_waits_2) H := hP
        have hD : va_D A (wv_60 cI cJ cZ aQ aQ_kinds aQ_which aQ_firsts aQ_seconds aQ_thirds aQ_nexts aQ_heads aQ_names aQ_variables aQ_holes aQ_sizes aQ_places aQ_conclusions aQ_premises aQ_counts aQ_hitOf aQ_hitOne aQ_hitTwo aQ_hitTerms aQ_image aQ_bound aQ_waits aQ_waitsFor aQ_seen aQ_goals aQ_steps aQ_looked aQ_under aQ_taken aQ_news aQ_order aQ_there aQ_back Q_thrown Q_all_2 Q_statements Q_hitKind Q_hits Q_tries Q_takenAll Q_takenFirst Q_kinds_2 Q_which_2 Q_firsts_2 Q_seconds_2 Q_thirds_2 Q_nexts_2 Q_heads_2 Q_names_2 Q_variables_2 Q_holes_2 Q_sizes_2 g5 Q_bound Q_waits_2) := hD
        obtain ⟨x6, ex6⟩ : ∃ y : Int32, y = x3_2 + (1 : Int32) := ⟨_, rfl⟩
        refine lv_iinc (v := x6) (lv' := [(3, .int x6), (0, .ref aQ), (1, .int x1_2), (2, .int x2_2)]) hx hb d_Q_put_15 hl (k := 3) rfl (by rw [ex6]; rfl) (by decide) rfl (fun ls hl => ?_)
        have hf := of_nm ex6 hf
        refine lv_goto (tgt := 2) hx hb d_Q_put_18 (by decide) ?_
        exact ih2 _ _ _ _ _ _ _ _ _ _ _ _ _ _ _ _ _ _ _ hP hD hS _ (lv_sub hl [1, 2, 3, 0] rfl) hf
  rw [f_Q_put] at hf
  refine lv_iconst (v := 0) hx hb d_Q_put_0 (by decide) ?_
  refine lv_istore_n (lv' := [(3, .int (0 : Int32)), (0, .ref aQ), (1, .int p0), (2, .int p1)]) hx hb d_Q_put_1 rfl hl (by decide) rfl (fun ls hl => ?_)
  exact hL2 FU _ _ _ _ _ _ _ _ _ _ _ _ _ _ _ _ _ _ _ hP hD hS _ (lv_sub hl [1, 2, 3, 0] rfl) hf
def f_Q_goal_L50 (Q_hitKind : Int32) (Q_hits : Int32) (Q_premises : (Nat → Int32)) (Q_hitOf : (Nat → Int32)) (Q_hitTwo : (Nat → Int32)) (Q_hitTerms : (Nat → Int32)) : Nat → Int32 → Int32 → (Nat → Int32) → (Nat → Int32) → (Nat → Int32) → (Nat → Int32) → (Nat → Int32) → (Nat → Int32) → (Nat → Int32) → (Nat → Int32) → (Nat → Int32) → (Nat → Int32) → (Nat → Int32) → (Nat → Int32) → (Nat → Int32) → (Nat → Int32) → Int32 → Int32 → Int32 → Option (Int32 × Int32 × Int32 × (Nat → Int32) × (Nat → Int32) × (Nat → Int32) × (Nat → Int32) × (Nat → Int32) × (Nat → Int32) × (Nat → Int32) × (Nat → Int32) × (Nat → Int32) × (Nat → Int32) × (Nat → Int32) × (Nat → Int32) × (Nat → Int32) × (Nat → Int32))
  | 0, _, _, _, _, _, _, _, _, _, _, _, _, _, _, _, _, _, _, _ => none
  | n + 1, Q_thrown_50, Q_all_50, Q_kinds_50, Q_which_50, Q_firsts_50, Q_seconds_50, Q_thirds_50, Q_nexts_50, Q_heads_50, Q_names_50, Q_variables_50, Q_holes_50, Q_sizes_50, Q_image_50, Q_bound_50, Q_waits_50, x1_50, x2_50, x3_50 =>
    if (8 : Int32) ≤ x3_50 then
      gd (ixb x1_50 30) <|
      (f_Q_premise Q_premises (Q_hitOf x1_50.toNatClampNeg) x2_50).bind fun r11 =>
      (f_Q_put Q_all_50 Q_kinds_50 Q_which_50 Q_firsts_50 Q_seconds_50 Q_thirds_50 Q_nexts_50 Q_heads_50 Q_names_50 Q_variables_50 Q_holes_50 Q_sizes_50 Q_image_50 Q_bound_50 Q_waits_50 r11 (100 : Int32)).bind fun r12 =>
      (f_Q_made Q_thrown_50 r12.1 (2 : Int32)).bind fun r13 =>
      some (r13.1, r13.2, r12.2.1, r12.2.2.1, r12.2.2.2.1, r12.2.2.2.2.1, r12.2.2.2.2.2.1, r12.2.2.2.2.2.2.1, r12.2.2.2.2.2.2.2.1, r12.2.2.2.2.2.2.2.2.1, r12.2.2.2.2.2.2.2.2.2.1, r12.2.2.2.2.2.2.2.2.2.2.1, r12.2.2.2.2.2.2.2.2.2.2.2.1, r12.2.2.2.2.2.2.2.2.2.2.2.2.1, r12.2.2.2.2.2.2.2.2.2.2.2.2.2.1, Q_bound_50, r12.2.2.2.2.2.2.2.2.2.2.2.2.2.2)
    else
      gd (ixb (((8 : Int32) * x1_50) + x3_50) 240) <|
      gd (ixb x3_50 8) <| nm (upd Q_bound_50 x3_50.toNatClampNeg (Q_hitTerms (((8 : Int32) * x1_50) + x3_50).toNatClampNeg)) fun g16 =>
      nm (x3_50 + (1 : Int32)) fun x17 =>
      (f_Q_goal_L50 Q_hitKind Q_hits Q_premises Q_hitOf Q_hitTwo Q_hitTerms n) Q_thrown_50 Q_all_50 Q_kinds_50 Q_which_50 Q_firsts_50 Q_seconds_50 Q_thirds_50 Q_nexts_50 Q_heads_50 Q_names_50 Q_variables_50 Q_holes_50 Q_sizes_50 Q_image_50 g16 Q_waits_50 x1_50 x2_50 x17
def f_Q_goal_B40 (Q_hitKind : Int32) (Q_hits : Int32) (Q_premises : (Nat → Int32)) (Q_hitOf : (Nat → Int32)) (Q_hitTwo : (Nat → Int32)) (Q_hitTerms : (Nat → Int32)) (Q_thrown_40 : Int32) (Q_all_40 : Int32) (Q_kinds_40 : (Nat → Int32)) (Q_which_40 : (Nat → Int32)) (Q_firsts_40 : (Nat → Int32)) (Q_seconds_40 : (Nat → Int32)) (Q_thirds_40 : (Nat → Int32)) (Q_nexts_40 : (Nat → Int32)) (Q_heads_40 : (Nat → Int32)) (Q_names_40 : (Nat → Int32)) (Q_variables_40 : (Nat → Int32)) (Q_holes_40 : (Nat → Int32)) (Q_sizes_40 : (Nat → Int32)) (Q_image_40 : (Nat → Int32)) (Q_bound_40 : (Nat → Int32)) (Q_waits_40 : (Nat → Int32)) (x1_40 : Int32) (x2_40 : Int32) (s1_40 : Int32) : Option (Int32 × Int32 × Int32 × (Nat → Int32) × (Nat → Int32) × (Nat → Int32) × (Nat → Int32) × (Nat → Int32) × (Nat → Int32) × (Nat → Int32) × (Nat → Int32) × (Nat → Int32) × (Nat → Int32) × (Nat → Int32) × (Nat → Int32) × (Nat → Int32) × (Nat → Int32)) :=
  (f_Q_refuses Q_thrown_40 s1_40).bind fun r7 =>
  if r7.1 = 0 then
    f_Q_goal_L50 Q_hitKind Q_hits Q_premises Q_hitOf Q_hitTwo Q_hitTerms FU r7.2 Q_all_40 Q_kinds_40 Q_which_40 Q_firsts_40 Q_seconds_40 Q_thirds_40 Q_nexts_40 Q_heads_40 Q_names_40 Q_variables_40 Q_holes_40 Q_sizes_40 Q_image_40 Q_bound_40 Q_waits_40 x1_40 x2_40 (0 : Int32)
  else
    some ((0 : Int32), r7.2, Q_all_40, Q_kinds_40, Q_which_40, Q_firsts_40, Q_seconds_40, Q_thirds_40, Q_nexts_40, Q_heads_40, Q_names_40, Q_variables_40, Q_holes_40, Q_sizes_40, Q_image_40, Q_bound_40, Q_waits_40)
def f_Q_goal (Q_thrown : Int32) (Q_all : Int32) (Q_hitKind : Int32) (Q_hits : Int32) (Q_kinds : (Nat → Int32)) (Q_which : (Nat → Int32)) (Q_firsts : (Nat → Int32)) (Q_seconds : (Nat → Int32)) (Q_thirds : (Nat → Int32)) (Q_nexts : (Nat → Int32)) (Q_heads : (Nat → Int32)) (Q_names : (Nat → Int32)) (Q_variables : (Nat → Int32)) (Q_holes : (Nat → Int32)) (Q_sizes : (Nat → Int32)) (Q_premises : (Nat → Int32)) (Q_hitOf : (Nat → Int32)) (Q_hitTwo : (Nat → Int32)) (Q_hitTerms : (Nat → Int32)) (Q_image : (Nat → Int32)) (Q_bound : (Nat → Int32)) (Q_waits : (Nat → Int32)) (p0 : Int32) (p1 : Int32) : Option (Int32 × Int32 × Int32 × (Nat → Int32) × (Nat → Int32) × (Nat → Int32) × (Nat → Int32) × (Nat → Int32) × (Nat → Int32) × (Nat → Int32) × (Nat → Int32) × (Nat → Int32) × (Nat → Int32) × (Nat → Int32) × (Nat → Int32) × (Nat → Int32) × (Nat → Int32)) :=
  if Q_hitKind = (2 : Int32) then
    if p0 < 0 then
      f_Q_goal_B40 Q_hitKind Q_hits Q_premises Q_hitOf Q_hitTwo Q_hitTerms Q_thrown Q_all Q_kinds Q_which Q_firsts Q_seconds Q_thirds Q_nexts Q_heads Q_names Q_variables Q_holes Q_sizes Q_image Q_bound Q_waits p0 p1 (1 : Int32)
    else
      if Q_hits ≤ p0 then
        f_Q_goal_B40 Q_hitKind Q_hits Q_premises Q_hitOf Q_hitTwo Q_hitTerms Q_thrown Q_all Q_kinds Q_which Q_firsts Q_seconds Q_thirds Q_nexts Q_heads Q_names Q_variables Q_holes Q_sizes Q_image Q_bound Q_waits p0 p1 (1 : Int32)
      else
        if p1 < 0 then
          f_Q_goal_B40 Q_hitKind Q_hits Q_premises Q_hitOf Q_hitTwo Q_hitTerms Q_thrown Q_all Q_kinds Q_which Q_firsts Q_seconds Q_thirds Q_nexts Q_heads Q_names Q_variables Q_holes Q_sizes Q_image Q_bound Q_waits p0 p1 (1 : Int32)
        else
          gd (ixb p0 30) <|
          if p1 < (Q_hitTwo p0.toNatClampNeg) then
            f_Q_goal_B40 Q_hitKind Q_hits Q_premises Q_hitOf Q_hitTwo Q_hitTerms Q_thrown Q_all Q_kinds Q_which Q_firsts Q_seconds Q_thirds Q_nexts Q_heads Q_names Q_variables Q_holes Q_sizes Q_image Q_bound Q_waits p0 p1 (0 : Int32)
          else
            f_Q_goal_B40 Q_hitKind Q_hits Q_premises Q_hitOf Q_hitTwo Q_hitTerms Q_thrown Q_all Q_kinds Q_which Q_firsts Q_seconds Q_thirds Q_nexts Q_heads Q_names Q_variables Q_holes Q_sizes Q_image Q_bound Q_waits p0 p1 (1 : Int32)
  else
    f_Q_goal_B40 Q_hitKind Q_hits Q_premises Q_hitOf Q_hitTwo Q_hitTerms Q_thrown Q_all Q_kinds Q_which Q_firsts Q_seconds Q_thirds Q_nexts Q_heads Q_names Q_variables Q_holes Q_sizes Q_image Q_bound Q_waits p0 p1 (1 : Int32)
abbrev rm_Q_goal : Room := { frames := 5, cells := 0, slots := 0, locals := 122 }
set_option maxHeartbeats 4000000 in
set_option maxRecDepth 100000 in
theorem c_Q_goal (l : Launch) (D : va_G) (cI cJ cZ : ClassId) (aQ aQ_kinds aQ_which aQ_firsts aQ_seconds aQ_thirds aQ_nexts aQ_heads aQ_names aQ_variables aQ_holes aQ_sizes aQ_places aQ_conclusions aQ_premises aQ_counts aQ_hitOf aQ_hitOne aQ_hitTwo aQ_hitTerms aQ_image aQ_bound aQ_waits aQ_waitsFor aQ_seen aQ_goals aQ_steps aQ_looked aQ_under aQ_taken aQ_news aQ_order aQ_there aQ_back : Nat) (sz : Nat) (Q_thrown : Int32) (Q_all : Int32) (Q_statements : Int32) (Q_hitKind : Int32) (Q_hits : Int32) (Q_tries : Int32) (Q_takenAll : Int32) (Q_takenFirst : Int32) (Q_kinds : (Nat → Int32)) (Q_which : (Nat → Int32)) (Q_firsts : (Nat → Int32)) (Q_seconds : (Nat → Int32)) (Q_thirds : (Nat → Int32)) (Q_nexts : (Nat → Int32)) (Q_heads : (Nat → Int32)) (Q_names : (Nat → Int32)) (Q_variables : (Nat → Int32)) (Q_holes : (Nat → Int32)) (Q_sizes : (Nat → Int32)) (Q_premises : (Nat → Int32)) (Q_hitOf : (Nat → Int32)) (Q_hitTwo : (Nat → Int32)) (Q_hitTerms : (Nat → Int32)) (Q_image : (Nat → Int32)) (Q_bound : (Nat → Int32)) (Q_waits : (Nat → Int32)) (p0 : Int32) (p1 : Int32) (o : Int32 × Int32 × Int32 × (Nat → Int32) × (Nat → Int32) × (Nat → Int32) × (Nat → Int32) × (Nat → Int32) × (Nat → Int32) × (Nat → Int32) × (Nat → Int32) × (Nat → Int32) × (Nat → Int32) × (Nat → Int32) × (Nat → Int32) × (Nat → Int32) × (Nat → Int32)) (hf : f_Q_goal Q_thrown Q_all Q_hitKind Q_hits Q_kinds Q_which Q_firsts Q_seconds Q_thirds Q_nexts Q_heads Q_names Q_variables Q_holes Q_sizes Q_premises Q_hitOf Q_hitTwo Q_hitTerms Q_image Q_bound Q_waits p0 p1 = some o) : Met l y_Q_goal (ws_Q_goal) rm_Q_goal (WPc D vwCl cI cJ cZ [.ref aQ, .int p0, .int p1] (wv_61 cI cJ cZ aQ aQ_kinds aQ_which aQ_firsts aQ_seconds aQ_thirds aQ_nexts aQ_heads aQ_names aQ_variables aQ_holes aQ_sizes aQ_places aQ_conclusions aQ_premises aQ_counts aQ_hitOf aQ_hitOne aQ_hitTwo aQ_hitTerms aQ_image aQ_bound aQ_waits aQ_waitsFor aQ_seen aQ_goals aQ_steps aQ_looked aQ_under aQ_taken aQ_news aQ_order aQ_there aQ_back Q_thrown Q_all Q_statements Q_hitKind Q_hits Q_tries Q_takenAll Q_takenFirst Q_kinds Q_which Q_firsts Q_seconds Q_thirds Q_nexts Q_heads Q_names Q_variables Q_holes Q_sizes Q_premises Q_hitOf Q_hitTwo Q_hitTerms Q_image Q_bound Q_waits) sz) (WQ D vwCl (some (.int o.1)) (wv_61 cI cJ cZ aQ aQ_kinds aQ_which aQ_firsts aQ_seconds aQ_thirds aQ_nexts aQ_heads aQ_names aQ_variables aQ_holes aQ_sizes aQ_places aQ_conclusions aQ_premises aQ_counts aQ_hitOf aQ_hitOne aQ_hitTwo aQ_hitTerms aQ_image aQ_bound aQ_waits aQ_waitsFor aQ_seen aQ_goals aQ_steps aQ_looked aQ_under aQ_taken aQ_news aQ_order aQ_there aQ_back o.2.1 o.2.2.1 Q_statements Q_hitKind Q_hits Q_tries Q_takenAll Q_takenFirst o.2.2.2.1 o.2.2.2.2.1 o.2.2.2.2.2.1 o.2.2.2.2.2.2.1 o.2.2.2.2.2.2.2.1 o.2.2.2.2.2.2.2.2.1 o.2.2.2.2.2.2.2.2.2.1 o.2.2.2.2.2.2.2.2.2.2.1 o.2.2.2.2.2.2.2.2.2.2.2.1 o.2.2.2.2.2.2.2.2.2.2.2.2.1 o.2.2.2.2.2.2.2.2.2.2.2.2.2.1 Q_premises Q_hitOf Q_hitTwo Q_hitTerms o.2.2.2.2.2.2.2.2.2.2.2.2.2.2.1 o.2.2.2.2.2.2.2.2.2.2.2.2.2.2.2.1 o.2.2.2.2.2.2.2.2.2.2.2.2.2.2.2.2) (va_A (wv_61 cI cJ cZ aQ aQ_kinds aQ_which aQ_firsts aQ_seconds aQ_thirds aQ_nexts aQ_heads aQ_names aQ_variables aQ_holes aQ_sizes aQ_places aQ_conclusions aQ_premises aQ_counts aQ_hitOf aQ_hitOne aQ_hitTwo aQ_hitTerms aQ_image aQ_bound aQ_waits aQ_waitsFor aQ_seen aQ_goals aQ_steps aQ_looked aQ_under aQ_taken aQ_news aQ_order aQ_there aQ_back Q_thrown Q_all Q_statements Q_hitKind Q_hits Q_tries Q_takenAll Q_takenFirst Q_kinds Q_which Q_firsts Q_seconds Q_thirds Q_nexts Q_heads Q_names Q_variables Q_holes Q_sizes Q_premises Q_hitOf Q_hitTwo Q_hitTerms Q_image Q_bound Q_waits) sz)) 0 0 (va_A (wv_61 cI cJ cZ aQ aQ_kinds aQ_which aQ_firsts aQ_seconds aQ_thirds aQ_nexts aQ_heads aQ_names aQ_variables aQ_holes aQ_sizes aQ_places aQ_conclusions aQ_premises aQ_counts aQ_hitOf aQ_hitOne aQ_hitTwo aQ_hitTerms aQ_image aQ_bound aQ_waits aQ_waitsFor aQ_seen aQ_goals aQ_steps aQ_looked aQ_under aQ_taken aQ_news aQ_order aQ_there aQ_back Q_thrown Q_all Q_statements Q_hitKind Q_hits Q_tries Q_takenAll Q_takenFirst Q_kinds Q_which Q_firsts Q_seconds Q_thirds Q_nexts Q_heads Q_names Q_variables Q_holes Q_sizes Q_premises Q_hitOf Q_hitTwo Q_hitTerms Q_image Q_bound Q_waits) sz) := by
  refine Met.ofW (cc := b_Q_goal) (maxL := 4) (ret := (some .int)) (by decide) rfl ?_
  intro p e s m args below meth c s₁ B hml hv
  obtain ⟨rfl, rfl, hP, hK, hD0⟩ := hv
  have hx := B.exec
  have hb := B.bytes
  have hr := B.returns
  have hts : ∀ w ∈ BG, w.before _ s = true := fun w h => atoms_spec (ws := (ws_Q_goal)) B.pre w (List.mem_cons_of_mem _ h)
  have hown : s.vm.findClass RR_Q = some m.cls := findClass_of_methodNamed B.named
  have hlocks := B.notSynchronized
  have hD := hD0.self (sz := s.heap.size)
  have hA : ∀ q : Nat, s.heap.size ≤ q → va_A (wv_61 cI cJ cZ aQ aQ_kinds aQ_which aQ_firsts aQ_seconds aQ_thirds aQ_nexts aQ_heads aQ_names aQ_variables aQ_holes aQ_sizes aQ_places aQ_conclusions aQ_premises aQ_counts aQ_hitOf aQ_hitOne aQ_hitTwo aQ_hitTerms aQ_image aQ_bound aQ_waits aQ_waitsFor aQ_seen aQ_goals aQ_steps aQ_looked aQ_under aQ_taken aQ_news aQ_order aQ_there aQ_back Q_thrown Q_all Q_statements Q_hitKind Q_hits Q_tries Q_takenAll Q_takenFirst Q_kinds Q_which Q_firsts Q_seconds Q_thirds Q_nexts Q_heads Q_names Q_variables Q_holes Q_sizes Q_premises Q_hitOf Q_hitTwo Q_hitTerms Q_image Q_bound Q_waits) s.heap.size q := fun q h => Or.inr h
  have hS : va_S (va_A (wv_61 cI cJ cZ aQ aQ_kinds aQ_which aQ_firsts aQ_seconds aQ_thirds aQ_nexts aQ_heads aQ_names aQ_variables aQ_holes aQ_sizes aQ_places aQ_conclusions aQ_premises aQ_counts aQ_hitOf aQ_hitOne aQ_hitTwo aQ_hitTerms aQ_image aQ_bound aQ_waits aQ_waitsFor aQ_seen aQ_goals aQ_steps aQ_looked aQ_under aQ_taken aQ_news aQ_order aQ_there aQ_back Q_thrown Q_all Q_statements Q_hitKind Q_hits Q_tries Q_takenAll Q_takenFirst Q_kinds Q_which Q_firsts Q_seconds Q_thirds Q_nexts Q_heads Q_names Q_variables Q_holes Q_sizes Q_premises Q_hitOf Q_hitTwo Q_hitTerms Q_image Q_bound Q_waits) s.heap.size) s.heap s.heap [] := va_S.rf
  generalize va_A (wv_61 cI cJ cZ aQ aQ_kinds aQ_which aQ_firsts aQ_seconds aQ_thirds aQ_nexts aQ_heads aQ_names aQ_variables aQ_holes aQ_sizes aQ_places aQ_conclusions aQ_premises aQ_counts aQ_hitOf aQ_hitOne aQ_hitTwo aQ_hitTerms aQ_image aQ_bound aQ_waits aQ_waitsFor aQ_seen aQ_goals aQ_steps aQ_looked aQ_under aQ_taken aQ_news aQ_order aQ_there aQ_back Q_thrown Q_all Q_statements Q_hitKind Q_hits Q_tries Q_takenAll Q_takenFirst Q_kinds Q_which Q_firsts Q_seconds Q_thirds Q_nexts Q_heads Q_names Q_variables Q_holes Q_sizes Q_premises Q_hitOf Q_hitTwo Q_hitTerms Q_image Q_bound Q_waits) s.heap.size = A at hD hA hS ⊢
  have hl := lv_entry ([.ref aQ, .int p0, .int p1]) (n := 4) (Nat.le_of_ble_eq_true rfl)
  rw [lg_entry_eq]
  generalize (lg_sl ([.ref aQ, .int p0, .int p1]) ++ List.replicate (4 - (lg_sl ([.ref aQ, .int p0, .int p1])).length) Slot.unset).toArray = ls at hl ⊢
  have hl : lv_has ls 4 [(0, .ref aQ), (1, .int p0), (2, .int p1)] := hl
  have hL50 : ∀ (n50 : Nat), ∀ (Q_thrown_50 : Int32) (Q_all_50 : Int32) (Q_kinds_50 : (Nat → Int32)) (Q_which_50 : (Nat → Int32)) (Q_firsts_50 : (Nat → Int32)) (Q_seconds_50 : (Nat → Int32)) (Q_thirds_50 : (Nat → Int32)) (Q_nexts_50 : (Nat → Int32)) (Q_heads_50 : (Nat → Int32)) (Q_names_50 : (Nat → Int32)) (Q_variables_50 : (Nat → Int32)) (Q_holes_50 : (Nat → Int32)) (Q_sizes_50 : (Nat → Int32)) (Q_image_50 : (Nat → Int32)) (Q_bound_50 : (Nat → Int32)) (Q_waits_50 : (Nat → Int32)) (x1_50 : Int32) (x2_50 : Int32) (x3_50 : Int32), ∀ (H : Heap) (locs : List Loc), va_P D vwCl (wv_61 cI cJ cZ aQ aQ_kinds aQ_which aQ_firsts aQ_seconds aQ_thirds aQ_nexts aQ_heads aQ_names aQ_variables aQ_holes aQ_sizes aQ_places aQ_conclusions aQ_premises aQ_counts aQ_hitOf aQ_hitOne aQ_hitTwo aQ_hitTerms aQ_image aQ_bound aQ_waits aQ_waitsFor aQ_seen aQ_goals aQ_steps aQ_looked aQ_under aQ_taken aQ_news aQ_order aQ_there aQ_back Q_thrown_50 Q_all_50 Q_statements Q_hitKind Q_hits Q_tries Q_takenAll Q_takenFirst Q_kinds_50 Q_which_50 Q_firsts_50 Q_seconds_50 Q_thirds_50 Q_nexts_50 Q_heads_50 Q_names_50 Q_variables_50 Q_holes_50 Q_sizes_50 Q_premises Q_hitOf Q_hitTwo Q_hitTerms Q_image_50 Q_bound_50 Q_waits_50) H → va_D A (wv_61 cI cJ cZ aQ aQ_kinds aQ_which aQ_firsts aQ_seconds aQ_thirds aQ_nexts aQ_heads aQ_names aQ_variables aQ_holes aQ_sizes aQ_places aQ_conclusions aQ_premises aQ_counts aQ_hitOf aQ_hitOne aQ_hitTwo aQ_hitTerms aQ_image aQ_bound aQ_waits aQ_waitsFor aQ_seen aQ_goals aQ_steps aQ_looked aQ_under aQ_taken aQ_news aQ_order aQ_there aQ_back Q_thrown_50 Q_all_50 Q_statements Q_hitKind Q_hits Q_tries Q_takenAll Q_takenFirst Q_kinds_50 Q_which_50 Q_firsts_50 Q_seconds_50 Q_thirds_50 Q_nexts_50 Q_heads_50 Q_names_50 Q_variables_50 Q_holes_50 Q_sizes_50 Q_premises Q_hitOf Q_hitTwo Q_hitTerms Q_image_50 Q_bound_50 Q_waits_50) → va_S A s.heap H locs → ∀ (ls : Array Slot), lv_has ls 4 [(0, .ref aQ), (1, .int x1_50), (2, .int x2_50), (3, .int x3_50)] → f_Q_goal_L50 Q_hitKind Q_hits Q_premises Q_hitOf Q_hitTwo Q_hitTerms n50 Q_thrown_50 Q_all_50 Q_kinds_50 Q_which_50 Q_firsts_50 Q_seconds_50 Q_thirds_50 Q_nexts_50 Q_heads_50 Q_names_50 Q_variables_50 Q_holes_50 Q_sizes_50 Q_image_50 Q_bound_50 Q_waits_50 x1_50 x2_50 x3_50 = some o → W p l e (headSpec (ws_Q_goal) rm_Q_goal).room s m ([.ref aQ, .int p0, .int p1] : List Value).toArray below meth c H locs 0 0 (MQ below (WQ D vwCl (some (.int o.1)) (wv_61 cI cJ cZ aQ aQ_kinds aQ_which aQ_firsts aQ_seconds aQ_thirds aQ_nexts aQ_heads aQ_names aQ_variables aQ_holes aQ_sizes aQ_places aQ_conclusions aQ_premises aQ_counts aQ_hitOf aQ_hitOne aQ_hitTwo aQ_hitTerms aQ_image aQ_bound aQ_waits aQ_waitsFor aQ_seen aQ_goals aQ_steps aQ_looked aQ_under aQ_taken aQ_news aQ_order aQ_there aQ_back o.2.1 o.2.2.1 Q_statements Q_hitKind Q_hits Q_tries Q_takenAll Q_takenFirst o.2.2.2.1 o.2.2.2.2.1 o.2.2.2.2.2.1 o.2.2.2.2.2.2.1 o.2.2.2.2.2.2.2.1 o.2.2.2.2.2.2.2.2.1 o.2.2.2.2.2.2.2.2.2.1 o.2.2.2.2.2.2.2.2.2.2.1 o.2.2.2.2.2.2.2.2.2.2.2.1 o.2.2.2.2.2.2.2.2.2.2.2.2.1 o.2.2.2.2.2.2.2.2.2.2.2.2.2.1 Q_premises Q_hitOf Q_hitTwo Q_hitTerms o.2.2.2.2.2.2.2.2.2.2.2.2.2.2.1 o.2.2.2.2.2.2.2.2.2.2.2.2.2.2.2.1 o.2.2.2.2.2.2.2.2.2.2.2.2.2.2.2.2) A) ([.ref aQ, .int p0, .int p1] : List Value).toArray s 0 0 A) (F0 m 50 ls []) := by
    intro n50
    induction n50 with
    | zero =>
      intro Q_thrown_50 Q_all_50 Q_kinds_50 Q_which_50 Q_firsts_50 Q_seconds_50 Q_thirds_50 Q_nexts_50 Q_heads_50 Q_names_50 Q_variables_50 Q_holes_50 Q_sizes_50 Q_image_50 Q_bound_50 Q_waits_50 x1_50 x2_50 x3_50 H locs hP hD hS ls hl hf
      rw [f_Q_goal_L50] at hf
      cases hf
    | succ n50 ih50 =>
      intro Q_thrown_50 Q_all_50 Q_kinds_50 Q_which_50 Q_firsts_50 Q_seconds_50 Q_thirds_50 Q_nexts_50 Q_heads_50 Q_names_50 Q_variables_50 Q_holes_50 Q_sizes_50 Q_image_50 Q_bound_50 Q_waits_50 x1_50 x2_50 x3_50 H locs hP hD hS ls hl hf
      rw [f_Q_goal_L50] at hf
      refine lv_iload_n hx hb d_Q_goal_50 rfl (lv_at hl 3 rfl) ?_
      refine lv_bipush (v := 8) hx hb d_Q_goal_51 (by decide) ?_
      refine lv_icmp_ge (tgt := 79) hx hb d_Q_goal_53 (by decide) (fun c9 => ?_) (fun c9 => ?_)
      · have hf := ite_t c9 hf
        refine lv_aload_n hx hb d_Q_goal_79 rfl (lv_at hl 0 rfl) ?_
        refine lv_aload_n hx hb d_Q_goal_80 rfl (lv_at hl 0 rfl) ?_
        refine lv_aload_n hx hb d_Q_goal_81 rfl (lv_at hl 0 rfl) ?_
        refine lv_aload_n hx hb d_Q_goal_82 rfl (lv_at hl 0 rfl) ?_
        refine va_get (D := D) (ci := 7) (v := .ref aQ_hitOf) (C := RR_Q) (T := FF_Q) (N := 41) hx hb hts kin_Q hown hK.1 hP 0 rfl rfl 20 (by decide) (hts _ k4_87) (fun _ h9 => h9) rfl d_Q_goal_83 ?_
        refine lv_iload_n hx hb d_Q_goal_86 rfl (lv_at hl 1 rfl) ?_
        obtain ⟨h10, hf⟩ := of_gd hf
        refine va_iald hx hb hK.1 hP 13 0 rfl rfl (ixb_in h10) d_Q_goal_87 ?_
        refine lv_iload_n hx hb d_Q_goal_88 rfl (lv_at hl 2 rfl) ?_
        obtain ⟨r11, hr11, hf⟩ := of_bd hf
        refine rd_call (va_runV (As := [.int (Q_hitOf x1_50.toNatClampNeg), .int x2_50]) (rest := [.ref aQ, .ref aQ]) ⟨hx, hb, hml, hown, hts⟩ (c_Q_premise l D cI cJ cZ aQ aQ_kinds aQ_which aQ_firsts aQ_seconds aQ_thirds aQ_nexts aQ_heads aQ_names aQ_variables aQ_holes aQ_sizes aQ_places aQ_conclusions aQ_premises aQ_counts aQ_hitOf aQ_hitOne aQ_hitTwo aQ_hitTerms aQ_image aQ_bound aQ_waits aQ_waitsFor aQ_seen aQ_goals aQ_steps aQ_looked aQ_under aQ_taken aQ_news aQ_order aQ_there aQ_back Q_thrown_50 Q_all_50 Q_statements Q_hitKind Q_hits Q_tries Q_takenAll Q_takenFirst Q_premises (Q_hitOf x1_50.toNatClampNeg) x2_50 r11 hr11) (bigV 2 hts k5_15 k5_17 ks_Q_premise k1_9 k5_18 rfl rfl hd_Q_premise ⟨Nat.le_of_ble_eq_true rfl, Nat.le_of_ble_eq_true rfl⟩) (rd_preV hK hP [0, 12] rfl 0 rfl rfl rfl) rfl rfl hl.1 rfl (lv_room (Nat.le_of_ble_eq_true rfl)) d_Q_goal_89 ⟨Nat.le_of_ble_eq_true rfl, Nat.le_of_ble_eq_true rfl⟩) ?_
        refine lv_bipush (v := 100) hx hb d_Q_goal_92 (by decide) ?_
        obtain ⟨r12, hr12, hf⟩ := of_bd hf
        refine wr_call (ws' := (wv_61 cI cJ cZ aQ aQ_kinds aQ_which aQ_firsts aQ_seconds aQ_thirds aQ_nexts aQ_heads aQ_names aQ_variables aQ_holes aQ_sizes aQ_places aQ_conclusions aQ_premises aQ_counts aQ_hitOf aQ_hitOne aQ_hitTwo aQ_hitTerms aQ_image aQ_bound aQ_waits aQ_waitsFor aQ_seen aQ_goals aQ_steps aQ_looked aQ_under aQ_taken aQ_news aQ_order aQ_there aQ_back Q_thrown_50 r12.2.1 Q_statements Q_hitKind Q_hits Q_tries Q_takenAll Q_takenFirst r12.2.2.1 r12.2.2.2.1 r12.2.2.2.2.1 r12.2.2.2.2.2.1 r12.2.2.2.2.2.2.1 r12.2.2.2.2.2.2.2.1 r12.2.2.2.2.2.2.2.2.1 r12.2.2.2.2.2.2.2.2.2.1 r12.2.2.2.2.2.2.2.2.2.2.1 r12.2.2.2.2.2.2.2.2.2.2.2.1 r12.2.2.2.2.2.2.2.2.2.2.2.2.1 Q_premises Q_hitOf Q_hitTwo Q_hitTerms r12.2.2.2.2.2.2.2.2.2.2.2.2.2.1 Q_bound_50 r12.2.2.2.2.2.2.2.2.2.2.2.2.2.2)) (va_runV (As := [.int r11, .int (100 : Int32)]) (rest := [.ref aQ]) ⟨hx, hb, hml, hown, hts⟩ (c_Q_put l D cI cJ cZ aQ aQ_kinds aQ_which aQ_firsts aQ_seconds aQ_thirds aQ_nexts aQ_heads aQ_names aQ_variables aQ_holes aQ_sizes aQ_places aQ_conclusions aQ_premises aQ_counts aQ_hitOf aQ_hitOne aQ_hitTwo aQ_hitTerms aQ_image aQ_bound aQ_waits aQ_waitsFor aQ_seen aQ_goals aQ_steps aQ_looked aQ_under aQ_taken aQ_news aQ_order aQ_there aQ_back _ Q_thrown_50 Q_all_50 Q_statements Q_hitKind Q_hits Q_tries Q_takenAll Q_takenFirst Q_kinds_50 Q_which_50 Q_firsts_50 Q_seconds_50 Q_thirds_50 Q_nexts_50 Q_heads_50 Q_names_50 Q_variables_50 Q_holes_50 Q_sizes_50 Q_image_50 Q_bound_50 Q_waits_50 r11 (100 : Int32) r12 hr12) (bigV 2 hts k5_54 k5_56 ks_Q_put k1_9 k5_57 rfl rfl hd_Q_put ⟨Nat.le_of_ble_eq_true rfl, Nat.le_of_ble_eq_true rfl⟩) (wr_preV hK hP hD [0, 1, 2, 3, 4, 5, 6, 7, 8, 9, 10, 11, 16, 17, 18] rfl (by decide) rfl 0 rfl rfl rfl) rfl rfl hl.1 rfl (lv_room (Nat.le_of_ble_eq_true rfl)) d_Q_goal_94 ⟨Nat.le_of_ble_eq_true rfl, Nat.le_of_ble_eq_true rfl⟩) hP hD hS hA [0, 1, 2, 3, 4, 5, 6, 7, 8, 9, 10, 11, 16, 17, 18] [12, 13, 14, 15] rfl rfl (by decide) (by decide) [4, 5, 6, 7, 8, 9, 10, 11, 12, 13, 14, 15, 0, 1, 2, 3, 16, 17, 18] (by decide) rfl (fun H locs hP hD hS => ?_)
        refine lv_iconst (v := 2) hx hb d_Q_goal_97 (by decide) ?_
        obtain ⟨r13, hr13, hf⟩ := of_bd hf
        refine wr_call (ws' := (wv_61 cI cJ cZ aQ aQ_kinds aQ_which aQ_firsts aQ_seconds aQ_thirds aQ_nexts aQ_heads aQ_names aQ_variables aQ_holes aQ_sizes aQ_places aQ_conclusions aQ_premises aQ_counts aQ_hitOf aQ_hitOne aQ_hitTwo aQ_hitTerms aQ_image aQ_bound aQ_waits aQ_waitsFor aQ_seen aQ_goals aQ_steps aQ_looked aQ_under aQ_taken aQ_news aQ_order aQ_there aQ_back r13.2 r12.2.1 Q_statements Q_hitKind Q_hits Q_tries Q_takenAll Q_takenFirst r12.2.2.1 r12.2.2.2.1 r12.2.2.2.2.1 r12.2.2.2.2.2.1 r12.2.2.2.2.2.2.1 r12.2.2.2.2.2.2.2.1 r12.2.2.2.2.2.2.2.2.1 r12.2.2.2.2.2.2.2.2.2.1 r12.2.2.2.2.2.2.2.2.2.2.1 r12.2.2.2.2.2.2.2.2.2.2.2.1 r12.2.2.2.2.2.2.2.2.2.2.2.2.1 Q_premises Q_hitOf Q_hitTwo Q_hitTerms r12.2.2.2.2.2.2.2.2.2.2.2.2.2.1 Q_bound_50 r12.2.2.2.2.2.2.2.2.2.2.2.2.2.2)) (va_runV (As := [.int r12.1, .int (2 : Int32)]) (rest := []) ⟨hx, hb, hml, hown, hts⟩ (c_Q_made l D cI cJ cZ aQ aQ_kinds aQ_which aQ_firsts aQ_seconds aQ_thirds aQ_nexts aQ_heads aQ_names aQ_variables aQ_holes aQ_sizes aQ_places aQ_conclusions aQ_premises aQ_counts aQ_hitOf aQ_hitOne aQ_hitTwo aQ_hitTerms aQ_image aQ_bound aQ_waits aQ_waitsFor aQ_seen aQ_goals aQ_steps aQ_looked aQ_under aQ_taken aQ_news aQ_order aQ_there aQ_back _ Q_thrown_50 r12.2.1 Q_statements Q_hitKind Q_hits Q_tries Q_takenAll Q_takenFirst r12.1 (2 : Int32) r13 hr13) (bigV 2 hts k4_223 k4_225 ks_Q_made k1_9 k4_226 rfl rfl hd_Q_made ⟨Nat.le_of_ble_eq_true rfl, Nat.le_of_ble_eq_true rfl⟩) (wr_preV hK hP hD [0] rfl (by decide) rfl 0 rfl rfl rfl) rfl rfl hl.1 rfl (lv_room (Nat.le_of_ble_eq_true rfl)) d_Q_goal_98 ⟨Nat.le_of_ble_eq_true rfl, Nat.le_of_ble_eq_true rfl⟩) hP hD hS hA [0] [1, 2, 3, 4, 5, 6, 7, 8, 9, 10, 11, 12, 13, 14, 15, 16, 17, 18] rfl rfl (by decide) (by decide) [18, 0, 1, 2, 3, 4, 5, 6, 7, 8, 9, 10, 11, 12, 13, 14, 15, 16, 17] (by decide) rfl (fun H locs hP hD hS => ?_)
        obtain rfl := Option.some.inj hf
        exact W.iret (v := r13.1) hx hb hr (fun t ht hW => ⟨rfl, by rw [ht]; exact hP, hD, hS.F ht⟩) hS.2.2 d_Q_goal_101
      · have hf := ite_f c9 hf
        refine lv_aload_n hx hb d_Q_goal_56 rfl (lv_at hl 0 rfl) ?_
        refine va_get (D := D) (ci := 7) (v := .ref aQ_bound) (C := RR_Q) (T := FF_Q) (N := 41) hx hb hts kin_Q hown hK.1 hP 0 rfl rfl 25 (by decide) (hts _ k4_92) (fun _ h9 => h9) rfl d_Q_goal_57 ?_
        refine lv_iload_n hx hb d_Q_goal_60 rfl (lv_at hl 3 rfl) ?_
        refine lv_aload_n hx hb d_Q_goal_61 rfl (lv_at hl 0 rfl) ?_
        refine va_get (D := D) (ci := 7) (v := .ref aQ_hitTerms) (C := RR_Q) (T := FF_Q) (N := 41) hx hb hts kin_Q hown hK.1 hP 0 rfl rfl 23 (by decide) (hts _ k4_90) (fun _ h9 => h9) rfl d_Q_goal_62 ?_
        refine lv_bipush (v := 8) hx hb d_Q_goal_65 (by decide) ?_
        refine lv_iload_n hx hb d_Q_goal_67 rfl (lv_at hl 1 rfl) ?_
        refine lv_imul hx hb d_Q_goal_68 ?_
        refine lv_iload_n hx hb d_Q_goal_69 rfl (lv_at hl 3 rfl) ?_
        refine lv_iadd hx hb d_Q_goal_70 ?_
        obtain ⟨h14, hf⟩ := of_gd hf
        refine va_iald hx hb hK.1 hP 15 0 rfl rfl (ixb_in h14) d_Q_goal_71 ?_
        obtain ⟨h15, hf⟩ := of_gd hf
        obtain ⟨g16, eg16⟩ : ∃ y : Nat → Int32, y = upd Q_bound_50 x3_50.toNatClampNeg (Q_hitTerms (((8 : Int32) * x1_50) + x3_50).toNatClampNeg) := ⟨_, rfl⟩
        have hf := of_nm eg16 hf
        refine va_iast hx hb hK.1 hP hD hS 17 0 rfl rfl (ixb_in h15) d_Q_goal_72 (fun H locs hP hD hS => ?_)
        rw [← eg16] at hP hD
        have hP : va_P D vwCl (wv_61 cI cJ cZ aQ aQ_kinds aQ_which aQ_firsts aQ_seconds aQ_thirds aQ_nexts aQ_heads aQ_names aQ_variables aQ_holes aQ_sizes aQ_places aQ_conclusions aQ_premises aQ_counts aQ_hitOf aQ_hitOne aQ_hitTwo aQ_hitTerms aQ_image aQ_bound aQ_waits aQ_waitsFor aQ_seen aQ_goals aQ_steps aQ_looked aQ_under aQ_taken aQ_news aQ_order aQ_there aQ_back Q_thrown_50 Q_all_50 Q_statements Q_hitKind Q_hits Q_tries Q_takenAll Q_takenFirst Q_kinds_50 Q_which_50 Q_firsts_50 Q_seconds_50 Q_thirds_50 Q_nexts_50 Q_heads_50 Q_names_50 Q_variables_50 Q_holes_50 Q_sizes_50 Q_premises Q_hitOf Q_hitTwo Q_hitTerms Q_image_50 g16 Q_waits_50) H := hP
        have hD : va_D A (wv_61 cI cJ cZ aQ aQ_kinds aQ_which aQ_firsts aQ_seconds aQ_thirds aQ_nexts aQ_heads aQ_names aQ_variables aQ_holes aQ_sizes aQ_places aQ_conclusions aQ_premises aQ_counts aQ_hitOf aQ_hitOne aQ_hitTwo aQ_hitTerms aQ_image aQ_bound aQ_waits aQ_waitsFor aQ_seen aQ_goals aQ_steps aQ_looked aQ_under aQ_taken aQ_news aQ_order aQ_there aQ_back Q_thrown_50 Q_all_50 Q_statements Q_hitKind Q_hits Q_tries Q_takenAll Q_takenFirst Q_kinds_50 Q_which_50 Q_firsts_50 Q_seconds_50 Q_thirds_50 Q_nexts_50 Q_heads_50 Q_names_50 Q_variables_50 Q_holes_50 Q_sizes_50 Q_premises Q_hitOf Q_hitTwo Q_hitTerms Q_image_50 g16 Q_waits_50) := hD
        obtain ⟨x17, ex17⟩ : ∃ y : Int32, y = x3_50 + (1 : Int32) := ⟨_, rfl⟩
        refine lv_iinc (v := x17) (lv' := [(3, .int x17), (0, .ref aQ), (1, .int x1_50), (2, .int x2_50)]) hx hb d_Q_goal_73 hl (k := 3) rfl (by rw [ex17]; rfl) (by decide) rfl (fun ls hl => ?_)
        have hf := of_nm ex17 hf
        refine lv_goto (tgt := 50) hx hb d_Q_goal_76 (by decide) ?_
        exact ih50 _ _ _ _ _ _ _ _ _ _ _ _ _ _ _ _ _ _ _ _ _ hP hD hS _ (lv_sub hl [1, 2, 3, 0] rfl) hf
  have hB40 : ∀ (Q_thrown_40 : Int32) (Q_all_40 : Int32) (Q_kinds_40 : (Nat → Int32)) (Q_which_40 : (Nat → Int32)) (Q_firsts_40 : (Nat → Int32)) (Q_seconds_40 : (Nat → Int32)) (Q_thirds_40 : (Nat → Int32)) (Q_nexts_40 : (Nat → Int32)) (Q_heads_40 : (Nat → Int32)) (Q_names_40 : (Nat → Int32)) (Q_variables_40 : (Nat → Int32)) (Q_holes_40 : (Nat → Int32)) (Q_sizes_40 : (Nat → Int32)) (Q_image_40 : (Nat → Int32)) (Q_bound_40 : (Nat → Int32)) (Q_waits_40 : (Nat → Int32)) (x1_40 : Int32) (x2_40 : Int32) (s1_40 : Int32), ∀ (H : Heap) (locs : List Loc), va_P D vwCl (wv_61 cI cJ cZ aQ aQ_kinds aQ_which aQ_firsts aQ_seconds aQ_thirds aQ_nexts aQ_heads aQ_names aQ_variables aQ_holes aQ_sizes aQ_places aQ_conclusions aQ_premises aQ_counts aQ_hitOf aQ_hitOne aQ_hitTwo aQ_hitTerms aQ_image aQ_bound aQ_waits aQ_waitsFor aQ_seen aQ_goals aQ_steps aQ_looked aQ_under aQ_taken aQ_news aQ_order aQ_there aQ_back Q_thrown_40 Q_all_40 Q_statements Q_hitKind Q_hits Q_tries Q_takenAll Q_takenFirst Q_kinds_40 Q_which_40 Q_firsts_40 Q_seconds_40 Q_thirds_40 Q_nexts_40 Q_heads_40 Q_names_40 Q_variables_40 Q_holes_40 Q_sizes_40 Q_premises Q_hitOf Q_hitTwo Q_hitTerms Q_image_40 Q_bound_40 Q_waits_40) H → va_D A (wv_61 cI cJ cZ aQ aQ_kinds aQ_which aQ_firsts aQ_seconds aQ_thirds aQ_nexts aQ_heads aQ_names aQ_variables aQ_holes aQ_sizes aQ_places aQ_conclusions aQ_premises aQ_counts aQ_hitOf aQ_hitOne aQ_hitTwo aQ_hitTerms aQ_image aQ_bound aQ_waits aQ_waitsFor aQ_seen aQ_goals aQ_steps aQ_looked aQ_under aQ_taken aQ_news aQ_order aQ_there aQ_back Q_thrown_40 Q_all_40 Q_statements Q_hitKind Q_hits Q_tries Q_takenAll Q_takenFirst Q_kinds_40 Q_which_40 Q_firsts_40 Q_seconds_40 Q_thirds_40 Q_nexts_40 Q_heads_40 Q_names_40 Q_variables_40 Q_holes_40 Q_sizes_40 Q_premises Q_hitOf Q_hitTwo Q_hitTerms Q_image_40 Q_bound_40 Q_waits_40) → va_S A s.heap H locs → ∀ (ls : Array Slot), lv_has ls 4 [(0, .ref aQ), (1, .int x1_40), (2, .int x2_40)] → f_Q_goal_B40 Q_hitKind Q_hits Q_premises Q_hitOf Q_hitTwo Q_hitTerms Q_thrown_40 Q_all_40 Q_kinds_40 Q_which_40 Q_firsts_40 Q_seconds_40 Q_thirds_40 Q_nexts_40 Q_heads_40 Q_names_40 Q_variables_40 Q_holes_40 Q_sizes_40 Q_image_40 Q_bound_40 Q_waits_40 x1_40 x2_40 s1_40 = some o → W p l e (headSpec (ws_Q_goal) rm_Q_goal).room s m ([.ref aQ, .int p0, .int p1] : List Value).toArray below meth c H locs 0 0 (MQ below (WQ D vwCl (some (.int o.1)) (wv_61 cI cJ cZ aQ aQ_kinds aQ_which aQ_firsts aQ_seconds aQ_thirds aQ_nexts aQ_heads aQ_names aQ_variables aQ_holes aQ_sizes aQ_places aQ_conclusions aQ_premises aQ_counts aQ_hitOf aQ_hitOne aQ_hitTwo aQ_hitTerms aQ_image aQ_bound aQ_waits aQ_waitsFor aQ_seen aQ_goals aQ_steps aQ_looked aQ_under aQ_taken aQ_news aQ_order aQ_there aQ_back o.2.1 o.2.2.1 Q_statements Q_hitKind Q_hits Q_tries Q_takenAll Q_takenFirst o.2.2.2.1 o.2.2.2.2.1 o.2.2.2.2.2.1 o.2.2.2.2.2.2.1 o.2.2.2.2.2.2.2.1 o.2.2.2.2.2.2.2.2.1 o.2.2.2.2.2.2.2.2.2.1 o.2.2.2.2.2.2.2.2.2.2.1 o.2.2.2.2.2.2.2.2.2.2.2.1 o.2.2.2.2.2.2.2.2.2.2.2.2.1 o.2.2.2.2.2.2.2.2.2.2.2.2.2.1 Q_premises Q_hitOf Q_hitTwo Q_hitTerms o.2.2.2.2.2.2.2.2.2.2.2.2.2.2.1 o.2.2.2.2.2.2.2.2.2.2.2.2.2.2.2.1 o.2.2.2.2.2.2.2.2.2.2.2.2.2.2.2.2) A) ([.ref aQ, .int p0, .int p1] : List Value).toArray s 0 0 A) (F0 m 40 ls [.int s1_40, .ref aQ]) := by
    intro Q_thrown_40 Q_all_40 Q_kinds_40 Q_which_40 Q_firsts_40 Q_seconds_40 Q_thirds_40 Q_nexts_40 Q_heads_40 Q_names_40 Q_variables_40 Q_holes_40 Q_sizes_40 Q_image_40 Q_bound_40 Q_waits_40 x1_40 x2_40 s1_40 H locs hP hD hS ls hl hf
    rw [f_Q_goal_B40] at hf
    obtain ⟨r7, hr7, hf⟩ := of_bd hf
    refine wr_call (ws' := (wv_61 cI cJ cZ aQ aQ_kinds aQ_which aQ_firsts aQ_seconds aQ_thirds aQ_nexts aQ_heads aQ_names aQ_variables aQ_holes aQ_sizes aQ_places aQ_conclusions aQ_premises aQ_counts aQ_hitOf aQ_hitOne aQ_hitTwo aQ_hitTerms aQ_image aQ_bound aQ_waits aQ_waitsFor aQ_seen aQ_goals aQ_steps aQ_looked aQ_under aQ_taken aQ_news aQ_order aQ_there aQ_back r7.2 Q_all_40 Q_statements Q_hitKind Q_hits Q_tries Q_takenAll Q_takenFirst Q_kinds_40 Q_which_40 Q_firsts_40 Q_seconds_40 Q_thirds_40 Q_nexts_40 Q_heads_40 Q_names_40 Q_variables_40 Q_holes_40 Q_sizes_40 Q_premises Q_hitOf Q_hitTwo Q_hitTerms Q_image_40 Q_bound_40 Q_waits_40)) (va_runV (As := [.int s1_40]) (rest := []) ⟨hx, hb, hml, hown, hts⟩ (c_Q_refuses l D cI cJ cZ aQ aQ_kinds aQ_which aQ_firsts aQ_seconds aQ_thirds aQ_nexts aQ_heads aQ_names aQ_variables aQ_holes aQ_sizes aQ_places aQ_conclusions aQ_premises aQ_counts aQ_hitOf aQ_hitOne aQ_hitTwo aQ_hitTerms aQ_image aQ_bound aQ_waits aQ_waitsFor aQ_seen aQ_goals aQ_steps aQ_looked aQ_under aQ_taken aQ_news aQ_order aQ_there aQ_back _ Q_thrown_40 Q_all_40 Q_statements Q_hitKind Q_hits Q_tries Q_takenAll Q_takenFirst s1_40 r7 hr7) (bigV 1 hts k4_203 k4_205 ks_Q_refuses k1_9 k4_206 rfl rfl hd_Q_refuses ⟨Nat.le_of_ble_eq_true rfl, Nat.le_of_ble_eq_true rfl⟩) (wr_preV hK hP hD [0] rfl (by decide) rfl 0 rfl rfl rfl) rfl rfl hl.1 rfl (lv_room (Nat.le_of_ble_eq_true rfl)) d_Q_goal_40 ⟨Nat.le_of_ble_eq_true rfl, Nat.le_of_ble_eq_true rfl⟩) hP hD hS hA [0] [1, 2, 3, 4, 5, 6, 7, 8, 9, 10, 11, 12, 13, 14, 15, 16, 17, 18] rfl rfl (by decide) (by decide) [18, 0, 1, 2, 3, 4, 5, 6, 7, 8, 9, 10, 11, 12, 13, 14, 15, 16, 17] (by decide) rfl (fun H locs hP hD hS => ?_)
    refine lv_if_eq (tgt := 48) hx hb d_Q_goal_43 (by decide) (fun c8 => ?_) (fun c8 => ?_)
    · have hf := ite_t c8 hf
      refine lv_iconst (v := 0) hx hb d_Q_goal_48 (by decide) ?_
      refine lv_istore_n (lv' := [(3, .int (0 : Int32)), (0, .ref aQ), (1, .int x1_40), (2, .int x2_40)]) hx hb d_Q_goal_49 rfl hl (by decide) rfl (fun ls hl => ?_)
      exact hL50 FU _ _ _ _ _ _ _ _ _ _ _ _ _ _ _ _ _ _ _ _ _ hP hD hS _ (lv_sub hl [1, 2, 3, 0] rfl) hf
    · have hf := ite_f c8 hf
      refine lv_iconst (v := 0) hx hb d_Q_goal_46 (by decide) ?_
      obtain rfl := Option.some.inj hf
      exact W.iret (v := (0 : Int32)) hx hb hr (fun t ht hW => ⟨rfl, by rw [ht]; exact hP, hD, hS.F ht⟩) hS.2.2 d_Q_goal_47
  rw [f_Q_goal] at hf
  refine lv_aload_n hx hb d_Q_goal_0 rfl (lv_at hl 0 rfl) ?_
  refine lv_aload_n hx hb d_Q_goal_1 rfl (lv_at hl 0 rfl) ?_
  refine va_get (D := D) (ci := 7) (v := .int Q_hitKind) (C := RR_Q) (T := FF_Q) (N := 41) hx hb hts kin_Q hown hK.1 hP 0 rfl rfl 18 (by decide) (hts _ k4_85) (fun _ h9 => h9) rfl d_Q_goal_2 ?_
  refine lv_iconst (v := 2) hx hb d_Q_goal_5 (by decide) ?_
  refine lv_icmp_ne (tgt := 35) hx hb d_Q_goal_6 (by decide) (fun c1 => ?_) (fun c1 => ?_)
  · have hf := ite_f c1 hf
    refine lv_iconst (v := 1) hx hb d_Q_goal_35 (by decide) ?_
    refine lv_goto (tgt := 40) hx hb d_Q_goal_36 (by decide) ?_
    exact hB40 _ _ _ _ _ _ _ _ _ _ _ _ _ _ _ _ _ _ _ _ _ hP hD hS _ (lv_sub hl [0, 1, 2] rfl) hf
  · have hf := ite_t c1 hf
    refine lv_iload_n hx hb d_Q_goal_9 rfl (lv_at hl 1 rfl) ?_
    refine lv_if_lt (tgt := 35) hx hb d_Q_goal_10 (by decide) (fun c2 => ?_) (fun c2 => ?_)
    · have hf := ite_t c2 hf
      refine lv_iconst (v := 1) hx hb d_Q_goal_35 (by decide) ?_
      refine lv_goto (tgt := 40) hx hb d_Q_goal_36 (by decide) ?_
      exact hB40 _ _ _ _ _ _ _ _ _ _ _ _ _ _ _ _ _ _ _ _ _ hP hD hS _ (lv_sub hl [0, 1, 2] rfl) hf
    · have hf := ite_f c2 hf
      refine lv_iload_n hx hb d_Q_goal_13 rfl (lv_at hl 1 rfl) ?_
      refine lv_aload_n hx hb d_Q_goal_14 rfl (lv_at hl 0 rfl) ?_
      refine va_get (D := D) (ci := 7) (v := .int Q_hits) (C := RR_Q) (T := FF_Q) (N := 41) hx hb hts kin_Q hown hK.1 hP 0 rfl rfl 19 (by decide) (hts _ k4_86) (fun _ h9 => h9) rfl d_Q_goal_15 ?_
      refine lv_icmp_ge (tgt := 35) hx hb d_Q_goal_18 (by decide) (fun c3 => ?_) (fun c3 => ?_)
      · have hf := ite_t c3 hf
        refine lv_iconst (v := 1) hx hb d_Q_goal_35 (by decide) ?_
        refine lv_goto (tgt := 40) hx hb d_Q_goal_36 (by decide) ?_
        exact hB40 _ _ _ _ _ _ _ _ _ _ _ _ _ _ _ _ _ _ _ _ _ hP hD hS _ (lv_sub hl [0, 1, 2] rfl) hf
      · have hf := ite_f c3 hf
        refine lv_iload_n hx hb d_Q_goal_21 rfl (lv_at hl 2 rfl) ?_
        refine lv_if_lt (tgt := 35) hx hb d_Q_goal_22 (by decide) (fun c4 => ?_) (fun c4 => ?_)
        · have hf := ite_t c4 hf
          refine lv_iconst (v := 1) hx hb d_Q_goal_35 (by decide) ?_
          refine lv_goto (tgt := 40) hx hb d_Q_goal_36 (by decide) ?_
          exact hB40 _ _ _ _ _ _ _ _ _ _ _ _ _ _ _ _ _ _ _ _ _ hP hD hS _ (lv_sub hl [0, 1, 2] rfl) hf
        · have hf := ite_f c4 hf
          refine lv_iload_n hx hb d_Q_goal_25 rfl (lv_at hl 2 rfl) ?_
          refine lv_aload_n hx hb d_Q_goal_26 rfl (lv_at hl 0 rfl) ?_
          refine va_get (D := D) (ci := 7) (v := .ref aQ_hitTwo) (C := RR_Q) (T := FF_Q) (N := 41) hx hb hts kin_Q hown hK.1 hP 0 rfl rfl 22 (by decide) (hts _ k4_89) (fun _ h9 => h9) rfl d_Q_goal_27 ?_
          refine lv_iload_n hx hb d_Q_goal_30 rfl (lv_at hl 1 rfl) ?_
          obtain ⟨h5, hf⟩ := of_gd hf
          refine va_iald hx hb hK.1 hP 14 0 rfl rfl (ixb_in h5) d_Q_goal_31 ?_
          refine lv_icmp_lt (tgt := 39) hx hb d_Q_goal_32 (by decide) (fun c6 => ?_) (fun c6 => ?_)
          · have hf := ite_t c6 hf
            refine lv_iconst (v := 0) hx hb d_Q_goal_39 (by decide) ?_
            exact hB40 _ _ _ _ _ _ _ _ _ _ _ _ _ _ _ _ _ _ _ _ _ hP hD hS _ (lv_sub hl [0, 1, 2] rfl) hf
          · have hf := ite_f c6 hf
            refine lv_iconst (v := 1) hx hb d_Q_goal_35 (by decide) ?_
            refine lv_goto (tgt := 40) hx hb d_Q_goal_36 (by decide) ?_
            exact hB40 _ _ _ _ _ _ _ _ _ _ _ _ _ _ _ _ _ _ _ _ _ hP hD hS _ (lv_sub hl [0, 1, 2] rfl) hf
def f_Q_areAlike_L238 (Q_kinds : (Nat → Int32)) (Q_which : (Nat → Int32)) (Q_firsts : (Nat → Int32)) (Q_seconds : (Nat → Int32)) (Q_thirds : (Nat → Int32)) (K37 : (Nat → Int32) → (Nat → Int32) → (Nat → Int32) → (Nat → Int32) → (Nat → Int32) → Int32 → Option (Int32 × (Nat → Int32) × (Nat → Int32) × (Nat → Int32) × (Nat → Int32) × (Nat → Int32))) : Nat → (Nat → Int32) → (Nat → Int32) → (Nat → Int32) → (Nat → Int32) → (Nat → Int32) → Int32 → Int32 → Int32 → Int32 → Option (Int32 × (Nat → Int32) × (Nat → Int32) × (Nat → Int32) × (Nat → Int32) × (Nat → Int32))
  | 0, _, _, _, _, _, _, _, _, _ => none
  | n + 1, Q_image_238, Q_waits_238, Q_waitsFor_238, Q_there_238, Q_back_238, x3_238, x4_238, x5_238, x6_238 =>
    if (3 : Int32) ≤ x6_238 then
      K37 Q_image_238 Q_waits_238 Q_waitsFor_238 Q_there_238 Q_back_238 x3_238
    else
      gd (ixb x4_238 101100) <|
      if (Q_kinds x4_238.toNatClampNeg) = 0 then
        (f_Q_part Q_firsts Q_seconds Q_thirds x4_238 x6_238).bind fun r50 =>
        if r50 = (-1 : Int32) then
          nm (x6_238 + (1 : Int32)) fun x52 =>
          (f_Q_areAlike_L238 Q_kinds Q_which Q_firsts Q_seconds Q_thirds K37 n) Q_image_238 Q_waits_238 Q_waitsFor_238 Q_there_238 Q_back_238 x3_238 x4_238 x5_238 x52
        else
          (f_Q_part Q_firsts Q_seconds Q_thirds x4_238 x6_238).bind fun r53 =>
          gd (ixb x3_238 400) <| nm (upd Q_waits_238 x3_238.toNatClampNeg r53) fun g55 =>
          (f_Q_part Q_firsts Q_seconds Q_thirds x5_238 x6_238).bind fun r56 =>
          gd (ixb x3_238 400) <| nm (upd Q_waitsFor_238 x3_238.toNatClampNeg r56) fun g58 =>
          nm (x3_238 + (1 : Int32)) fun x59 =>
          nm (x6_238 + (1 : Int32)) fun x60 =>
          (f_Q_areAlike_L238 Q_kinds Q_which Q_firsts Q_seconds Q_thirds K37 n) Q_image_238 g55 g58 Q_there_238 Q_back_238 x59 x4_238 x5_238 x60
      else
        K37 Q_image_238 Q_waits_238 Q_waitsFor_238 Q_there_238 Q_back_238 x3_238
def f_Q_areAlike_B209 (Q_kinds : (Nat → Int32)) (Q_which : (Nat → Int32)) (Q_firsts : (Nat → Int32)) (Q_seconds : (Nat → Int32)) (Q_thirds : (Nat → Int32)) (K37 : (Nat → Int32) → (Nat → Int32) → (Nat → Int32) → (Nat → Int32) → (Nat → Int32) → Int32 → Option (Int32 × (Nat → Int32) × (Nat → Int32) × (Nat → Int32) × (Nat → Int32) × (Nat → Int32))) (Q_image_209 : (Nat → Int32)) (Q_waits_209 : (Nat → Int32)) (Q_waitsFor_209 : (Nat → Int32)) (Q_there_209 : (Nat → Int32)) (Q_back_209 : (Nat → Int32)) (x3_209 : Int32) (x4_209 : Int32) (x5_209 : Int32) (x6_209 : Int32) (x7_209 : Int32) : Option (Int32 × (Nat → Int32) × (Nat → Int32) × (Nat → Int32) × (Nat → Int32) × (Nat → Int32)) :=
  gd (ixb x6_209 8) <|
  if (Q_there_209 x6_209.toNatClampNeg) = x7_209 then
    gd (ixb x7_209 8) <|
    if (Q_back_209 x7_209.toNatClampNeg) = x6_209 then
      f_Q_areAlike_L238 Q_kinds Q_which Q_firsts Q_seconds Q_thirds K37 FU Q_image_209 Q_waits_209 Q_waitsFor_209 Q_there_209 Q_back_209 x3_209 x4_209 x5_209 (0 : Int32)
    else
      some ((0 : Int32), Q_image_209, Q_waits_209, Q_waitsFor_209, Q_there_209, Q_back_209)
  else
    some ((0 : Int32), Q_image_209, Q_waits_209, Q_waitsFor_209, Q_there_209, Q_back_209)
def f_Q_areAlike_B140 (Q_kinds : (Nat → Int32)) (Q_which : (Nat → Int32)) (Q_firsts : (Nat → Int32)) (Q_seconds : (Nat → Int32)) (Q_thirds : (Nat → Int32)) (K37 : (Nat → Int32) → (Nat → Int32) → (Nat → Int32) → (Nat → Int32) → (Nat → Int32) → Int32 → Option (Int32 × (Nat → Int32) × (Nat → Int32) × (Nat → Int32) × (Nat → Int32) × (Nat → Int32))) (Q_image_140 : (Nat → Int32)) (Q_waits_140 : (Nat → Int32)) (Q_waitsFor_140 : (Nat → Int32)) (Q_there_140 : (Nat → Int32)) (Q_back_140 : (Nat → Int32)) (x3_140 : Int32) (x4_140 : Int32) (x5_140 : Int32) : Option (Int32 × (Nat → Int32) × (Nat → Int32) × (Nat → Int32) × (Nat → Int32) × (Nat → Int32)) :=
  gd (ixb x4_140 101100) <|
  if (Q_kinds x4_140.toNatClampNeg) = (1 : Int32) then
    gd (ixb x4_140 101100) <|
    nm (Q_which x4_140.toNatClampNeg) fun x32 =>
    gd (ixb x5_140 101100) <|
    nm (Q_which x5_140.toNatClampNeg) fun x34 =>
    gd (ixb x32 8) <|
    if (Q_there_140 x32.toNatClampNeg) = (-1 : Int32) then
      gd (ixb x34 8) <|
      if (Q_back_140 x34.toNatClampNeg) = (-1 : Int32) then
        gd (ixb x32 8) <| nm (upd Q_there_140 x32.toNatClampNeg x34) fun g40 =>
        gd (ixb x34 8) <| nm (upd Q_back_140 x34.toNatClampNeg x32) fun g42 =>
        f_Q_areAlike_B209 Q_kinds Q_which Q_firsts Q_seconds Q_thirds K37 Q_image_140 Q_waits_140 Q_waitsFor_140 g40 g42 x3_140 x4_140 x5_140 x32 x34
      else
        f_Q_areAlike_B209 Q_kinds Q_which Q_firsts Q_seconds Q_thirds K37 Q_image_140 Q_waits_140 Q_waitsFor_140 Q_there_140 Q_back_140 x3_140 x4_140 x5_140 x32 x34
    else
      f_Q_areAlike_B209 Q_kinds Q_which Q_firsts Q_seconds Q_thirds K37 Q_image_140 Q_waits_140 Q_waitsFor_140 Q_there_140 Q_back_140 x3_140 x4_140 x5_140 x32 x34
  else
    f_Q_areAlike_L238 Q_kinds Q_which Q_firsts Q_seconds Q_thirds K37 FU Q_image_140 Q_waits_140 Q_waitsFor_140 Q_there_140 Q_back_140 x3_140 x4_140 x5_140 (0 : Int32)
def f_Q_areAlike_L37 (Q_kinds : (Nat → Int32)) (Q_which : (Nat → Int32)) (Q_firsts : (Nat → Int32)) (Q_seconds : (Nat → Int32)) (Q_thirds : (Nat → Int32)) : Nat → (Nat → Int32) → (Nat → Int32) → (Nat → Int32) → (Nat → Int32) → (Nat → Int32) → Int32 → Option (Int32 × (Nat → Int32) × (Nat → Int32) × (Nat → Int32) × (Nat → Int32) × (Nat → Int32))
  | 0, _, _, _, _, _, _ => none
  | n + 1, Q_image_37, Q_waits_37, Q_waitsFor_37, Q_there_37, Q_back_37, x3_37 =>
    if x3_37 ≤ 0 then
      some ((1 : Int32), Q_image_37, Q_waits_37, Q_waitsFor_37, Q_there_37, Q_back_37)
    else
      nm (x3_37 + (-1 : Int32)) fun x10 =>
      gd (ixb x10 400) <|
      nm (Q_waits_37 x10.toNatClampNeg) fun x12 =>
      gd (ixb x10 400) <|
      nm (Q_waitsFor_37 x10.toNatClampNeg) fun x14 =>
      gd (ixb x12 100) <|
      if (Q_image_37 x12.toNatClampNeg) = (-1 : Int32) then
        gd (ixb x12 100) <| nm (upd Q_image_37 x12.toNatClampNeg x14) fun g18 =>
        gd (ixb x12 101100) <|
        gd (ixb x14 101100) <|
        if (Q_kinds x12.toNatClampNeg) = (Q_kinds x14.toNatClampNeg) then
          gd (ixb x12 101100) <|
          if (Q_kinds x12.toNatClampNeg) = 0 then
            gd (ixb x12 101100) <|
            gd (ixb x14 101100) <|
            if (Q_which x12.toNatClampNeg) = (Q_which x14.toNatClampNeg) then
              f_Q_areAlike_B140 Q_kinds Q_which Q_firsts Q_seconds Q_thirds (f_Q_areAlike_L37 Q_kinds Q_which Q_firsts Q_seconds Q_thirds n) g18 Q_waits_37 Q_waitsFor_37 Q_there_37 Q_back_37 x10 x12 x14
            else
              some ((0 : Int32), g18, Q_waits_37, Q_waitsFor_37, Q_there_37, Q_back_37)
          else
            f_Q_areAlike_B140 Q_kinds Q_which Q_firsts Q_seconds Q_thirds (f_Q_areAlike_L37 Q_kinds Q_which Q_firsts Q_seconds Q_thirds n) g18 Q_waits_37 Q_waitsFor_37 Q_there_37 Q_back_37 x10 x12 x14
        else
          some ((0 : Int32), g18, Q_waits_37, Q_waitsFor_37, Q_there_37, Q_back_37)
      else
        gd (ixb x12 100) <|
        if (Q_image_37 x12.toNatClampNeg) = x14 then
          (f_Q_areAlike_L37 Q_kinds Q_which Q_firsts Q_seconds Q_thirds n) Q_image_37 Q_waits_37 Q_waitsFor_37 Q_there_37 Q_back_37 x10
        else
          some ((0 : Int32), Q_image_37, Q_waits_37, Q_waitsFor_37, Q_there_37, Q_back_37)
def f_Q_areAlike_L2 (Q_kinds : (Nat → Int32)) (Q_which : (Nat → Int32)) (Q_firsts : (Nat → Int32)) (Q_seconds : (Nat → Int32)) (Q_thirds : (Nat → Int32)) : Nat → (Nat → Int32) → (Nat → Int32) → (Nat → Int32) → (Nat → Int32) → (Nat → Int32) → Int32 → Int32 → Int32 → Option (Int32 × (Nat → Int32) × (Nat → Int32) × (Nat → Int32) × (Nat → Int32) × (Nat → Int32))
  | 0, _, _, _, _, _, _, _, _ => none
  | n + 1, Q_image_2, Q_waits_2, Q_waitsFor_2, Q_there_2, Q_back_2, x1_2, x2_2, x3_2 =>
    if (100 : Int32) ≤ x3_2 then
      gd (ixb (0 : Int32) 400) <| nm (upd Q_waits_2 (0 : Int32).toNatClampNeg x1_2) fun g3 =>
      gd (ixb (0 : Int32) 400) <| nm (upd Q_waitsFor_2 (0 : Int32).toNatClampNeg x2_2) fun g5 =>
      f_Q_areAlike_L37 Q_kinds Q_which Q_firsts Q_seconds Q_thirds FU Q_image_2 g3 g5 Q_there_2 Q_back_2 (1 : Int32)
    else
      gd (ixb x3_2 100) <| nm (upd Q_image_2 x3_2.toNatClampNeg (-1 : Int32)) fun g7 =>
      nm (x3_2 + (1 : Int32)) fun x8 =>
      (f_Q_areAlike_L2 Q_kinds Q_which Q_firsts Q_seconds Q_thirds n) g7 Q_waits_2 Q_waitsFor_2 Q_there_2 Q_back_2 x1_2 x2_2 x8
def f_Q_areAlike (Q_kinds : (Nat → Int32)) (Q_which : (Nat → Int32)) (Q_firsts : (Nat → Int32)) (Q_seconds : (Nat → Int32)) (Q_thirds : (Nat → Int32)) (Q_image : (Nat → Int32)) (Q_waits : (Nat → Int32)) (Q_waitsFor : (Nat → Int32)) (Q_there : (Nat → Int32)) (Q_back : (Nat → Int32)) (p0 : Int32) (p1 : Int32) : Option (Int32 × (Nat → Int32) × (Nat → Int32) × (Nat → Int32) × (Nat → Int32) × (Nat → Int32)) :=
  f_Q_areAlike_L2 Q_kinds Q_which Q_firsts Q_seconds Q_thirds FU Q_image Q_waits Q_waitsFor Q_there Q_back p0 p1 (0 : Int32)
abbrev rm_Q_areAlike : Room := { frames := 1, cells := 0, slots := 0, locals := 22 }
set_option maxHeartbeats 4000000 in
set_option maxRecDepth 100000 in
theorem c_Q_areAlike (l : Launch) (D : va_G) (cI cJ cZ : ClassId) (aQ aQ_kinds aQ_which aQ_firsts aQ_seconds aQ_thirds aQ_nexts aQ_heads aQ_names aQ_variables aQ_holes aQ_sizes aQ_places aQ_conclusions aQ_premises aQ_counts aQ_hitOf aQ_hitOne aQ_hitTwo aQ_hitTerms aQ_image aQ_bound aQ_waits aQ_waitsFor aQ_seen aQ_goals aQ_steps aQ_looked aQ_under aQ_taken aQ_news aQ_order aQ_there aQ_back : Nat) (sz : Nat) (Q_thrown : Int32) (Q_all : Int32) (Q_statements : Int32) (Q_hitKind : Int32) (Q_hits : Int32) (Q_tries : Int32) (Q_takenAll : Int32) (Q_takenFirst : Int32) (Q_kinds : (Nat → Int32)) (Q_which : (Nat → Int32)) (Q_firsts : (Nat → Int32)) (Q_seconds : (Nat → Int32)) (Q_thirds : (Nat → Int32)) (Q_image : (Nat → Int32)) (Q_waits : (Nat → Int32)) (Q_waitsFor : (Nat → Int32)) (Q_there : (Nat → Int32)) (Q_back : (Nat → Int32)) (p0 : Int32) (p1 : Int32) (o : Int32 × (Nat → Int32) × (Nat → Int32) × (Nat → Int32) × (Nat → Int32) × (Nat → Int32)) (hf : f_Q_areAlike Q_kinds Q_which Q_firsts Q_seconds Q_thirds Q_image Q_waits Q_waitsFor Q_there Q_back p0 p1 = some o) : Met l y_Q_areAlike (ws_Q_areAlike) rm_Q_areAlike (WPc D vwCl cI cJ cZ [.ref aQ, .int p0, .int p1] (wv_62 cI cJ cZ aQ aQ_kinds aQ_which aQ_firsts aQ_seconds aQ_thirds aQ_nexts aQ_heads aQ_names aQ_variables aQ_holes aQ_sizes aQ_places aQ_conclusions aQ_premises aQ_counts aQ_hitOf aQ_hitOne aQ_hitTwo aQ_hitTerms aQ_image aQ_bound aQ_waits aQ_waitsFor aQ_seen aQ_goals aQ_steps aQ_looked aQ_under aQ_taken aQ_news aQ_order aQ_there aQ_back Q_thrown Q_all Q_statements Q_hitKind Q_hits Q_tries Q_takenAll Q_takenFirst Q_kinds Q_which Q_firsts Q_seconds Q_thirds Q_image Q_waits Q_waitsFor Q_there Q_back) sz) (WQ D vwCl (some (.int o.1)) (wv_62 cI cJ cZ aQ aQ_kinds aQ_which aQ_firsts aQ_seconds aQ_thirds aQ_nexts aQ_heads aQ_names aQ_variables aQ_holes aQ_sizes aQ_places aQ_conclusions aQ_premises aQ_counts aQ_hitOf aQ_hitOne aQ_hitTwo aQ_hitTerms aQ_image aQ_bound aQ_waits aQ_waitsFor aQ_seen aQ_goals aQ_steps aQ_looked aQ_under aQ_taken aQ_news aQ_order aQ_there aQ_back Q_thrown Q_all Q_statements Q_hitKind Q_hits Q_tries Q_takenAll Q_takenFirst Q_kinds Q_which Q_firsts Q_seconds Q_thirds o.2.1 o.2.2.1 o.2.2.2.1 o.2.2.2.2.1 o.2.2.2.2.2) (va_A (wv_62 cI cJ cZ aQ aQ_kinds aQ_which aQ_firsts aQ_seconds aQ_thirds aQ_nexts aQ_heads aQ_names aQ_variables aQ_holes aQ_sizes aQ_places aQ_conclusions aQ_premises aQ_counts aQ_hitOf aQ_hitOne aQ_hitTwo aQ_hitTerms aQ_image aQ_bound aQ_waits aQ_waitsFor aQ_seen aQ_goals aQ_steps aQ_looked aQ_under aQ_taken aQ_news aQ_order aQ_there aQ_back Q_thrown Q_all Q_statements Q_hitKind Q_hits Q_tries Q_takenAll Q_takenFirst Q_kinds Q_which Q_firsts Q_seconds Q_thirds Q_image Q_waits Q_waitsFor Q_there Q_back) sz)) 0 0 (va_A (wv_62 cI cJ cZ aQ aQ_kinds aQ_which aQ_firsts aQ_seconds aQ_thirds aQ_nexts aQ_heads aQ_names aQ_variables aQ_holes aQ_sizes aQ_places aQ_conclusions aQ_premises aQ_counts aQ_hitOf aQ_hitOne aQ_hitTwo aQ_hitTerms aQ_image aQ_bound aQ_waits aQ_waitsFor aQ_seen aQ_goals aQ_steps aQ_looked aQ_under aQ_taken aQ_news aQ_order aQ_there aQ_back Q_thrown Q_all Q_statements Q_hitKind Q_hits Q_tries Q_takenAll Q_takenFirst Q_kinds Q_which Q_firsts Q_seconds Q_thirds Q_image Q_waits Q_waitsFor Q_there Q_back) sz) := by
  refine Met.ofW (cc := b_Q_areAlike) (maxL := 8) (ret := (some .boolean)) (by decide) rfl ?_
  intro p e s m args below meth c s₁ B hml hv
  obtain ⟨rfl, rfl, hP, hK, hD0⟩ := hv
  have hx := B.exec
  have hb := B.bytes
  have hr := B.returns
  have hts : ∀ w ∈ BG, w.before _ s = true := fun w h => atoms_spec (ws := (ws_Q_areAlike)) B.pre w (List.mem_cons_of_mem _ h)
  have hown : s.vm.findClass RR_Q = some m.cls := findClass_of_methodNamed B.named
  have hlocks := B.notSynchronized
  have hD := hD0.self (sz := s.heap.size)
  have hA : ∀ q : Nat, s.heap.size ≤ q → va_A (wv_62 cI cJ cZ aQ aQ_kinds aQ_which aQ_firsts aQ_seconds aQ_thirds aQ_nexts aQ_heads aQ_names aQ_variables aQ_holes aQ_sizes aQ_places aQ_conclusions aQ_premises aQ_counts aQ_hitOf aQ_hitOne aQ_hitTwo aQ_hitTerms aQ_image aQ_bound aQ_waits aQ_waitsFor aQ_seen aQ_goals aQ_steps aQ_looked aQ_under aQ_taken aQ_news aQ_order aQ_there aQ_back Q_thrown Q_all Q_statements Q_hitKind Q_hits Q_tries Q_takenAll Q_takenFirst Q_kinds Q_which Q_firsts Q_seconds Q_thirds Q_image Q_waits Q_waitsFor Q_there Q_back) s.heap.size q := fun q h => Or.inr h
  have hS : va_S (va_A (wv_62 cI cJ cZ aQ aQ_kinds aQ_which aQ_firsts aQ_seconds aQ_thirds aQ_nexts aQ_heads aQ_names aQ_variables aQ_holes aQ_sizes aQ_places aQ_conclusions aQ_premises aQ_counts aQ_hitOf aQ_hitOne aQ_hitTwo aQ_hitTerms aQ_image aQ_bound aQ_waits aQ_waitsFor aQ_seen aQ_goals aQ_steps aQ_looked aQ_under aQ_taken aQ_news aQ_order aQ_there aQ_back Q_thrown Q_all Q_statements Q_hitKind Q_hits Q_tries Q_takenAll Q_takenFirst Q_kinds Q_which Q_firsts Q_seconds Q_thirds Q_image Q_waits Q_waitsFor Q_there Q_back) s.heap.size) s.heap s.heap [] := va_S.rf
  generalize va_A (wv_62 cI cJ cZ aQ aQ_kinds aQ_which aQ_firsts aQ_seconds aQ_thirds aQ_nexts aQ_heads aQ_names aQ_variables aQ_holes aQ_sizes aQ_places aQ_conclusions aQ_premises aQ_counts aQ_hitOf aQ_hitOne aQ_hitTwo aQ_hitTerms aQ_image aQ_bound aQ_waits aQ_waitsFor aQ_seen aQ_goals aQ_steps aQ_looked aQ_under aQ_taken aQ_news aQ_order aQ_there aQ_back Q_thrown Q_all Q_statements Q_hitKind Q_hits Q_tries Q_takenAll Q_takenFirst Q_kinds Q_which Q_firsts Q_seconds Q_thirds Q_image Q_waits Q_waitsFor Q_there Q_back) s.heap.size = A at hD hA hS ⊢
  have hl := lv_entry ([.ref aQ, .int p0, .int p1]) (n := 8) (Nat.le_of_ble_eq_true rfl)
  rw [lg_entry_eq]
  generalize (lg_sl ([.ref aQ, .int p0, .int p1]) ++ List.replicate (8 - (lg_sl ([.ref aQ, .int p0, .int p1])).length) Slot.unset).toArray = ls at hl ⊢
  have hl : lv_has ls 8 [(0, .ref aQ), (1, .int p0), (2, .int p1)] := hl
  have hL37 : ∀ (n37 : Nat), ∀ (Q_image_37 : (Nat → Int32)) (Q_waits_37 : (Nat → Int32)) (Q_waitsFor_37 : (Nat → Int32)) (Q_there_37 : (Nat → Int32)) (Q_back_37 : (Nat → Int32)) (x3_37 : Int32), ∀ (H : Heap) (locs : List Loc), va_P D vwCl (wv_62 cI cJ cZ aQ aQ_kinds aQ_which aQ_firsts aQ_seconds aQ_thirds aQ_nexts aQ_heads aQ_names aQ_variables aQ_holes aQ_sizes aQ_places aQ_conclusions aQ_premises aQ_counts aQ_hitOf aQ_hitOne aQ_hitTwo aQ_hitTerms aQ_image aQ_bound aQ_waits aQ_waitsFor aQ_seen aQ_goals aQ_steps aQ_looked aQ_under aQ_taken aQ_news aQ_order aQ_there aQ_back Q_thrown Q_all Q_statements Q_hitKind Q_hits Q_tries Q_takenAll Q_takenFirst Q_kinds Q_which Q_firsts Q_seconds Q_thirds Q_image_37 Q_waits_37 Q_waitsFor_37 Q_there_37 Q_back_37) H → va_D A (wv_62 cI cJ cZ aQ aQ_kinds aQ_which aQ_firsts aQ_seconds aQ_thirds aQ_nexts aQ_heads aQ_names aQ_variables aQ_holes aQ_sizes aQ_places aQ_conclusions aQ_premises aQ_counts aQ_hitOf aQ_hitOne aQ_hitTwo aQ_hitTerms aQ_image aQ_bound aQ_waits aQ_waitsFor aQ_seen aQ_goals aQ_steps aQ_looked aQ_under aQ_taken aQ_news aQ_order aQ_there aQ_back Q_thrown Q_all Q_statements Q_hitKind Q_hits Q_tries Q_takenAll Q_takenFirst Q_kinds Q_which Q_firsts Q_seconds Q_thirds Q_image_37 Q_waits_37 Q_waitsFor_37 Q_there_37 Q_back_37) → va_S A s.heap H locs → ∀ (ls : Array Slot), lv_has ls 8 [(0, .ref aQ), (3, .int x3_37)] → f_Q_areAlike_L37 Q_kinds Q_which Q_firsts Q_seconds Q_thirds n37 Q_image_37 Q_waits_37 Q_waitsFor_37 Q_there_37 Q_back_37 x3_37 = some o → W p l e (headSpec (ws_Q_areAlike) rm_Q_areAlike).room s m ([.ref aQ, .int p0, .int p1] : List Value).toArray below meth c H locs 0 0 (MQ below (WQ D vwCl (some (.int o.1)) (wv_62 cI cJ cZ aQ aQ_kinds aQ_which aQ_firsts aQ_seconds aQ_thirds aQ_nexts aQ_heads aQ_names aQ_variables aQ_holes aQ_sizes aQ_places aQ_conclusions aQ_premises aQ_counts aQ_hitOf aQ_hitOne aQ_hitTwo aQ_hitTerms aQ_image aQ_bound aQ_waits aQ_waitsFor aQ_seen aQ_goals aQ_steps aQ_looked aQ_under aQ_taken aQ_news aQ_order aQ_there aQ_back Q_thrown Q_all Q_statements Q_hitKind Q_hits Q_tries Q_takenAll Q_takenFirst Q_kinds Q_which Q_firsts Q_seconds Q_thirds o.2.1 o.2.2.1 o.2.2.2.1 o.2.2.2.2.1 o.2.2.2.2.2) A) ([.ref aQ, .int p0, .int p1] : List Value).toArray s 0 0 A) (F0 m 37 ls []) := by
    intro n37
    induction n37 with
    | zero =>
      intro Q_image_37 Q_waits_37 Q_waitsFor_37 Q_there_37 Q_back_37 x3_37 H locs hP hD hS ls hl hf
      rw [f_Q_areAlike_L37] at hf
      cases hf
    | succ n37 ih37 =>
      have hL238 : ∀ (n238 : Nat), ∀ (Q_image_238 : (Nat → Int32)) (Q_waits_238 : (Nat → Int32)) (Q_waitsFor_238 : (Nat → Int32)) (Q_there_238 : (Nat → Int32)) (Q_back_238 : (Nat → Int32)) (x3_238 : Int32) (x4_238 : Int32) (x5_238 : Int32) (x6_238 : Int32), ∀ (H : Heap) (locs : List Loc), va_P D vwCl (wv_62 cI cJ cZ aQ aQ_kinds aQ_which aQ_firsts aQ_seconds aQ_thirds aQ_nexts aQ_heads aQ_names aQ_variables aQ_holes aQ_sizes aQ_places aQ_conclusions aQ_premises aQ_counts aQ_hitOf aQ_hitOne aQ_hitTwo aQ_hitTerms aQ_image aQ_bound aQ_waits aQ_waitsFor aQ_seen aQ_goals aQ_steps aQ_looked aQ_under aQ_taken aQ_news aQ_order aQ_there aQ_back Q_thrown Q_all Q_statements Q_hitKind Q_hits Q_tries Q_takenAll Q_takenFirst Q_kinds Q_which Q_firsts Q_seconds Q_thirds Q_image_238 Q_waits_238 Q_waitsFor_238 Q_there_238 Q_back_238) H → va_D A (wv_62 cI cJ cZ aQ aQ_kinds aQ_which aQ_firsts aQ_seconds aQ_thirds aQ_nexts aQ_heads aQ_names aQ_variables aQ_holes aQ_sizes aQ_places aQ_conclusions aQ_premises aQ_counts aQ_hitOf aQ_hitOne aQ_hitTwo aQ_hitTerms aQ_image aQ_bound aQ_waits aQ_waitsFor aQ_seen aQ_goals aQ_steps aQ_looked aQ_under aQ_taken aQ_news aQ_order aQ_there aQ_back Q_thrown Q_all Q_statements Q_hitKind Q_hits Q_tries Q_takenAll Q_takenFirst Q_kinds Q_which Q_firsts Q_seconds Q_thirds Q_image_238 Q_waits_238 Q_waitsFor_238 Q_there_238 Q_back_238) → va_S A s.heap H locs → ∀ (ls : Array Slot), lv_has ls 8 [(0, .ref aQ), (3, .int x3_238), (4, .int x4_238), (5, .int x5_238), (6, .int x6_238)] → f_Q_areAlike_L238 Q_kinds Q_which Q_firsts Q_seconds Q_thirds (f_Q_areAlike_L37 Q_kinds Q_which Q_firsts Q_seconds Q_thirds n37) n238 Q_image_238 Q_waits_238 Q_waitsFor_238 Q_there_238 Q_back_238 x3_238 x4_238 x5_238 x6_238 = some o → W p l e (headSpec (ws_Q_areAlike) rm_Q_areAlike).room s m ([.ref aQ, .int p0, .int p1] : List Value).toArray below meth c H locs 0 0 (MQ below (WQ D vwCl (some (.int o.1)) (wv_62 cI cJ cZ aQ aQ_kinds aQ_which aQ_firsts aQ_seconds aQ_thirds aQ_nexts aQ_heads aQ_names aQ_variables aQ_holes aQ_sizes aQ_places aQ_conclusions aQ_premises aQ_counts aQ_hitOf aQ_hitOne aQ_hitTwo aQ_hitTerms aQ_image aQ_bound aQ_waits aQ_waitsFor aQ_seen aQ_goals aQ_steps aQ_looked aQ_under aQ_taken aQ_news aQ_order aQ_there aQ_back Q_thrown Q_all Q_statements Q_hitKind Q_hits Q_tries Q_takenAll Q_takenFirst Q_kinds Q_which Q_firsts Q_seconds Q_thirds o.2.1 o.2.2.1 o.2.2.2.1 o.2.2.2.2.1 o.2.2.2.2.2) A) ([.ref aQ, .int p0, .int p1] : List Value).toArray s 0 0 A) (F0 m 238 ls []) := by
        intro n238
        induction n238 with
        | zero =>
          intro Q_image_238 Q_waits_238 Q_waitsFor_238 Q_there_238 Q_back_238 x3_238 x4_238 x5_238 x6_238 H locs hP hD hS ls hl hf
          rw [f_Q_areAlike_L238] at hf
          cases hf
        | succ n238 ih238 =>
          intro Q_image_238 Q_waits_238 Q_waitsFor_238 Q_there_238 Q_back_238 x3_238 x4_238 x5_238 x6_238 H locs hP hD hS ls hl hf
          rw [f_Q_areAlike_L238] at hf
          refine lv_iload hx hb d_Q_areAlike_238 (lv_at hl 4 rfl) ?_
          refine lv_iconst (v := 3) hx hb d_Q_areAlike_240 (by decide) ?_
          refine lv_icmp_ge (tgt := 303) hx hb d_Q_areAlike_241 (by decide) (fun c47 => ?_) (fun c47 => ?_)
          · have hf := ite_t c47 hf
            refine lv_goto (tgt := 37) hx hb d_Q_areAlike_303 (by decide) ?_
            exact ih37 _ _ _ _ _ _ _ _ hP hD hS _ (lv_sub hl [0, 1] rfl) hf
          · have hf := ite_f c47 hf
            refine lv_aload_n hx hb d_Q_areAlike_244 rfl (lv_at hl 0 rfl) ?_
            refine va_get (D := D) (ci := 7) (v := .ref aQ_kinds) (C := RR_Q) (T := FF_Q) (N := 41) hx hb hts kin_Q hown hK.1 hP 0 rfl rfl 1 (by decide) (hts _ k4_68) (fun _ h9 => h9) rfl d_Q_areAlike_245 ?_
            refine lv_iload hx hb d_Q_areAlike_248 (lv_at hl 2 rfl) ?_
            obtain ⟨h48, hf⟩ := of_gd hf
            refine va_iald hx hb hK.1 hP 1 0 rfl rfl (ixb_in h48) d_Q_areAlike_250 ?_
            refine lv_if_ne (tgt := 303) hx hb d_Q_areAlike_251 (by decide) (fun c49 => ?_) (fun c49 => ?_)
            · have hf := ite_f c49 hf
              refine lv_goto (tgt := 37) hx hb d_Q_areAlike_303 (by decide) ?_
              exact ih37 _ _ _ _ _ _ _ _ hP hD hS _ (lv_sub hl [0, 1] rfl) hf
            · have hf := ite_t c49 hf
              refine lv_aload_n hx hb d_Q_areAlike_254 rfl (lv_at hl 0 rfl) ?_
              refine lv_iload hx hb d_Q_areAlike_255 (lv_at hl 2 rfl) ?_
              refine lv_iload hx hb d_Q_areAlike_257 (lv_at hl 4 rfl) ?_
              obtain ⟨r50, hr50, hf⟩ := of_bd hf
              refine rd_call (va_runV (As := [.int x4_238, .int x6_238]) (rest := []) ⟨hx, hb, hml, hown, hts⟩ (c_Q_part l D cI cJ cZ aQ aQ_kinds aQ_which aQ_firsts aQ_seconds aQ_thirds aQ_nexts aQ_heads aQ_names aQ_variables aQ_holes aQ_sizes aQ_places aQ_conclusions aQ_premises aQ_counts aQ_hitOf aQ_hitOne aQ_hitTwo aQ_hitTerms aQ_image aQ_bound aQ_waits aQ_waitsFor aQ_seen aQ_goals aQ_steps aQ_looked aQ_under aQ_taken aQ_news aQ_order aQ_there aQ_back Q_thrown Q_all Q_statements Q_hitKind Q_hits Q_tries Q_takenAll Q_takenFirst Q_firsts Q_seconds Q_thirds x4_238 x6_238 r50 hr50) (bigV 2 hts k4_218 k4_220 ks_Q_part k1_9 k4_221 rfl rfl hd_Q_part ⟨Nat.le_of_ble_eq_true rfl, Nat.le_of_ble_eq_true rfl⟩) (rd_preV hK hP [0, 3, 4, 5] rfl 0 rfl rfl rfl) rfl rfl hl.1 rfl (lv_room (Nat.le_of_ble_eq_true rfl)) d_Q_areAlike_259 ⟨Nat.le_of_ble_eq_true rfl, Nat.le_of_ble_eq_true rfl⟩) ?_
              refine lv_iconst (v := -1) hx hb d_Q_areAlike_262 (by decide) ?_
              refine lv_icmp_eq (tgt := 297) hx hb d_Q_areAlike_263 (by decide) (fun c51 => ?_) (fun c51 => ?_)
              · have hf := ite_t c51 hf
                obtain ⟨x52, ex52⟩ : ∃ y : Int32, y = x6_238 + (1 : Int32) := ⟨_, rfl⟩
                refine lv_iinc (v := x52) (lv' := [(6, .int x52), (0, .ref aQ), (3, .int x3_238), (4, .int x4_238), (5, .int x5_238)]) hx hb d_Q_areAlike_297 hl (k := 4) rfl (by rw [ex52]; rfl) (by decide) rfl (fun ls hl => ?_)
                have hf := of_nm ex52 hf
                refine lv_goto (tgt := 238) hx hb d_Q_areAlike_300 (by decide) ?_
                exact ih238 _ _ _ _ _ _ _ _ _ _ _ hP hD hS _ (lv_sub hl [1, 2, 3, 4, 0] rfl) hf
              · have hf := ite_f c51 hf
                refine lv_aload_n hx hb d_Q_areAlike_266 rfl (lv_at hl 0 rfl) ?_
                refine va_get (D := D) (ci := 7) (v := .ref aQ_waits) (C := RR_Q) (T := FF_Q) (N := 41) hx hb hts kin_Q hown hK.1 hP 0 rfl rfl 26 (by decide) (hts _ k4_93) (fun _ h9 => h9) rfl d_Q_areAlike_267 ?_
                refine lv_iload_n hx hb d_Q_areAlike_270 rfl (lv_at hl 1 rfl) ?_
                refine lv_aload_n hx hb d_Q_areAlike_271 rfl (lv_at hl 0 rfl) ?_
                refine lv_iload hx hb d_Q_areAlike_272 (lv_at hl 2 rfl) ?_
                refine lv_iload hx hb d_Q_areAlike_274 (lv_at hl 4 rfl) ?_
                obtain ⟨r53, hr53, hf⟩ := of_bd hf
                refine rd_call (va_runV (As := [.int x4_238, .int x6_238]) (rest := [.int x3_238, .ref aQ_waits]) ⟨hx, hb, hml, hown, hts⟩ (c_Q_part l D cI cJ cZ aQ aQ_kinds aQ_which aQ_firsts aQ_seconds aQ_thirds aQ_nexts aQ_heads aQ_names aQ_variables aQ_holes aQ_sizes aQ_places aQ_conclusions aQ_premises aQ_counts aQ_hitOf aQ_hitOne aQ_hitTwo aQ_hitTerms aQ_image aQ_bound aQ_waits aQ_waitsFor aQ_seen aQ_goals aQ_steps aQ_looked aQ_under aQ_taken aQ_news aQ_order aQ_there aQ_back Q_thrown Q_all Q_statements Q_hitKind Q_hits Q_tries Q_takenAll Q_takenFirst Q_firsts Q_seconds Q_thirds x4_238 x6_238 r53 hr53) (bigV 2 hts k4_218 k4_220 ks_Q_part k1_9 k4_221 rfl rfl hd_Q_part ⟨Nat.le_of_ble_eq_true rfl, Nat.le_of_ble_eq_true rfl⟩) (rd_preV hK hP [0, 3, 4, 5] rfl 0 rfl rfl rfl) rfl rfl hl.1 rfl (lv_room (Nat.le_of_ble_eq_true rfl)) d_Q_areAlike_276 ⟨Nat.le_of_ble_eq_true rfl, Nat.le_of_ble_eq_true rfl⟩) ?_
                obtain ⟨h54, hf⟩ := of_gd hf
                obtain ⟨g55, eg55⟩ : ∃ y : Nat → Int32, y = upd Q_waits_238 x3_238.toNatClampNeg r53 := ⟨_, rfl⟩
                have hf := of_nm eg55 hf
                refine va_iast hx hb hK.1 hP hD hS 7 0 rfl rfl (ixb_in h54) d_Q_areAlike_279 (fun H locs hP hD hS => ?_)
                rw [← eg55] at hP hD
                have hP : va_P D vwCl (wv_62 cI cJ cZ aQ aQ_kinds aQ_which aQ_firsts aQ_seconds aQ_thirds aQ_nexts aQ_heads aQ_names aQ_variables aQ_holes aQ_sizes aQ_places aQ_conclusions aQ_premises aQ_counts aQ_hitOf aQ_hitOne aQ_hitTwo aQ_hitTerms aQ_image aQ_bound aQ_waits aQ_waitsFor aQ_seen aQ_goals aQ_steps aQ_looked aQ_under aQ_taken aQ_news aQ_order aQ_there aQ_back Q_thrown Q_all Q_statements Q_hitKind Q_hits Q_tries Q_takenAll Q_takenFirst Q_kinds Q_which Q_firsts Q_seconds Q_thirds Q_image_238 g55 Q_waitsFor_238 Q_there_238 Q_back_238) H := hP
                have hD : va_D A (wv_62 cI cJ cZ aQ aQ_kinds aQ_which aQ_firsts aQ_seconds aQ_thirds aQ_nexts aQ_heads aQ_names aQ_variables aQ_holes aQ_sizes aQ_places aQ_conclusions aQ_premises aQ_counts aQ_hitOf aQ_hitOne aQ_hitTwo aQ_hitTerms aQ_image aQ_bound aQ_waits aQ_waitsFor aQ_seen aQ_goals aQ_steps aQ_looked aQ_under aQ_taken aQ_news aQ_order aQ_there aQ_back Q_thrown Q_all Q_statements Q_hitKind Q_hits Q_tries Q_takenAll Q_takenFirst Q_kinds Q_which Q_firsts Q_seconds Q_thirds Q_image_238 g55 Q_waitsFor_238 Q_there_238 Q_back_238) := hD
                refine lv_aload_n hx hb d_Q_areAlike_280 rfl (lv_at hl 0 rfl) ?_
                refine va_get (D := D) (ci := 7) (v := .ref aQ_waitsFor) (C := RR_Q) (T := FF_Q) (N := 41) hx hb hts kin_Q hown hK.1 hP 0 rfl rfl 27 (by decide) (hts _ k4_94) (fun _ h9 => h9) rfl d_Q_areAlike_281 ?_
                refine lv_iload_n hx hb d_Q_areAlike_284 rfl (lv_at hl 1 rfl) ?_
                refine lv_aload_n hx hb d_Q_areAlike_285 rfl (lv_at hl 0 rfl) ?_
                refine lv_iload hx hb d_Q_areAlike_286 (lv_at hl 3 rfl) ?_
                refine lv_iload hx hb d_Q_areAlike_288 (lv_at hl 4 rfl) ?_
                obtain ⟨r56, hr56, hf⟩ := of_bd hf
                refine rd_call (va_runV (As := [.int x5_238, .int x6_238]) (rest := [.int x3_238, .ref aQ_waitsFor]) ⟨hx, hb, hml, hown, hts⟩ (c_Q_part l D cI cJ cZ aQ aQ_kinds aQ_which aQ_firsts aQ_seconds aQ_thirds aQ_nexts aQ_heads aQ_names aQ_variables aQ_holes aQ_sizes aQ_places aQ_conclusions aQ_premises aQ_counts aQ_hitOf aQ_hitOne aQ_hitTwo aQ_hitTerms aQ_image aQ_bound aQ_waits aQ_waitsFor aQ_seen aQ_goals aQ_steps aQ_looked aQ_under aQ_taken aQ_news aQ_order aQ_there aQ_back Q_thrown Q_all Q_statements Q_hitKind Q_hits Q_tries Q_takenAll Q_takenFirst Q_firsts Q_seconds Q_thirds x5_238 x6_238 r56 hr56) (bigV 2 hts k4_218 k4_220 ks_Q_part k1_9 k4_221 rfl rfl hd_Q_part ⟨Nat.le_of_ble_eq_true rfl, Nat.le_of_ble_eq_true rfl⟩) (rd_preV hK hP [0, 3, 4, 5] rfl 0 rfl rfl rfl) rfl rfl hl.1 rfl (lv_room (Nat.le_of_ble_eq_true rfl)) d_Q_areAlike_290 ⟨Nat.le_of_ble_eq_true rfl, Nat.le_of_ble_eq_true rfl⟩) ?_
                obtain ⟨h57, hf⟩ := of_gd hf
                obtain ⟨g58, eg58⟩ : ∃ y : Nat → Int32, y = upd Q_waitsFor_238 x3_238.toNatClampNeg r56 := ⟨_, rfl⟩
                have hf := of_nm eg58 hf
                refine va_iast hx hb hK.1 hP hD hS 8 0 rfl rfl (ixb_in h57) d_Q_areAlike_293 (fun H locs hP hD hS => ?_)
                rw [← eg58] at hP hD
                have hP : va_P D vwCl (wv_62 cI cJ cZ aQ aQ_kinds aQ_which aQ_firsts aQ_seconds aQ_thirds aQ_nexts aQ_heads aQ_names aQ_variables aQ_holes aQ_sizes aQ_places aQ_conclusions aQ_premises aQ_counts aQ_hitOf aQ_hitOne aQ_hitTwo aQ_hitTerms aQ_image aQ_bound aQ_waits aQ_waitsFor aQ_seen aQ_goals aQ_steps aQ_looked aQ_under aQ_taken aQ_news aQ_order aQ_there aQ_back Q_thrown Q_all Q_statements Q_hitKind Q_hits Q_tries Q_takenAll Q_takenFirst Q_kinds Q_which Q_firsts Q_seconds Q_thirds Q_image_238 g55 g58 Q_there_238 Q_back_238) H := hP
                have hD : va_D A (wv_62 cI cJ cZ aQ aQ_kinds aQ_which aQ_firsts aQ_seconds aQ_thirds aQ_nexts aQ_heads aQ_names aQ_variables aQ_holes aQ_sizes aQ_places aQ_conclusions aQ_premises aQ_counts aQ_hitOf aQ_hitOne aQ_hitTwo aQ_hitTerms aQ_image aQ_bound aQ_waits aQ_waitsFor aQ_seen aQ_goals aQ_steps aQ_looked aQ_under aQ_taken aQ_news aQ_order aQ_there aQ_back Q_thrown Q_all Q_statements Q_hitKind Q_hits Q_tries Q_takenAll Q_takenFirst Q_kinds Q_which Q_firsts Q_seconds Q_thirds Q_image_238 g55 g58 Q_there_238 Q_back_238) := hD
                obtain ⟨x59, ex59⟩ : ∃ y : Int32, y = x3_238 + (1 : Int32) := ⟨_, rfl⟩
                refine lv_iinc (v := x59) (lv' := [(3, .int x59), (0, .ref aQ), (4, .int x4_238), (5, .int x5_238), (6, .int x6_238)]) hx hb d_Q_areAlike_294 hl (k := 1) rfl (by rw [ex59]; rfl) (by decide) rfl (fun ls hl => ?_)
                have hf := of_nm ex59 hf
                obtain ⟨x60, ex60⟩ : ∃ y : Int32, y = x6_238 + (1 : Int32) := ⟨_, rfl⟩
                refine lv_iinc (v := x60) (lv' := [(6, .int x60), (3, .int x59), (0, .ref aQ), (4, .int x4_238), (5, .int x5_238)]) hx hb d_Q_areAlike_297 hl (k := 4) rfl (by rw [ex60]; rfl) (by decide) rfl (fun ls hl => ?_)
                have hf := of_nm ex60 hf
                refine lv_goto (tgt := 238) hx hb d_Q_areAlike_300 (by decide) ?_
                exact ih238 _ _ _ _ _ _ _ _ _ _ _ hP hD hS _ (lv_sub hl [2, 1, 3, 4, 0] rfl) hf
      have hB209 : ∀ (Q_image_209 : (Nat → Int32)) (Q_waits_209 : (Nat → Int32)) (Q_waitsFor_209 : (Nat → Int32)) (Q_there_209 : (Nat → Int32)) (Q_back_209 : (Nat → Int32)) (x3_209 : Int32) (x4_209 : Int32) (x5_209 : Int32) (x6_209 : Int32) (x7_209 : Int32), ∀ (H : Heap) (locs : List Loc), va_P D vwCl (wv_62 cI cJ cZ aQ aQ_kinds aQ_which aQ_firsts aQ_seconds aQ_thirds aQ_nexts aQ_heads aQ_names aQ_variables aQ_holes aQ_sizes aQ_places aQ_conclusions aQ_premises aQ_counts aQ_hitOf aQ_hitOne aQ_hitTwo aQ_hitTerms aQ_image aQ_bound aQ_waits aQ_waitsFor aQ_seen aQ_goals aQ_steps aQ_looked aQ_under aQ_taken aQ_news aQ_order aQ_there aQ_back Q_thrown Q_all Q_statements Q_hitKind Q_hits Q_tries Q_takenAll Q_takenFirst Q_kinds Q_which Q_firsts Q_seconds Q_thirds Q_image_209 Q_waits_209 Q_waitsFor_209 Q_there_209 Q_back_209) H → va_D A (wv_62 cI cJ cZ aQ aQ_kinds aQ_which aQ_firsts aQ_seconds aQ_thirds aQ_nexts aQ_heads aQ_names aQ_variables aQ_holes aQ_sizes aQ_places aQ_conclusions aQ_premises aQ_counts aQ_hitOf aQ_hitOne aQ_hitTwo aQ_hitTerms aQ_image aQ_bound aQ_waits aQ_waitsFor aQ_seen aQ_goals aQ_steps aQ_looked aQ_under aQ_taken aQ_news aQ_order aQ_there aQ_back Q_thrown Q_all Q_statements Q_hitKind Q_hits Q_tries Q_takenAll Q_takenFirst Q_kinds Q_which Q_firsts Q_seconds Q_thirds Q_image_209 Q_waits_209 Q_waitsFor_209 Q_there_209 Q_back_209) → va_S A s.heap H locs → ∀ (ls : Array Slot), lv_has ls 8 [(0, .ref aQ), (3, .int x3_209), (4, .int x4_209), (5, .int x5_209), (6, .int x6_209), (7, .int x7_209)] → f_Q_areAlike_B209 Q_kinds Q_which Q_firsts Q_seconds Q_thirds (f_Q_areAlike_L37 Q_kinds Q_which Q_firsts Q_seconds Q_thirds n37) Q_image_209 Q_waits_209 Q_waitsFor_209 Q_there_209 Q_back_209 x3_209 x4_209 x5_209 x6_209 x7_209 = some o → W p l e (headSpec (ws_Q_areAlike) rm_Q_areAlike).room s m ([.ref aQ, .int p0, .int p1] : List Value).toArray below meth c H locs 0 0 (MQ below (WQ D vwCl (some (.int o.1)) (wv_62 cI cJ cZ aQ aQ_kinds aQ_which aQ_firsts aQ_seconds aQ_thirds aQ_nexts aQ_heads aQ_names aQ_variables aQ_holes aQ_sizes aQ_places aQ_conclusions aQ_premises aQ_counts aQ_hitOf aQ_hitOne aQ_hitTwo aQ_hitTerms aQ_image aQ_bound aQ_waits aQ_waitsFor aQ_seen aQ_goals aQ_steps aQ_looked aQ_under aQ_taken aQ_news aQ_order aQ_there aQ_back Q_thrown Q_all Q_statements Q_hitKind Q_hits Q_tries Q_takenAll Q_takenFirst Q_kinds Q_which Q_firsts Q_seconds Q_thirds o.2.1 o.2.2.1 o.2.2.2.1 o.2.2.2.2.1 o.2.2.2.2.2) A) ([.ref aQ, .int p0, .int p1] : List Value).toArray s 0 0 A) (F0 m 209 ls []) := by
        intro Q_image_209 Q_waits_209 Q_waitsFor_209 Q_there_209 Q_back_209 x3_209 x4_209 x5_209 x6_209 x7_209 H locs hP hD hS ls hl hf
        rw [f_Q_areAlike_B209] at hf
        refine lv_aload_n hx hb d_Q_areAlike_209 rfl (lv_at hl 0 rfl) ?_
        refine va_get (D := D) (ci := 7) (v := .ref aQ_there) (C := RR_Q) (T := FF_Q) (N := 41) hx hb hts kin_Q hown hK.1 hP 0 rfl rfl 39 (by decide) (hts _ k4_106) (fun _ h9 => h9) rfl d_Q_areAlike_210 ?_
        refine lv_iload hx hb d_Q_areAlike_213 (lv_at hl 4 rfl) ?_
        obtain ⟨h43, hf⟩ := of_gd hf
        refine va_iald hx hb hK.1 hP 9 0 rfl rfl (ixb_in h43) d_Q_areAlike_215 ?_
        refine lv_iload hx hb d_Q_areAlike_216 (lv_at hl 5 rfl) ?_
        refine lv_icmp_ne (tgt := 233) hx hb d_Q_areAlike_218 (by decide) (fun c44 => ?_) (fun c44 => ?_)
        · have hf := ite_f c44 hf
          refine lv_iconst (v := 0) hx hb d_Q_areAlike_233 (by decide) ?_
          obtain rfl := Option.some.inj hf
          exact W.zret (v := (0 : Int32)) hx hb hr rfl (fun t ht hW => ⟨rfl, by rw [ht]; exact hP, hD, hS.F ht⟩) hS.2.2 d_Q_areAlike_234
        · have hf := ite_t c44 hf
          refine lv_aload_n hx hb d_Q_areAlike_221 rfl (lv_at hl 0 rfl) ?_
          refine va_get (D := D) (ci := 7) (v := .ref aQ_back) (C := RR_Q) (T := FF_Q) (N := 41) hx hb hts kin_Q hown hK.1 hP 0 rfl rfl 40 (by decide) (hts _ k4_107) (fun _ h9 => h9) rfl d_Q_areAlike_222 ?_
          refine lv_iload hx hb d_Q_areAlike_225 (lv_at hl 5 rfl) ?_
          obtain ⟨h45, hf⟩ := of_gd hf
          refine va_iald hx hb hK.1 hP 10 0 rfl rfl (ixb_in h45) d_Q_areAlike_227 ?_
          refine lv_iload hx hb d_Q_areAlike_228 (lv_at hl 4 rfl) ?_
          refine lv_icmp_eq (tgt := 235) hx hb d_Q_areAlike_230 (by decide) (fun c46 => ?_) (fun c46 => ?_)
          · have hf := ite_t c46 hf
            refine lv_iconst (v := 0) hx hb d_Q_areAlike_235 (by decide) ?_
            refine lv_istore (lv' := [(6, .int (0 : Int32)), (0, .ref aQ), (3, .int x3_209), (4, .int x4_209), (5, .int x5_209), (7, .int x7_209)]) hx hb d_Q_areAlike_236 hl (by decide) rfl (fun ls hl => ?_)
            exact hL238 FU _ _ _ _ _ _ _ _ _ _ _ hP hD hS _ (lv_sub hl [1, 2, 3, 4, 0] rfl) hf
          · have hf := ite_f c46 hf
            refine lv_iconst (v := 0) hx hb d_Q_areAlike_233 (by decide) ?_
            obtain rfl := Option.some.inj hf
            exact W.zret (v := (0 : Int32)) hx hb hr rfl (fun t ht hW => ⟨rfl, by rw [ht]; exact hP, hD, hS.F ht⟩) hS.2.2 d_Q_areAlike_234
      have hB140 : ∀ (Q_image_140 : (Nat → Int32)) (Q_waits_140 : (Nat → Int32)) (Q_waitsFor_140 : (Nat → Int32)) (Q_there_140 : (Nat → Int32)) (Q_back_140 : (Nat → Int32)) (x3_140 : Int32) (x4_140 : Int32) (x5_140 : Int32), ∀ (H : Heap) (locs : List Loc), va_P D vwCl (wv_62 cI cJ cZ aQ aQ_kinds aQ_which aQ_firsts aQ_seconds aQ_thirds aQ_nexts aQ_heads aQ_names aQ_variables aQ_holes aQ_sizes aQ_places aQ_conclusions aQ_premises aQ_counts aQ_hitOf aQ_hitOne aQ_hitTwo aQ_hitTerms aQ_image aQ_bound aQ_waits aQ_waitsFor aQ_seen aQ_goals aQ_steps aQ_looked aQ_under aQ_taken aQ_news aQ_order aQ_there aQ_back Q_thrown Q_all Q_statements Q_hitKind Q_hits Q_tries Q_takenAll Q_takenFirst Q_kinds Q_which Q_firsts Q_seconds Q_thirds Q_image_140 Q_waits_140 Q_waitsFor_140 Q_there_140 Q_back_140) H → va_D A (wv_62 cI cJ cZ aQ aQ_kinds aQ_which aQ_firsts aQ_seconds aQ_thirds aQ_nexts aQ_heads aQ_names aQ_variables aQ_holes aQ_sizes aQ_places aQ_conclusions aQ_premises aQ_counts aQ_hitOf aQ_hitOne aQ_hitTwo aQ_hitTerms aQ_image aQ_bound aQ_waits aQ_waitsFor aQ_seen aQ_goals aQ_steps aQ_looked aQ_under aQ_taken aQ_news aQ_order aQ_there aQ_back Q_thrown Q_all Q_statements Q_hitKind Q_hits Q_tries Q_takenAll Q_takenFirst Q_kinds Q_which Q_firsts Q_seconds Q_thirds Q_image_140 Q_waits_140 Q_waitsFor_140 Q_there_140 Q_back_140) → va_S A s.heap H locs → ∀ (ls : Array Slot), lv_has ls 8 [(0, .ref aQ), (3, .int x3_140), (4, .int x4_140), (5, .int x5_140)] → f_Q_areAlike_B140 Q_kinds Q_which Q_firsts Q_seconds Q_thirds (f_Q_areAlike_L37 Q_kinds Q_which Q_firsts Q_seconds Q_thirds n37) Q_image_140 Q_waits_140 Q_waitsFor_140 Q_there_140 Q_back_140 x3_140 x4_140 x5_140 = some o → W p l e (headSpec (ws_Q_areAlike) rm_Q_areAlike).room s m ([.ref aQ, .int p0, .int p1] : List Value).toArray below meth c H locs 0 0 (MQ below (WQ D vwCl (some (.int o.1)) (wv_62 cI cJ cZ aQ aQ_kinds aQ_which aQ_firsts aQ_seconds aQ_thirds aQ_nexts aQ_heads aQ_names aQ_variables aQ_holes aQ_sizes aQ_places aQ_conclusions aQ_premises aQ_counts aQ_hitOf aQ_hitOne aQ_hitTwo aQ_hitTerms aQ_image aQ_bound aQ_waits aQ_waitsFor aQ_seen aQ_goals aQ_steps aQ_looked aQ_under aQ_taken aQ_news aQ_order aQ_there aQ_back Q_thrown Q_all Q_statements Q_hitKind Q_hits Q_tries Q_takenAll Q_takenFirst Q_kinds Q_which Q_firsts Q_seconds Q_thirds o.2.1 o.2.2.1 o.2.2.2.1 o.2.2.2.2.1 o.2.2.2.2.2) A) ([.ref aQ, .int p0, .int p1] : List Value).toArray s 0 0 A) (F0 m 140 ls []) := by
        intro Q_image_140 Q_waits_140 Q_waitsFor_140 Q_there_140 Q_back_140 x3_140 x4_140 x5_140 H locs hP hD hS ls hl hf
        rw [f_Q_areAlike_B140] at hf
        refine lv_aload_n hx hb d_Q_areAlike_140 rfl (lv_at hl 0 rfl) ?_
        refine va_get (D := D) (ci := 7) (v := .ref aQ_kinds) (C := RR_Q) (T := FF_Q) (N := 41) hx hb hts kin_Q hown hK.1 hP 0 rfl rfl 1 (by decide) (hts _ k4_68) (fun _ h9 => h9) rfl d_Q_areAlike_141 ?_
        refine lv_iload hx hb d_Q_areAlike_144 (lv_at hl 2 rfl) ?_
        obtain ⟨h29, hf⟩ := of_gd hf
        refine va_iald hx hb hK.1 hP 1 0 rfl rfl (ixb_in h29) d_Q_areAlike_146 ?_
        refine lv_iconst (v := 1) hx hb d_Q_areAlike_147 (by decide) ?_
        refine lv_icmp_ne (tgt := 235) hx hb d_Q_areAlike_148 (by decide) (fun c30 => ?_) (fun c30 => ?_)
        · have hf := ite_f c30 hf
          refine lv_iconst (v := 0) hx hb d_Q_areAlike_235 (by decide) ?_
          refine lv_istore (lv' := [(6, .int (0 : Int32)), (0, .ref aQ), (3, .int x3_140), (4, .int x4_140), (5, .int x5_140)]) hx hb d_Q_areAlike_236 hl (by decide) rfl (fun ls hl => ?_)
          exact hL238 FU _ _ _ _ _ _ _ _ _ _ _ hP hD hS _ (lv_sub hl [1, 2, 3, 4, 0] rfl) hf
        · have hf := ite_t c30 hf
          refine lv_aload_n hx hb d_Q_areAlike_151 rfl (lv_at hl 0 rfl) ?_
          refine va_get (D := D) (ci := 7) (v := .ref aQ_which) (C := RR_Q) (T := FF_Q) (N := 41) hx hb hts kin_Q hown hK.1 hP 0 rfl rfl 2 (by decide) (hts _ k4_69) (fun _ h9 => h9) rfl d_Q_areAlike_152 ?_
          refine lv_iload hx hb d_Q_areAlike_155 (lv_at hl 2 rfl) ?_
          obtain ⟨h31, hf⟩ := of_gd hf
          refine va_iald hx hb hK.1 hP 2 0 rfl rfl (ixb_in h31) d_Q_areAlike_157 ?_
          refine lv_topi (fun x32 ex32 => ?_)
          have hf := of_nm ex32 hf
          refine lv_istore (lv' := [(6, .int x32), (0, .ref aQ), (3, .int x3_140), (4, .int x4_140), (5, .int x5_140)]) hx hb d_Q_areAlike_158 hl (by decide) rfl (fun ls hl => ?_)
          refine lv_aload_n hx hb d_Q_areAlike_160 rfl (lv_at hl 1 rfl) ?_
          refine va_get (D := D) (ci := 7) (v := .ref aQ_which) (C := RR_Q) (T := FF_Q) (N := 41) hx hb hts kin_Q hown hK.1 hP 0 rfl rfl 2 (by decide) (hts _ k4_69) (fun _ h9 => h9) rfl d_Q_areAlike_161 ?_
          refine lv_iload hx hb d_Q_areAlike_164 (lv_at hl 4 rfl) ?_
          obtain ⟨h33, hf⟩ := of_gd hf
          refine va_iald hx hb hK.1 hP 2 0 rfl rfl (ixb_in h33) d_Q_areAlike_166 ?_
          refine lv_topi (fun x34 ex34 => ?_)
          have hf := of_nm ex34 hf
          refine lv_istore (lv' := [(7, .int x34), (6, .int x32), (0, .ref aQ), (3, .int x3_140), (4, .int x4_140), (5, .int x5_140)]) hx hb d_Q_areAlike_167 hl (by decide) rfl (fun ls hl => ?_)
          refine lv_aload_n hx hb d_Q_areAlike_169 rfl (lv_at hl 2 rfl) ?_
          refine va_get (D := D) (ci := 7) (v := .ref aQ_there) (C := RR_Q) (T := FF_Q) (N := 41) hx hb hts kin_Q hown hK.1 hP 0 rfl rfl 39 (by decide) (hts _ k4_106) (fun _ h9 => h9) rfl d_Q_areAlike_170 ?_
          refine lv_iload hx hb d_Q_areAlike_173 (lv_at hl 1 rfl) ?_
          obtain ⟨h35, hf⟩ := of_gd hf
          refine va_iald hx hb hK.1 hP 9 0 rfl rfl (ixb_in h35) d_Q_areAlike_175 ?_
          refine lv_iconst (v := -1) hx hb d_Q_areAlike_176 (by decide) ?_
          refine lv_icmp_ne (tgt := 209) hx hb d_Q_areAlike_177 (by decide) (fun c36 => ?_) (fun c36 => ?_)
          · have hf := ite_f c36 hf
            exact hB209 _ _ _ _ _ _ _ _ _ _ _ _ hP hD hS _ (lv_sub hl [2, 3, 4, 5, 1, 0] rfl) hf
          · have hf := ite_t c36 hf
            refine lv_aload_n hx hb d_Q_areAlike_180 rfl (lv_at hl 2 rfl) ?_
            refine va_get (D := D) (ci := 7) (v := .ref aQ_back) (C := RR_Q) (T := FF_Q) (N := 41) hx hb hts kin_Q hown hK.1 hP 0 rfl rfl 40 (by decide) (hts _ k4_107) (fun _ h9 => h9) rfl d_Q_areAlike_181 ?_
            refine lv_iload hx hb d_Q_areAlike_184 (lv_at hl 0 rfl) ?_
            obtain ⟨h37, hf⟩ := of_gd hf
            refine va_iald hx hb hK.1 hP 10 0 rfl rfl (ixb_in h37) d_Q_areAlike_186 ?_
            refine lv_iconst (v := -1) hx hb d_Q_areAlike_187 (by decide) ?_
            refine lv_icmp_ne (tgt := 209) hx hb d_Q_areAlike_188 (by decide) (fun c38 => ?_) (fun c38 => ?_)
            · have hf := ite_f c38 hf
              exact hB209 _ _ _ _ _ _ _ _ _ _ _ _ hP hD hS _ (lv_sub hl [2, 3, 4, 5, 1, 0] rfl) hf
            · have hf := ite_t c38 hf
              refine lv_aload_n hx hb d_Q_areAlike_191 rfl (lv_at hl 2 rfl) ?_
              refine va_get (D := D) (ci := 7) (v := .ref aQ_there) (C := RR_Q) (T := FF_Q) (N := 41) hx hb hts kin_Q hown hK.1 hP 0 rfl rfl 39 (by decide) (hts _ k4_106) (fun _ h9 => h9) rfl d_Q_areAlike_192 ?_
              refine lv_iload hx hb d_Q_areAlike_195 (lv_at hl 1 rfl) ?_
              refine lv_iload hx hb d_Q_areAlike_197 (lv_at hl 0 rfl) ?_
              obtain ⟨h39, hf⟩ := of_gd hf
              obtain ⟨g40, eg40⟩ : ∃ y : Nat → Int32, y = upd Q_there_140 x32.toNatClampNeg x34 := ⟨_, rfl⟩
              have hf := of_nm eg40 hf
              refine va_iast hx hb hK.1 hP hD hS 9 0 rfl rfl (ixb_in h39) d_Q_areAlike_199 (fun H locs hP hD hS => ?_)
              rw [← eg40] at hP hD
              have hP : va_P D vwCl (wv_62 cI cJ cZ aQ aQ_kinds aQ_which aQ_firsts aQ_seconds aQ_thirds aQ_nexts aQ_heads aQ_names aQ_variables aQ_holes aQ_sizes aQ_places aQ_conclusions aQ_premises aQ_counts aQ_hitOf aQ_hitOne aQ_hitTwo aQ_hitTerms aQ_image aQ_bound aQ_waits aQ_waitsFor aQ_seen aQ_goals aQ_steps aQ_looked aQ_under aQ_taken aQ_news aQ_order aQ_there aQ_back Q_thrown Q_all Q_statements Q_hitKind Q_hits Q_tries Q_takenAll Q_takenFirst Q_kinds Q_which Q_firsts Q_seconds Q_thirds Q_image_140 Q_waits_140 Q_waitsFor_140 g40 Q_back_140) H := hP
              have hD : va_D A (wv_62 cI cJ cZ aQ aQ_kinds aQ_which aQ_firsts aQ_seconds aQ_thirds aQ_nexts aQ_heads aQ_names aQ_variables aQ_holes aQ_sizes aQ_places aQ_conclusions aQ_premises aQ_counts aQ_hitOf aQ_hitOne aQ_hitTwo aQ_hitTerms aQ_image aQ_bound aQ_waits aQ_waitsFor aQ_seen aQ_goals aQ_steps aQ_looked aQ_under aQ_taken aQ_news aQ_order aQ_there aQ_back Q_thrown Q_all Q_statements Q_hitKind Q_hits Q_tries Q_takenAll Q_takenFirst Q_kinds Q_which Q_firsts Q_seconds Q_thirds Q_image_140 Q_waits_140 Q_waitsFor_140 g40 Q_back_140) := hD
              refine lv_aload_n hx hb d_Q_areAlike_200 rfl (lv_at hl 2 rfl) ?_
              refine va_get (D := D) (ci := 7) (v := .ref aQ_back) (C := RR_Q) (T := FF_Q) (N := 41) hx hb hts kin_Q hown hK.1 hP 0 rfl rfl 40 (by decide) (hts _ k4_107) (fun _ h9 => h9) rfl d_Q_areAlike_201 ?_
              refine lv_iload hx hb d_Q_areAlike_204 (lv_at hl 0 rfl) ?_
              refine lv_iload hx hb d_Q_areAlike_206 (lv_at hl 1 rfl) ?_
              obtain ⟨h41, hf⟩ := of_gd hf
              obtain ⟨g42, eg42⟩ : ∃ y : Nat → Int32, y = upd Q_back_140 x34.toNatClampNeg x32 := ⟨_, rfl⟩
              have hf := of_nm eg42 hf
              refine va_iast hx hb hK.1 hP hD hS 10 0 rfl rfl (ixb_in h41) d_Q_areAlike_208 (fun H locs hP hD hS => ?_)
              rw [← eg42] at hP hD
              have hP : va_P D vwCl (wv_62 cI cJ cZ aQ aQ_kinds aQ_which aQ_firsts aQ_seconds aQ_thirds aQ_nexts aQ_heads aQ_names aQ_variables aQ_holes aQ_sizes aQ_places aQ_conclusions aQ_premises aQ_counts aQ_hitOf aQ_hitOne aQ_hitTwo aQ_hitTerms aQ_image aQ_bound aQ_waits aQ_waitsFor aQ_seen aQ_goals aQ_steps aQ_looked aQ_under aQ_taken aQ_news aQ_order aQ_there aQ_back Q_thrown Q_all Q_statements Q_hitKind Q_hits Q_tries Q_takenAll Q_takenFirst Q_kinds Q_which Q_firsts Q_seconds Q_thirds Q_image_140 Q_waits_140 Q_waitsFor_140 g40 g42) H := hP
              have hD : va_D A (wv_62 cI cJ cZ aQ aQ_kinds aQ_which aQ_firsts aQ_seconds aQ_thirds aQ_nexts aQ_heads aQ_names aQ_variables aQ_holes aQ_sizes aQ_places aQ_conclusions aQ_premises aQ_counts aQ_hitOf aQ_hitOne aQ_hitTwo aQ_hitTerms aQ_image aQ_bound aQ_waits aQ_waitsFor aQ_seen aQ_goals aQ_steps aQ_looked aQ_under aQ_taken aQ_news aQ_order aQ_there aQ_back Q_thrown Q_all Q_statements Q_hitKind Q_hits Q_tries Q_takenAll Q_takenFirst Q_kinds Q_which Q_firsts Q_seconds Q_thirds Q_image_140 Q_waits_140 Q_waitsFor_140 g40 g42) := hD
              exact hB209 _ _ _ _ _ _ _ _ _ _ _ _ hP hD hS _ (lv_sub hl [2, 3, 4, 5, 1, 0] rfl) hf
      intro Q_image_37 Q_waits_37 Q_waitsFor_37 Q_there_37 Q_back_37 x3_37 H locs hP hD hS ls hl hf
      rw [f_Q_areAlike_L37] at hf
      refine lv_iload_n hx hb d_Q_areAlike_37 rfl (lv_at hl 1 rfl) ?_
      refine lv_if_le (tgt := 306) hx hb d_Q_areAlike_38 (by decide) (fun c9 => ?_) (fun c9 => ?_)
      · have hf := ite_t c9 hf
        refine lv_iconst (v := 1) hx hb d_Q_areAlike_306 (by decide) ?_
        obtain rfl := Option.some.inj hf
        exact W.zret (v := (1 : Int32)) hx hb hr rfl (fun t ht hW => ⟨rfl, by rw [ht]; exact hP, hD, hS.F ht⟩) hS.2.2 d_Q_areAlike_307
      · have hf := ite_f c9 hf
        obtain ⟨x10, ex10⟩ : ∃ y : Int32, y = x3_37 + (-1 : Int32) := ⟨_, rfl⟩
        refine lv_iinc (v := x10) (lv' := [(3, .int x10), (0, .ref aQ)]) hx hb d_Q_areAlike_41 hl (k := 1) rfl (by rw [ex10]; rfl) (by decide) rfl (fun ls hl => ?_)
        have hf := of_nm ex10 hf
        refine lv_aload_n hx hb d_Q_areAlike_44 rfl (lv_at hl 1 rfl) ?_
        refine va_get (D := D) (ci := 7) (v := .ref aQ_waits) (C := RR_Q) (T := FF_Q) (N := 41) hx hb hts kin_Q hown hK.1 hP 0 rfl rfl 26 (by decide) (hts _ k4_93) (fun _ h9 => h9) rfl d_Q_areAlike_45 ?_
        refine lv_iload_n hx hb d_Q_areAlike_48 rfl (lv_at hl 0 rfl) ?_
        obtain ⟨h11, hf⟩ := of_gd hf
        refine va_iald hx hb hK.1 hP 7 0 rfl rfl (ixb_in h11) d_Q_areAlike_49 ?_
        refine lv_topi (fun x12 ex12 => ?_)
        have hf := of_nm ex12 hf
        refine lv_istore (lv' := [(4, .int x12), (3, .int x10), (0, .ref aQ)]) hx hb d_Q_areAlike_50 hl (by decide) rfl (fun ls hl => ?_)
        refine lv_aload_n hx hb d_Q_areAlike_52 rfl (lv_at hl 2 rfl) ?_
        refine va_get (D := D) (ci := 7) (v := .ref aQ_waitsFor) (C := RR_Q) (T := FF_Q) (N := 41) hx hb hts kin_Q hown hK.1 hP 0 rfl rfl 27 (by decide) (hts _ k4_94) (fun _ h9 => h9) rfl d_Q_areAlike_53 ?_
        refine lv_iload_n hx hb d_Q_areAlike_56 rfl (lv_at hl 1 rfl) ?_
        obtain ⟨h13, hf⟩ := of_gd hf
        refine va_iald hx hb hK.1 hP 8 0 rfl rfl (ixb_in h13) d_Q_areAlike_57 ?_
        refine lv_topi (fun x14 ex14 => ?_)
        have hf := of_nm ex14 hf
        refine lv_istore (lv' := [(5, .int x14), (4, .int x12), (3, .int x10), (0, .ref aQ)]) hx hb d_Q_areAlike_58 hl (by decide) rfl (fun ls hl => ?_)
        refine lv_aload_n hx hb d_Q_areAlike_60 rfl (lv_at hl 3 rfl) ?_
        refine va_get (D := D) (ci := 7) (v := .ref aQ_image) (C := RR_Q) (T := FF_Q) (N := 41) hx hb hts kin_Q hown hK.1 hP 0 rfl rfl 24 (by decide) (hts _ k4_91) (fun _ h9 => h9) rfl d_Q_areAlike_61 ?_
        refine lv_iload hx hb d_Q_areAlike_64 (lv_at hl 1 rfl) ?_
        obtain ⟨h15, hf⟩ := of_gd hf
        refine va_iald hx hb hK.1 hP 6 0 rfl rfl (ixb_in h15) d_Q_areAlike_66 ?_
        refine lv_iconst (v := -1) hx hb d_Q_areAlike_67 (by decide) ?_
        refine lv_icmp_eq (tgt := 85) hx hb d_Q_areAlike_68 (by decide) (fun c16 => ?_) (fun c16 => ?_)
        · have hf := ite_t c16 hf
          refine lv_aload_n hx hb d_Q_areAlike_85 rfl (lv_at hl 3 rfl) ?_
          refine va_get (D := D) (ci := 7) (v := .ref aQ_image) (C := RR_Q) (T := FF_Q) (N := 41) hx hb hts kin_Q hown hK.1 hP 0 rfl rfl 24 (by decide) (hts _ k4_91) (fun _ h9 => h9) rfl d_Q_areAlike_86 ?_
          refine lv_iload hx hb d_Q_areAlike_89 (lv_at hl 1 rfl) ?_
          refine lv_iload hx hb d_Q_areAlike_91 (lv_at hl 0 rfl) ?_
          obtain ⟨h17, hf⟩ := of_gd hf
          obtain ⟨g18, eg18⟩ : ∃ y : Nat → Int32, y = upd Q_image_37 x12.toNatClampNeg x14 := ⟨_, rfl⟩
          have hf := of_nm eg18 hf
          refine va_iast hx hb hK.1 hP hD hS 6 0 rfl rfl (ixb_in h17) d_Q_areAlike_93 (fun H locs hP hD hS => ?_)
          rw [← eg18] at hP hD
          have hP : va_P D vwCl (wv_62 cI cJ cZ aQ aQ_kinds aQ_which aQ_firsts aQ_seconds aQ_thirds aQ_nexts aQ_heads aQ_names aQ_variables aQ_holes aQ_sizes aQ_places aQ_conclusions aQ_premises aQ_counts aQ_hitOf aQ_hitOne aQ_hitTwo aQ_hitTerms aQ_image aQ_bound aQ_waits aQ_waitsFor aQ_seen aQ_goals aQ_steps aQ_looked aQ_under aQ_taken aQ_news aQ_order aQ_there aQ_back Q_thrown Q_all Q_statements Q_hitKind Q_hits Q_tries Q_takenAll Q_takenFirst Q_kinds Q_which Q_firsts Q_seconds Q_thirds g18 Q_waits_37 Q_waitsFor_37 Q_there_37 Q_back_37) H := hP
          have hD : va_D A (wv_62 cI cJ cZ aQ aQ_kinds aQ_which aQ_firsts aQ_seconds aQ_thirds aQ_nexts aQ_heads aQ_names aQ_variables aQ_holes aQ_sizes aQ_places aQ_conclusions aQ_premises aQ_counts aQ_hitOf aQ_hitOne aQ_hitTwo aQ_hitTerms aQ_image aQ_bound aQ_waits aQ_waitsFor aQ_seen aQ_goals aQ_steps aQ_looked aQ_under aQ_taken aQ_news aQ_order aQ_there aQ_back Q_thrown Q_all Q_statements Q_hitKind Q_hits Q_tries Q_takenAll Q_takenFirst Q_kinds Q_which Q_firsts Q_seconds Q_thirds g18 Q_waits_37 Q_waitsFor_37 Q_there_37 Q_back_37) := hD
          refine lv_aload_n hx hb d_Q_areAlike_94 rfl (lv_at hl 3 rfl) ?_
          refine va_get (D := D) (ci := 7) (v := .ref aQ_kinds) (C := RR_Q) (T := FF_Q) (N := 41) hx hb hts kin_Q hown hK.1 hP 0 rfl rfl 1 (by decide) (hts _ k4_68) (fun _ h9 => h9) rfl d_Q_areAlike_95 ?_
          refine lv_iload hx hb d_Q_areAlike_98 (lv_at hl 1 rfl) ?_
          obtain ⟨h19, hf⟩ := of_gd hf
          refine va_iald hx hb hK.1 hP 1 0 rfl rfl (ixb_in h19) d_Q_areAlike_100 ?_
          refine lv_aload_n hx hb d_Q_areAlike_101 rfl (lv_at hl 3 rfl) ?_
          refine va_get (D := D) (ci := 7) (v := .ref aQ_kinds) (C := RR_Q) (T := FF_Q) (N := 41) hx hb hts kin_Q hown hK.1 hP 0 rfl rfl 1 (by decide) (hts _ k4_68) (fun _ h9 => h9) rfl d_Q_areAlike_102 ?_
          refine lv_iload hx hb d_Q_areAlike_105 (lv_at hl 0 rfl) ?_
          obtain ⟨h20, hf⟩ := of_gd hf
          refine va_iald hx hb hK.1 hP 1 0 rfl rfl (ixb_in h20) d_Q_areAlike_107 ?_
          refine lv_icmp_ne (tgt := 138) hx hb d_Q_areAlike_108 (by decide) (fun c21 => ?_) (fun c21 => ?_)
          · have hf := ite_f c21 hf
            refine lv_iconst (v := 0) hx hb d_Q_areAlike_138 (by decide) ?_
            obtain rfl := Option.some.inj hf
            exact W.zret (v := (0 : Int32)) hx hb hr rfl (fun t ht hW => ⟨rfl, by rw [ht]; exact hP, hD, hS.F ht⟩) hS.2.2 d_Q_areAlike_139
          · have hf := ite_t c21 hf
            refine lv_aload_n hx hb d_Q_areAlike_111 rfl (lv_at hl 3 rfl) ?_
            refine va_get (D := D) (ci := 7) (v := .ref aQ_kinds) (C := RR_Q) (T := FF_Q) (N := 41) hx hb hts kin_Q hown hK.1 hP 0 rfl rfl 1 (by decide) (hts _ k4_68) (fun _ h9 => h9) rfl d_Q_areAlike_112 ?_
            refine lv_iload hx hb d_Q_areAlike_115 (lv_at hl 1 rfl) ?_
            obtain ⟨h22, hf⟩ := of_gd hf
            refine va_iald hx hb hK.1 hP 1 0 rfl rfl (ixb_in h22) d_Q_areAlike_117 ?_
            refine lv_if_ne (tgt := 140) hx hb d_Q_areAlike_118 (by decide) (fun c23 => ?_) (fun c23 => ?_)
            · have hf := ite_f c23 hf
              exact hB140 _ _ _ _ _ _ _ _ _ _ hP hD hS _ (lv_sub hl [3, 2, 1, 0] rfl) hf
            · have hf := ite_t c23 hf
              refine lv_aload_n hx hb d_Q_areAlike_121 rfl (lv_at hl 3 rfl) ?_
              refine va_get (D := D) (ci := 7) (v := .ref aQ_which) (C := RR_Q) (T := FF_Q) (N := 41) hx hb hts kin_Q hown hK.1 hP 0 rfl rfl 2 (by decide) (hts _ k4_69) (fun _ h9 => h9) rfl d_Q_areAlike_122 ?_
              refine lv_iload hx hb d_Q_areAlike_125 (lv_at hl 1 rfl) ?_
              obtain ⟨h24, hf⟩ := of_gd hf
              refine va_iald hx hb hK.1 hP 2 0 rfl rfl (ixb_in h24) d_Q_areAlike_127 ?_
              refine lv_aload_n hx hb d_Q_areAlike_128 rfl (lv_at hl 3 rfl) ?_
              refine va_get (D := D) (ci := 7) (v := .ref aQ_which) (C := RR_Q) (T := FF_Q) (N := 41) hx hb hts kin_Q hown hK.1 hP 0 rfl rfl 2 (by decide) (hts _ k4_69) (fun _ h9 => h9) rfl d_Q_areAlike_129 ?_
              refine lv_iload hx hb d_Q_areAlike_132 (lv_at hl 0 rfl) ?_
              obtain ⟨h25, hf⟩ := of_gd hf
              refine va_iald hx hb hK.1 hP 2 0 rfl rfl (ixb_in h25) d_Q_areAlike_134 ?_
              refine lv_icmp_eq (tgt := 140) hx hb d_Q_areAlike_135 (by decide) (fun c26 => ?_) (fun c26 => ?_)
              · have hf := ite_t c26 hf
                exact hB140 _ _ _ _ _ _ _ _ _ _ hP hD hS _ (lv_sub hl [3, 2, 1, 0] rfl) hf
              · have hf := ite_f c26 hf
                refine lv_iconst (v := 0) hx hb d_Q_areAlike_138 (by decide) ?_
                obtain rfl := Option.some.inj hf
                exact W.zret (v := (0 : Int32)) hx hb hr rfl (fun t ht hW => ⟨rfl, by rw [ht]; exact hP, hD, hS.F ht⟩) hS.2.2 d_Q_areAlike_139
        · have hf := ite_f c16 hf
          refine lv_aload_n hx hb d_Q_areAlike_71 rfl (lv_at hl 3 rfl) ?_
          refine va_get (D := D) (ci := 7) (v := .ref aQ_image) (C := RR_Q) (T := FF_Q) (N := 41) hx hb hts kin_Q hown hK.1 hP 0 rfl rfl 24 (by decide) (hts _ k4_91) (fun _ h9 => h9) rfl d_Q_areAlike_72 ?_
          refine lv_iload hx hb d_Q_areAlike_75 (lv_at hl 1 rfl) ?_
          obtain ⟨h27, hf⟩ := of_gd hf
          refine va_iald hx hb hK.1 hP 6 0 rfl rfl (ixb_in h27) d_Q_areAlike_77 ?_
          refine lv_iload hx hb d_Q_areAlike_78 (lv_at hl 0 rfl) ?_
          refine lv_icmp_eq (tgt := 37) hx hb d_Q_areAlike_80 (by decide) (fun c28 => ?_) (fun c28 => ?_)
          · have hf := ite_t c28 hf
            exact ih37 _ _ _ _ _ _ _ _ hP hD hS _ (lv_sub hl [3, 2] rfl) hf
          · have hf := ite_f c28 hf
            refine lv_iconst (v := 0) hx hb d_Q_areAlike_83 (by decide) ?_
            obtain rfl := Option.some.inj hf
            exact W.zret (v := (0 : Int32)) hx hb hr rfl (fun t ht hW => ⟨rfl, by rw [ht]; exact hP, hD, hS.F ht⟩) hS.2.2 d_Q_areAlike_84
  have hL2 : ∀ (n2 : Nat), ∀ (Q_image_2 : (Nat → Int32)) (Q_waits_2 : (Nat → Int32)) (Q_waitsFor_2 : (Nat → Int32)) (Q_there_2 : (Nat → Int32)) (Q_back_2 : (Nat → Int32)) (x1_2 : Int32) (x2_2 : Int32) (x3_2 : Int32), ∀ (H : Heap) (locs : List Loc), va_P D vwCl (wv_62 cI cJ cZ aQ aQ_kinds aQ_which aQ_firsts aQ_seconds aQ_thirds aQ_nexts aQ_heads aQ_names aQ_variables aQ_holes aQ_sizes aQ_places aQ_conclusions aQ_premises aQ_counts aQ_hitOf aQ_hitOne aQ_hitTwo aQ_hitTerms aQ_image aQ_bound aQ_waits aQ_waitsFor aQ_seen aQ_goals aQ_steps aQ_looked aQ_under aQ_taken aQ_news aQ_order aQ_there aQ_back Q_thrown Q_all Q_statements Q_hitKind Q_hits Q_tries Q_takenAll Q_takenFirst Q_kinds Q_which Q_firsts Q_seconds Q_thirds Q_image_2 Q_waits_2 Q_waitsFor_2 Q_there_2 Q_back_2) H → va_D A (wv_62 cI cJ cZ aQ aQ_kinds aQ_which aQ_firsts aQ_seconds aQ_thirds aQ_nexts aQ_heads aQ_names aQ_variables aQ_holes aQ_sizes aQ_places aQ_conclusions aQ_premises aQ_counts aQ_hitOf aQ_hitOne aQ_hitTwo aQ_hitTerms aQ_image aQ_bound aQ_waits aQ_waitsFor aQ_seen aQ_goals aQ_steps aQ_looked aQ_under aQ_taken aQ_news aQ_order aQ_there aQ_back Q_thrown Q_all Q_statements Q_hitKind Q_hits Q_tries Q_takenAll Q_takenFirst Q_kinds Q_which Q_firsts Q_seconds Q_thirds Q_image_2 Q_waits_2 Q_waitsFor_2 Q_there_2 Q_back_2) → va_S A s.heap H locs → ∀ (ls : Array Slot), lv_has ls 8 [(0, .ref aQ), (1, .int x1_2), (2, .int x2_2), (3, .int x3_2)] → f_Q_areAlike_L2 Q_kinds Q_which Q_firsts Q_seconds Q_thirds n2 Q_image_2 Q_waits_2 Q_waitsFor_2 Q_there_2 Q_back_2 x1_2 x2_2 x3_2 = some o → W p l e (headSpec (ws_Q_areAlike) rm_Q_areAlike).room s m ([.ref aQ, .int p0, .int p1] : List Value).toArray below meth c H locs 0 0 (MQ below (WQ D vwCl (some (.int o.1)) (wv_62 cI cJ cZ aQ aQ_kinds aQ_which aQ_firsts aQ_seconds aQ_thirds aQ_nexts aQ_heads aQ_names aQ_variables aQ_holes aQ_sizes aQ_places aQ_conclusions aQ_premises aQ_counts aQ_hitOf aQ_hitOne aQ_hitTwo aQ_hitTerms aQ_image aQ_bound aQ_waits aQ_waitsFor aQ_seen aQ_goals aQ_steps aQ_looked aQ_under aQ_taken aQ_news aQ_order aQ_there aQ_back Q_thrown Q_all Q_statements Q_hitKind Q_hits Q_tries Q_takenAll Q_takenFirst Q_kinds Q_which Q_firsts Q_seconds Q_thirds o.2.1 o.2.2.1 o.2.2.2.1 o.2.2.2.2.1 o.2.2.2.2.2) A) ([.ref aQ, .int p0, .int p1] : List Value).toArray s 0 0 A) (F0 m 2 ls []) := by
    intro n2
    induction n2 with
    | zero =>
      intro Q_image_2 Q_waits_2 Q_waitsFor_2 Q_there_2 Q_back_2 x1_2 x2_2 x3_2 H locs hP hD hS ls hl hf
      rw [f_Q_areAlike_L2] at hf
      cases hf
    | succ n2 ih2 =>
      intro Q_image_2 Q_waits_2 Q_waitsFor_2 Q_there_2 Q_back_2 x1_2 x2_2 x3_2 H locs hP hD hS ls hl hf
      rw [f_Q_areAlike_L2] at hf
      refine lv_iload_n hx hb d_Q_areAlike_2 rfl (lv_at hl 3 rfl) ?_
      refine lv_bipush (v := 100) hx hb d_Q_areAlike_3 (by decide) ?_
      refine lv_icmp_ge (tgt := 21) hx hb d_Q_areAlike_5 (by decide) (fun c1 => ?_) (fun c1 => ?_)
      · have hf := ite_t c1 hf
        refine lv_iconst (v := 1) hx hb d_Q_areAlike_21 (by decide) ?_
        refine lv_istore_n (lv' := [(3, .int (1 : Int32)), (0, .ref aQ), (1, .int x1_2), (2, .int x2_2)]) hx hb d_Q_areAlike_22 rfl hl (by decide) rfl (fun ls hl => ?_)
        refine lv_aload_n hx hb d_Q_areAlike_23 rfl (lv_at hl 1 rfl) ?_
        refine va_get (D := D) (ci := 7) (v := .ref aQ_waits) (C := RR_Q) (T := FF_Q) (N := 41) hx hb hts kin_Q hown hK.1 hP 0 rfl rfl 26 (by decide) (hts _ k4_93) (fun _ h9 => h9) rfl d_Q_areAlike_24 ?_
        refine lv_iconst (v := 0) hx hb d_Q_areAlike_27 (by decide) ?_
        refine lv_iload_n hx hb d_Q_areAlike_28 rfl (lv_at hl 2 rfl) ?_
        obtain ⟨h2, hf⟩ := of_gd hf
        obtain ⟨g3, eg3⟩ : ∃ y : Nat → Int32, y = upd Q_waits_2 (0 : Int32).toNatClampNeg x1_2 := ⟨_, rfl⟩
        have hf := of_nm eg3 hf
        refine va_iast hx hb hK.1 hP hD hS 7 0 rfl rfl (ixb_in h2) d_Q_areAlike_29 (fun H locs hP hD hS => ?_)
        rw [← eg3] at hP hD
        have hP : va_P D vwCl (wv_62 cI cJ cZ aQ aQ_kinds aQ_which aQ_firsts aQ_seconds aQ_thirds aQ_nexts aQ_heads aQ_names aQ_variables aQ_holes aQ_sizes aQ_places aQ_conclusions aQ_premises aQ_counts aQ_hitOf aQ_hitOne aQ_hitTwo aQ_hitTerms aQ_image aQ_bound aQ_waits aQ_waitsFor aQ_seen aQ_goals aQ_steps aQ_looked aQ_under aQ_taken aQ_news aQ_order aQ_there aQ_back Q_thrown Q_all Q_statements Q_hitKind Q_hits Q_tries Q_takenAll Q_takenFirst Q_kinds Q_which Q_firsts Q_seconds Q_thirds Q_image_2 g3 Q_waitsFor_2 Q_there_2 Q_back_2) H := hP
        have hD : va_D A (wv_62 cI cJ cZ aQ aQ_kinds aQ_which aQ_firsts aQ_seconds aQ_thirds aQ_nexts aQ_heads aQ_names aQ_variables aQ_holes aQ_sizes aQ_places aQ_conclusions aQ_premises aQ_counts aQ_hitOf aQ_hitOne aQ_hitTwo aQ_hitTerms aQ_image aQ_bound aQ_waits aQ_waitsFor aQ_seen aQ_goals aQ_steps aQ_looked aQ_under aQ_taken aQ_news aQ_order aQ_there aQ_back Q_thrown Q_all Q_statements Q_hitKind Q_hits Q_tries Q_takenAll Q_takenFirst Q_kinds Q_which Q_firsts Q_seconds Q_thirds Q_image_2 g3 Q_waitsFor_2 Q_there_2 Q_back_2) := hD
        refine lv_aload_n hx hb d_Q_areAlike_30 rfl (lv_at hl 1 rfl) ?_
        refine va_get (D := D) (ci := 7) (v := .ref aQ_waitsFor) (C := RR_Q) (T := FF_Q) (N := 41) hx hb hts kin_Q hown hK.1 hP 0 rfl rfl 27 (by decide) (hts _ k4_94) (fun _ h9 => h9) rfl d_Q_areAlike_31 ?_
        refine lv_iconst (v := 0) hx hb d_Q_areAlike_34 (by decide) ?_
        refine lv_iload_n hx hb d_Q_areAlike_35 rfl (lv_at hl 3 rfl) ?_
        obtain ⟨h4, hf⟩ := of_gd hf
        obtain ⟨g5, eg5⟩ : ∃ y : Nat → Int32, y = upd Q_waitsFor_2 (0 : Int32).toNatClampNeg x2_2 := ⟨_, rfl⟩
        have hf := of_nm eg5 hf
        refine va_iast hx hb hK.1 hP hD hS 8 0 rfl rfl (ixb_in h4) d_Q_areAlike_36 (fun H locs hP hD hS => ?_)
        rw [← eg5] at hP hD
        have hP : va_P D vwCl (wv_62 cI cJ cZ aQ aQ_kinds aQ_which aQ_firsts aQ_seconds aQ_thirds aQ_nexts aQ_heads aQ_names aQ_variables aQ_holes aQ_sizes aQ_places aQ_conclusions aQ_premises aQ_counts aQ_hitOf aQ_hitOne aQ_hitTwo aQ_hitTerms aQ_image aQ_bound aQ_waits aQ_waitsFor aQ_seen aQ_goals aQ_steps aQ_looked aQ_under aQ_taken aQ_news aQ_order aQ_there aQ_back Q_thrown Q_all Q_statements Q_hitKind Q_hits Q_tries Q_takenAll Q_takenFirst Q_kinds Q_which Q_firsts Q_seconds Q_thirds Q_image_2 g3 g5 Q_there_2 Q_back_2) H := hP
        have hD : va_D A (wv_62 cI cJ cZ aQ aQ_kinds aQ_which aQ_firsts aQ_seconds aQ_thirds aQ_nexts aQ_heads aQ_names aQ_variables aQ_holes aQ_sizes aQ_places aQ_conclusions aQ_premises aQ_counts aQ_hitOf aQ_hitOne aQ_hitTwo aQ_hitTerms aQ_image aQ_bound aQ_waits aQ_waitsFor aQ_seen aQ_goals aQ_steps aQ_looked aQ_under aQ_taken aQ_news aQ_order aQ_there aQ_back Q_thrown Q_all Q_statements Q_hitKind Q_hits Q_tries Q_takenAll Q_takenFirst Q_kinds Q_which Q_firsts Q_seconds Q_thirds Q_image_2 g3 g5 Q_there_2 Q_back_2) := hD
        exact hL37 FU _ _ _ _ _ _ _ _ hP hD hS _ (lv_sub hl [1, 0] rfl) hf
      · have hf := ite_f c1 hf
        refine lv_aload_n hx hb d_Q_areAlike_8 rfl (lv_at hl 0 rfl) ?_
        refine va_get (D := D) (ci := 7) (v := .ref aQ_image) (C := RR_Q) (T := FF_Q) (N := 41) hx hb hts kin_Q hown hK.1 hP 0 rfl rfl 24 (by decide) (hts _ k4_91) (fun _ h9 => h9) rfl d_Q_areAlike_9 ?_
        refine lv_iload_n hx hb d_Q_areAlike_12 rfl (lv_at hl 3 rfl) ?_
        refine lv_iconst (v := -1) hx hb d_Q_areAlike_13 (by decide) ?_
        obtain ⟨h6, hf⟩ := of_gd hf
        obtain ⟨g7, eg7⟩ : ∃ y : Nat → Int32, y = upd Q_image_2 x3_2.toNatClampNeg (-1 : Int32) := ⟨_, rfl⟩
        have hf := of_nm eg7 hf
        refine va_iast hx hb hK.1 hP hD hS 6 0 rfl rfl (ixb_in h6) d_Q_areAlike_14 (fun H locs hP hD hS => ?_)
        rw [← eg7] at hP hD
        have hP : va_P D vwCl (wv_62 cI cJ cZ aQ aQ_kinds aQ_which aQ_firsts aQ_seconds aQ_thirds aQ_nexts aQ_heads aQ_names aQ_variables aQ_holes aQ_sizes aQ_places aQ_conclusions aQ_premises aQ_counts aQ_hitOf aQ_hitOne aQ_hitTwo aQ_hitTerms aQ_image aQ_bound aQ_waits aQ_waitsFor aQ_seen aQ_goals aQ_steps aQ_looked aQ_under aQ_taken aQ_news aQ_order aQ_there aQ_back Q_thrown Q_all Q_statements Q_hitKind Q_hits Q_tries Q_takenAll Q_takenFirst Q_kinds Q_which Q_firsts Q_seconds Q_thirds g7 Q_waits_2 Q_waitsFor_2 Q_there_2 Q_back_2) H := hP
        have hD : va_D A (wv_62 cI cJ cZ aQ aQ_kinds aQ_which aQ_firsts aQ_seconds aQ_thirds aQ_nexts aQ_heads aQ_names aQ_variables aQ_holes aQ_sizes aQ_places aQ_conclusions aQ_premises aQ_counts aQ_hitOf aQ_hitOne aQ_hitTwo aQ_hitTerms aQ_image aQ_bound aQ_waits aQ_waitsFor aQ_seen aQ_goals aQ_steps aQ_looked aQ_under aQ_taken aQ_news aQ_order aQ_there aQ_back Q_thrown Q_all Q_statements Q_hitKind Q_hits Q_tries Q_takenAll Q_takenFirst Q_kinds Q_which Q_firsts Q_seconds Q_thirds g7 Q_waits_2 Q_waitsFor_2 Q_there_2 Q_back_2) := hD
        obtain ⟨x8, ex8⟩ : ∃ y : Int32, y = x3_2 + (1 : Int32) := ⟨_, rfl⟩
        refine lv_iinc (v := x8) (lv' := [(3, .int x8), (0, .ref aQ), (1, .int x1_2), (2, .int x2_2)]) hx hb d_Q_areAlike_15 hl (k := 3) rfl (by rw [ex8]; rfl) (by decide) rfl (fun ls hl => ?_)
        have hf := of_nm ex8 hf
        refine lv_goto (tgt := 2) hx hb d_Q_areAlike_18 (by decide) ?_
        exact ih2 _ _ _ _ _ _ _ _ _ _ hP hD hS _ (lv_sub hl [1, 2, 3, 0] rfl) hf
  rw [f_Q_areAlike] at hf
  refine lv_iconst (v := 0) hx hb d_Q_areAlike_0 (by decide) ?_
  refine lv_istore_n (lv' := [(3, .int (0 : Int32)), (0, .ref aQ), (1, .int p0), (2, .int p1)]) hx hb d_Q_areAlike_1 rfl hl (by decide) rfl (fun ls hl => ?_)
  exact hL2 FU _ _ _ _ _ _ _ _ _ _ hP hD hS _ (lv_sub hl [1, 2, 3, 0] rfl) hf
def f_Q_areTwins_L71 (Q_kinds : (Nat → Int32)) (Q_which : (Nat → Int32)) (Q_firsts : (Nat → Int32)) (Q_seconds : (Nat → Int32)) (Q_thirds : (Nat → Int32)) (Q_conclusions : (Nat → Int32)) (Q_premises : (Nat → Int32)) (Q_counts : (Nat → Int32)) : Nat → (Nat → Int32) → (Nat → Int32) → (Nat → Int32) → (Nat → Int32) → (Nat → Int32) → Int32 → Int32 → Int32 → Int32 → Option (Int32 × (Nat → Int32) × (Nat → Int32) × (Nat → Int32) × (Nat → Int32) × (Nat → Int32))
  | 0, _, _, _, _, _, _, _, _, _ => none
  | n + 1, Q_image_71, Q_waits_71, Q_waitsFor_71, Q_there_71, Q_back_71, x1_71, x2_71, x3_71, x4_71 =>
    gd (ixb x1_71 30) <|
    if (Q_counts x1_71.toNatClampNeg) ≤ x4_71 then
      gd (zb x3_71) <|
      some (x3_71, Q_image_71, Q_waits_71, Q_waitsFor_71, Q_there_71, Q_back_71)
    else
      if x3_71 = 0 then
        gd (zb x3_71) <|
        some (x3_71, Q_image_71, Q_waits_71, Q_waitsFor_71, Q_there_71, Q_back_71)
      else
        (f_Q_premise Q_premises x1_71 x4_71).bind fun r19 =>
        (f_Q_premise Q_premises x2_71 x4_71).bind fun r20 =>
        (f_Q_areAlike Q_kinds Q_which Q_firsts Q_seconds Q_thirds Q_image_71 Q_waits_71 Q_waitsFor_71 Q_there_71 Q_back_71 r19 r20).bind fun r21 =>
        nm (x4_71 + (1 : Int32)) fun x22 =>
        (f_Q_areTwins_L71 Q_kinds Q_which Q_firsts Q_seconds Q_thirds Q_conclusions Q_premises Q_counts n) r21.2.1 r21.2.2.1 r21.2.2.2.1 r21.2.2.2.2.1 r21.2.2.2.2.2 x1_71 x2_71 r21.1 x22
def f_Q_areTwins_L2 (Q_kinds : (Nat → Int32)) (Q_which : (Nat → Int32)) (Q_firsts : (Nat → Int32)) (Q_seconds : (Nat → Int32)) (Q_thirds : (Nat → Int32)) (Q_conclusions : (Nat → Int32)) (Q_premises : (Nat → Int32)) (Q_counts : (Nat → Int32)) : Nat → (Nat → Int32) → (Nat → Int32) → (Nat → Int32) → (Nat → Int32) → (Nat → Int32) → Int32 → Int32 → Int32 → Option (Int32 × (Nat → Int32) × (Nat → Int32) × (Nat → Int32) × (Nat → Int32) × (Nat → Int32))
  | 0, _, _, _, _, _, _, _, _ => none
  | n + 1, Q_image_2, Q_waits_2, Q_waitsFor_2, Q_there_2, Q_back_2, x1_2, x2_2, x3_2 =>
    if (8 : Int32) ≤ x3_2 then
      gd (ixb x1_2 30) <|
      gd (ixb x2_2 30) <|
      if (Q_counts x1_2.toNatClampNeg) = (Q_counts x2_2.toNatClampNeg) then
        gd (ixb x1_2 30) <|
        gd (ixb x2_2 30) <|
        (f_Q_areAlike Q_kinds Q_which Q_firsts Q_seconds Q_thirds Q_image_2 Q_waits_2 Q_waitsFor_2 Q_there_2 Q_back_2 (Q_conclusions x1_2.toNatClampNeg) (Q_conclusions x2_2.toNatClampNeg)).bind fun r7 =>
        if r7.1 = 0 then
          f_Q_areTwins_L71 Q_kinds Q_which Q_firsts Q_seconds Q_thirds Q_conclusions Q_premises Q_counts FU r7.2.1 r7.2.2.1 r7.2.2.2.1 r7.2.2.2.2.1 r7.2.2.2.2.2 x1_2 x2_2 (0 : Int32) (0 : Int32)
        else
          f_Q_areTwins_L71 Q_kinds Q_which Q_firsts Q_seconds Q_thirds Q_conclusions Q_premises Q_counts FU r7.2.1 r7.2.2.1 r7.2.2.2.1 r7.2.2.2.2.1 r7.2.2.2.2.2 x1_2 x2_2 (1 : Int32) (0 : Int32)
      else
        f_Q_areTwins_L71 Q_kinds Q_which Q_firsts Q_seconds Q_thirds Q_conclusions Q_premises Q_counts FU Q_image_2 Q_waits_2 Q_waitsFor_2 Q_there_2 Q_back_2 x1_2 x2_2 (0 : Int32) (0 : Int32)
    else
      gd (ixb x3_2 8) <| nm (upd Q_there_2 x3_2.toNatClampNeg (-1 : Int32)) fun g10 =>
      gd (ixb x3_2 8) <| nm (upd Q_back_2 x3_2.toNatClampNeg (-1 : Int32)) fun g12 =>
      nm (x3_2 + (1 : Int32)) fun x13 =>
      (f_Q_areTwins_L2 Q_kinds Q_which Q_firsts Q_seconds Q_thirds Q_conclusions Q_premises Q_counts n) Q_image_2 Q_waits_2 Q_waitsFor_2 g10 g12 x1_2 x2_2 x13
def f_Q_areTwins (Q_kinds : (Nat → Int32)) (Q_which : (Nat → Int32)) (Q_firsts : (Nat → Int32)) (Q_seconds : (Nat → Int32)) (Q_thirds : (Nat → Int32)) (Q_conclusions : (Nat → Int32)) (Q_premises : (Nat → Int32)) (Q_counts : (Nat → Int32)) (Q_image : (Nat → Int32)) (Q_waits : (Nat → Int32)) (Q_waitsFor : (Nat → Int32)) (Q_there : (Nat → Int32)) (Q_back : (Nat → Int32)) (p0 : Int32) (p1 : Int32) : Option (Int32 × (Nat → Int32) × (Nat → Int32) × (Nat → Int32) × (Nat → Int32) × (Nat → Int32)) :=
  f_Q_areTwins_L2 Q_kinds Q_which Q_firsts Q_seconds Q_thirds Q_conclusions Q_premises Q_counts FU Q_image Q_waits Q_waitsFor Q_there Q_back p0 p1 (0 : Int32)
abbrev rm_Q_areTwins : Room := { frames := 2, cells := 0, slots := 0, locals := 49 }
set_option maxHeartbeats 4000000 in
set_option maxRecDepth 100000 in
theorem c_Q_areTwins (l : Launch) (D : va_G) (cI cJ cZ : ClassId) (aQ aQ_kinds aQ_which aQ_firsts aQ_seconds aQ_thirds aQ_nexts aQ_heads aQ_names aQ_variables aQ_holes aQ_sizes aQ_places aQ_conclusions aQ_premises aQ_counts aQ_hitOf aQ_hitOne aQ_hitTwo aQ_hitTerms aQ_image aQ_bound aQ_waits aQ_waitsFor aQ_seen aQ_goals aQ_steps aQ_looked aQ_under aQ_taken aQ_news aQ_order aQ_there aQ_back : Nat) (sz : Nat) (Q_thrown : Int32) (Q_all : Int32) (Q_statements : Int32) (Q_hitKind : Int32) (Q_hits : Int32) (Q_tries : Int32) (Q_takenAll : Int32) (Q_takenFirst : Int32) (Q_kinds : (Nat → Int32)) (Q_which : (Nat → Int32)) (Q_firsts : (Nat → Int32)) (Q_seconds : (Nat → Int32)) (Q_thirds : (Nat → Int32)) (Q_conclusions : (Nat → Int32)) (Q_premises : (Nat → Int32)) (Q_counts : (Nat → Int32)) (Q_image : (Nat → Int32)) (Q_waits : (Nat → Int32)) (Q_waitsFor : (Nat → Int32)) (Q_there : (Nat → Int32)) (Q_back : (Nat → Int32)) (p0 : Int32) (p1 : Int32) (o : Int32 × (Nat → Int32) × (Nat → Int32) × (Nat → Int32) × (Nat → Int32) × (Nat → Int32)) (hf : f_Q_areTwins Q_kinds Q_which Q_firsts Q_seconds Q_thirds Q_conclusions Q_premises Q_counts Q_image Q_waits Q_waitsFor Q_there Q_back p0 p1 = some o) : Met l y_Q_areTwins (ws_Q_areTwins) rm_Q_areTwins (WPc D vwCl cI cJ cZ [.ref aQ, .int p0, .int p1] (wv_63 cI cJ cZ aQ aQ_kinds aQ_which aQ_firsts aQ_seconds aQ_thirds aQ_nexts aQ_heads aQ_names aQ_variables aQ_holes aQ_sizes aQ_places aQ_conclusions aQ_premises aQ_counts aQ_hitOf aQ_hitOne aQ_hitTwo aQ_hitTerms aQ_image aQ_bound aQ_waits aQ_waitsFor aQ_seen aQ_goals aQ_steps aQ_looked aQ_under aQ_taken aQ_news aQ_order aQ_there aQ_back Q_thrown Q_all Q_statements Q_hitKind Q_hits Q_tries Q_takenAll Q_takenFirst Q_kinds Q_which Q_firsts Q_seconds Q_thirds Q_conclusions Q_premises Q_counts Q_image Q_waits Q_waitsFor Q_there Q_back) sz) (WQ D vwCl (some (.int o.1)) (wv_63 cI cJ cZ aQ aQ_kinds aQ_which aQ_firsts aQ_seconds aQ_thirds aQ_nexts aQ_heads aQ_names aQ_variables aQ_holes aQ_sizes aQ_places aQ_conclusions aQ_premises aQ_counts aQ_hitOf aQ_hitOne aQ_hitTwo aQ_hitTerms aQ_image aQ_bound aQ_waits aQ_waitsFor aQ_seen aQ_goals aQ_steps aQ_looked aQ_under aQ_taken aQ_news aQ_order aQ_there aQ_back Q_thrown Q_all Q_statements Q_hitKind Q_hits Q_tries Q_takenAll Q_takenFirst Q_kinds Q_which Q_firsts Q_seconds Q_thirds Q_conclusions Q_premises Q_counts o.2.1 o.2.2.1 o.2.2.2.1 o.2.2.2.2.1 o.2.2.2.2.2) (va_A (wv_63 cI cJ cZ aQ aQ_kinds aQ_which aQ_firsts aQ_seconds aQ_thirds aQ_nexts aQ_heads aQ_names aQ_variables aQ_holes aQ_sizes aQ_places aQ_conclusions aQ_premises aQ_counts aQ_hitOf aQ_hitOne aQ_hitTwo aQ_hitTerms aQ_image aQ_bound aQ_waits aQ_waitsFor aQ_seen aQ_goals aQ_steps aQ_looked aQ_under aQ_taken aQ_news aQ_order aQ_there aQ_back Q_thrown Q_all Q_statements Q_hitKind Q_hits Q_tries Q_takenAll Q_takenFirst Q_kinds Q_which Q_firsts Q_seconds Q_thirds Q_conclusions Q_premises Q_counts Q_image Q_waits Q_waitsFor Q_there Q_back) sz)) 0 0 (va_A (wv_63 cI cJ cZ aQ aQ_kinds aQ_which aQ_firsts aQ_seconds aQ_thirds aQ_nexts aQ_heads aQ_names aQ_variables aQ_holes aQ_sizes aQ_places aQ_conclusions aQ_premises aQ_counts aQ_hitOf aQ_hitOne aQ_hitTwo aQ_hitTerms aQ_image aQ_bound aQ_waits aQ_waitsFor aQ_seen aQ_goals aQ_steps aQ_looked aQ_under aQ_taken aQ_news aQ_order aQ_there aQ_back Q_thrown Q_all Q_statements Q_hitKind Q_hits Q_tries Q_takenAll Q_takenFirst Q_kinds Q_which Q_firsts Q_seconds Q_thirds Q_conclusions Q_premises Q_counts Q_image Q_waits Q_waitsFor Q_there Q_back) sz) := by
  refine Met.ofW (cc := b_Q_areTwins) (maxL := 5) (ret := (some .boolean)) (by decide) rfl ?_
  intro p e s m args below meth c s₁ B hml hv
  obtain ⟨rfl, rfl, hP, hK, hD0⟩ := hv
  have hx := B.exec
  have hb := B.bytes
  have hr := B.returns
  have hts : ∀ w ∈ BG, w.before _ s = true := fun w h => atoms_spec (ws := (ws_Q_areTwins)) B.pre w (List.mem_cons_of_mem _ h)
  have hown : s.vm.findClass RR_Q = some m.cls := findClass_of_methodNamed B.named
  have hlocks := B.notSynchronized
  have hD := hD0.self (sz := s.heap.size)
  have hA : ∀ q : Nat, s.heap.size ≤ q → va_A (wv_63 cI cJ cZ aQ aQ_kinds aQ_which aQ_firsts aQ_seconds aQ_thirds aQ_nexts aQ_heads aQ_names aQ_variables aQ_holes aQ_sizes aQ_places aQ_conclusions aQ_premises aQ_counts aQ_hitOf aQ_hitOne aQ_hitTwo aQ_hitTerms aQ_image aQ_bound aQ_waits aQ_waitsFor aQ_seen aQ_goals aQ_steps aQ_looked aQ_under aQ_taken aQ_news aQ_order aQ_there aQ_back Q_thrown Q_all Q_statements Q_hitKind Q_hits Q_tries Q_takenAll Q_takenFirst Q_kinds Q_which Q_firsts Q_seconds Q_thirds Q_conclusions Q_premises Q_counts Q_image Q_waits Q_waitsFor Q_there Q_back) s.heap.size q := fun q h => Or.inr h
  have hS : va_S (va_A (wv_63 cI cJ cZ aQ aQ_kinds aQ_which aQ_firsts aQ_seconds aQ_thirds aQ_nexts aQ_heads aQ_names aQ_variables aQ_holes aQ_sizes aQ_places aQ_conclusions aQ_premises aQ_counts aQ_hitOf aQ_hitOne aQ_hitTwo aQ_hitTerms aQ_image aQ_bound aQ_waits aQ_waitsFor aQ_seen aQ_goals aQ_steps aQ_looked aQ_under aQ_taken aQ_news aQ_order aQ_there aQ_back Q_thrown Q_all Q_statements Q_hitKind Q_hits Q_tries Q_takenAll Q_takenFirst Q_kinds Q_which Q_firsts Q_seconds Q_thirds Q_conclusions Q_premises Q_counts Q_image Q_waits Q_waitsFor Q_there Q_back) s.heap.size) s.heap s.heap [] := va_S.rf
  generalize va_A (wv_63 cI cJ cZ aQ aQ_kinds aQ_which aQ_firsts aQ_seconds aQ_thirds aQ_nexts aQ_heads aQ_names aQ_variables aQ_holes aQ_sizes aQ_places aQ_conclusions aQ_premises aQ_counts aQ_hitOf aQ_hitOne aQ_hitTwo aQ_hitTerms aQ_image aQ_bound aQ_waits aQ_waitsFor aQ_seen aQ_goals aQ_steps aQ_looked aQ_under aQ_taken aQ_news aQ_order aQ_there aQ_back Q_thrown Q_all Q_statements Q_hitKind Q_hits Q_tries Q_takenAll Q_takenFirst Q_kinds Q_which Q_firsts Q_seconds Q_thirds Q_conclusions Q_premises Q_counts Q_image Q_waits Q_waitsFor Q_there Q_back) s.heap.size = A at hD hA hS ⊢
  have hl := lv_entry ([.ref aQ, .int p0, .int p1]) (n := 5) (Nat.le_of_ble_eq_true rfl)
  rw [lg_entry_eq]
  generalize (lg_sl ([.ref aQ, .int p0, .int p1]) ++ List.replicate (5 - (lg_sl ([.ref aQ, .int p0, .int p1])).length) Slot.unset).toArray = ls at hl ⊢
  have hl : lv_has ls 5 [(0, .ref aQ), (1, .int p0), (2, .int p1)] := hl
  have hL71 : ∀ (n71 : Nat), ∀ (Q_image_71 : (Nat → Int32)) (Q_waits_71 : (Nat → Int32)) (Q_waitsFor_71 : (Nat → Int32)) (Q_there_71 : (Nat → Int32)) (Q_back_71 : (Nat → Int32)) (x1_71 : Int32) (x2_71 : Int32) (x3_71 : Int32) (x4_71 : Int32), ∀ (H : Heap) (locs : List Loc), va_P D vwCl (wv_63 cI cJ cZ aQ aQ_kinds aQ_which aQ_firsts aQ_seconds aQ_thirds aQ_nexts aQ_heads aQ_names aQ_variables aQ_holes aQ_sizes aQ_places aQ_conclusions aQ_premises aQ_counts aQ_hitOf aQ_hitOne aQ_hitTwo aQ_hitTerms aQ_image aQ_bound aQ_waits aQ_waitsFor aQ_seen aQ_goals aQ_steps aQ_looked aQ_under aQ_taken aQ_news aQ_order aQ_there aQ_back Q_thrown Q_all Q_statements Q_hitKind Q_hits Q_tries Q_takenAll Q_takenFirst Q_kinds Q_which Q_firsts Q_seconds Q_thirds Q_conclusions Q_premises Q_counts Q_image_71 Q_waits_71 Q_waitsFor_71 Q_there_71 Q_back_71) H → va_D A (wv_63 cI cJ cZ aQ aQ_kinds aQ_which aQ_firsts aQ_seconds aQ_thirds aQ_nexts aQ_heads aQ_names aQ_variables aQ_holes aQ_sizes aQ_places aQ_conclusions aQ_premises aQ_counts aQ_hitOf aQ_hitOne aQ_hitTwo aQ_hitTerms aQ_image aQ_bound aQ_waits aQ_waitsFor aQ_seen aQ_goals aQ_steps aQ_looked aQ_under aQ_taken aQ_news aQ_order aQ_there aQ_back Q_thrown Q_all Q_statements Q_hitKind Q_hits Q_tries Q_takenAll Q_takenFirst Q_kinds Q_which Q_firsts Q_seconds Q_thirds Q_conclusions Q_premises Q_counts Q_image_71 Q_waits_71 Q_waitsFor_71 Q_there_71 Q_back_71) → va_S A s.heap H locs → ∀ (ls : Array Slot), lv_has ls 5 [(0, .ref aQ), (1, .int x1_71), (2, .int x2_71), (3, .int x3_71), (4, .int x4_71)] → f_Q_areTwins_L71 Q_kinds Q_which Q_firsts Q_seconds Q_thirds Q_conclusions Q_premises Q_counts n71 Q_image_71 Q_waits_71 Q_waitsFor_71 Q_there_71 Q_back_71 x1_71 x2_71 x3_71 x4_71 = some o → W p l e (headSpec (ws_Q_areTwins) rm_Q_areTwins).room s m ([.ref aQ, .int p0, .int p1] : List Value).toArray below meth c H locs 0 0 (MQ below (WQ D vwCl (some (.int o.1)) (wv_63 cI cJ cZ aQ aQ_kinds aQ_which aQ_firsts aQ_seconds aQ_thirds aQ_nexts aQ_heads aQ_names aQ_variables aQ_holes aQ_sizes aQ_places aQ_conclusions aQ_premises aQ_counts aQ_hitOf aQ_hitOne aQ_hitTwo aQ_hitTerms aQ_image aQ_bound aQ_waits aQ_waitsFor aQ_seen aQ_goals aQ_steps aQ_looked aQ_under aQ_taken aQ_news aQ_order aQ_there aQ_back Q_thrown Q_all Q_statements Q_hitKind Q_hits Q_tries Q_takenAll Q_takenFirst Q_kinds Q_which Q_firsts Q_seconds Q_thirds Q_conclusions Q_premises Q_counts o.2.1 o.2.2.1 o.2.2.2.1 o.2.2.2.2.1 o.2.2.2.2.2) A) ([.ref aQ, .int p0, .int p1] : List Value).toArray s 0 0 A) (F0 m 71 ls []) := by
    intro n71
    induction n71 with
    | zero =>
      intro Q_image_71 Q_waits_71 Q_waitsFor_71 Q_there_71 Q_back_71 x1_71 x2_71 x3_71 x4_71 H locs hP hD hS ls hl hf
      rw [f_Q_areTwins_L71] at hf
      cases hf
    | succ n71 ih71 =>
      intro Q_image_71 Q_waits_71 Q_waitsFor_71 Q_there_71 Q_back_71 x1_71 x2_71 x3_71 x4_71 H locs hP hD hS ls hl hf
      rw [f_Q_areTwins_L71] at hf
      refine lv_iload hx hb d_Q_areTwins_71 (lv_at hl 4 rfl) ?_
      refine lv_aload_n hx hb d_Q_areTwins_73 rfl (lv_at hl 0 rfl) ?_
      refine va_get (D := D) (ci := 7) (v := .ref aQ_counts) (C := RR_Q) (T := FF_Q) (N := 41) hx hb hts kin_Q hown hK.1 hP 0 rfl rfl 16 (by decide) (hts _ k4_83) (fun _ h9 => h9) rfl d_Q_areTwins_74 ?_
      refine lv_iload_n hx hb d_Q_areTwins_77 rfl (lv_at hl 1 rfl) ?_
      obtain ⟨h14, hf⟩ := of_gd hf
      refine va_iald hx hb hK.1 hP 8 0 rfl rfl (ixb_in h14) d_Q_areTwins_78 ?_
      refine lv_icmp_ge (tgt := 111) hx hb d_Q_areTwins_79 (by decide) (fun c15 => ?_) (fun c15 => ?_)
      · have hf := ite_t c15 hf
        refine lv_iload_n hx hb d_Q_areTwins_111 rfl (lv_at hl 3 rfl) ?_
        obtain ⟨h16, hf⟩ := of_gd hf
        obtain rfl := Option.some.inj hf
        exact W.zret (v := x3_71) hx hb hr (zb_nar h16) (fun t ht hW => ⟨rfl, by rw [ht]; exact hP, hD, hS.F ht⟩) hS.2.2 d_Q_areTwins_112
      · have hf := ite_f c15 hf
        refine lv_iload_n hx hb d_Q_areTwins_82 rfl (lv_at hl 3 rfl) ?_
        refine lv_if_eq (tgt := 111) hx hb d_Q_areTwins_83 (by decide) (fun c17 => ?_) (fun c17 => ?_)
        · have hf := ite_t c17 hf
          refine lv_iload_n hx hb d_Q_areTwins_111 rfl (lv_at hl 3 rfl) ?_
          obtain ⟨h18, hf⟩ := of_gd hf
          obtain rfl := Option.some.inj hf
          exact W.zret (v := x3_71) hx hb hr (zb_nar h18) (fun t ht hW => ⟨rfl, by rw [ht]; exact hP, hD, hS.F ht⟩) hS.2.2 d_Q_areTwins_112
        · have hf := ite_f c17 hf
          refine lv_aload_n hx hb d_Q_areTwins_86 rfl (lv_at hl 0 rfl) ?_
          refine lv_aload_n hx hb d_Q_areTwins_87 rfl (lv_at hl 0 rfl) ?_
          refine lv_iload_n hx hb d_Q_areTwins_88 rfl (lv_at hl 1 rfl) ?_
          refine lv_iload hx hb d_Q_areTwins_89 (lv_at hl 4 rfl) ?_
          obtain ⟨r19, hr19, hf⟩ := of_bd hf
          refine rd_call (va_runV (As := [.int x1_71, .int x4_71]) (rest := [.ref aQ]) ⟨hx, hb, hml, hown, hts⟩ (c_Q_premise l D cI cJ cZ aQ aQ_kinds aQ_which aQ_firsts aQ_seconds aQ_thirds aQ_nexts aQ_heads aQ_names aQ_variables aQ_holes aQ_sizes aQ_places aQ_conclusions aQ_premises aQ_counts aQ_hitOf aQ_hitOne aQ_hitTwo aQ_hitTerms aQ_image aQ_bound aQ_waits aQ_waitsFor aQ_seen aQ_goals aQ_steps aQ_looked aQ_under aQ_taken aQ_news aQ_order aQ_there aQ_back Q_thrown Q_all Q_statements Q_hitKind Q_hits Q_tries Q_takenAll Q_takenFirst Q_premises x1_71 x4_71 r19 hr19) (bigV 2 hts k5_15 k5_17 ks_Q_premise k1_9 k5_18 rfl rfl hd_Q_premise ⟨Nat.le_of_ble_eq_true rfl, Nat.le_of_ble_eq_true rfl⟩) (rd_preV hK hP [0, 7] rfl 0 rfl rfl rfl) rfl rfl hl.1 rfl (lv_room (Nat.le_of_ble_eq_true rfl)) d_Q_areTwins_91 ⟨Nat.le_of_ble_eq_true rfl, Nat.le_of_ble_eq_true rfl⟩) ?_
          refine lv_aload_n hx hb d_Q_areTwins_94 rfl (lv_at hl 0 rfl) ?_
          refine lv_iload_n hx hb d_Q_areTwins_95 rfl (lv_at hl 2 rfl) ?_
          refine lv_iload hx hb d_Q_areTwins_96 (lv_at hl 4 rfl) ?_
          obtain ⟨r20, hr20, hf⟩ := of_bd hf
          refine rd_call (va_runV (As := [.int x2_71, .int x4_71]) (rest := [.int r19, .ref aQ]) ⟨hx, hb, hml, hown, hts⟩ (c_Q_premise l D cI cJ cZ aQ aQ_kinds aQ_which aQ_firsts aQ_seconds aQ_thirds aQ_nexts aQ_heads aQ_names aQ_variables aQ_holes aQ_sizes aQ_places aQ_conclusions aQ_premises aQ_counts aQ_hitOf aQ_hitOne aQ_hitTwo aQ_hitTerms aQ_image aQ_bound aQ_waits aQ_waitsFor aQ_seen aQ_goals aQ_steps aQ_looked aQ_under aQ_taken aQ_news aQ_order aQ_there aQ_back Q_thrown Q_all Q_statements Q_hitKind Q_hits Q_tries Q_takenAll Q_takenFirst Q_premises x2_71 x4_71 r20 hr20) (bigV 2 hts k5_15 k5_17 ks_Q_premise k1_9 k5_18 rfl rfl hd_Q_premise ⟨Nat.le_of_ble_eq_true rfl, Nat.le_of_ble_eq_true rfl⟩) (rd_preV hK hP [0, 7] rfl 0 rfl rfl rfl) rfl rfl hl.1 rfl (lv_room (Nat.le_of_ble_eq_true rfl)) d_Q_areTwins_98 ⟨Nat.le_of_ble_eq_true rfl, Nat.le_of_ble_eq_true rfl⟩) ?_
          obtain ⟨r21, hr21, hf⟩ := of_bd hf
          refine wr_call (ws' := (wv_63 cI cJ cZ aQ aQ_kinds aQ_which aQ_firsts aQ_seconds aQ_thirds aQ_nexts aQ_heads aQ_names aQ_variables aQ_holes aQ_sizes aQ_places aQ_conclusions aQ_premises aQ_counts aQ_hitOf aQ_hitOne aQ_hitTwo aQ_hitTerms aQ_image aQ_bound aQ_waits aQ_waitsFor aQ_seen aQ_goals aQ_steps aQ_looked aQ_under aQ_taken aQ_news aQ_order aQ_there aQ_back Q_thrown Q_all Q_statements Q_hitKind Q_hits Q_tries Q_takenAll Q_takenFirst Q_kinds Q_which Q_firsts Q_seconds Q_thirds Q_conclusions Q_premises Q_counts r21.2.1 r21.2.2.1 r21.2.2.2.1 r21.2.2.2.2.1 r21.2.2.2.2.2)) (va_runV (As := [.int r19, .int r20]) (rest := []) ⟨hx, hb, hml, hown, hts⟩ (c_Q_areAlike l D cI cJ cZ aQ aQ_kinds aQ_which aQ_firsts aQ_seconds aQ_thirds aQ_nexts aQ_heads aQ_names aQ_variables aQ_holes aQ_sizes aQ_places aQ_conclusions aQ_premises aQ_counts aQ_hitOf aQ_hitOne aQ_hitTwo aQ_hitTerms aQ_image aQ_bound aQ_waits aQ_waitsFor aQ_seen aQ_goals aQ_steps aQ_looked aQ_under aQ_taken aQ_news aQ_order aQ_there aQ_back _ Q_thrown Q_all Q_statements Q_hitKind Q_hits Q_tries Q_takenAll Q_takenFirst Q_kinds Q_which Q_firsts Q_seconds Q_thirds Q_image_71 Q_waits_71 Q_waitsFor_71 Q_there_71 Q_back_71 r19 r20 r21 hr21) (bigV 2 hts k5_74 k5_76 ks_Q_areAlike k1_9 k5_77 rfl rfl hd_Q_areAlike ⟨Nat.le_of_ble_eq_true rfl, Nat.le_of_ble_eq_true rfl⟩) (wr_preV hK hP hD [0, 1, 2, 3, 4, 5, 9, 10, 11, 12, 13] rfl (by decide) rfl 0 rfl rfl rfl) rfl rfl hl.1 rfl (lv_room (Nat.le_of_ble_eq_true rfl)) d_Q_areTwins_101 ⟨Nat.le_of_ble_eq_true rfl, Nat.le_of_ble_eq_true rfl⟩) hP hD hS hA [0, 1, 2, 3, 4, 5, 9, 10, 11, 12, 13] [6, 7, 8] rfl rfl (by decide) (by decide) [3, 4, 5, 6, 7, 8, 0, 1, 2, 9, 10, 11, 12, 13] (by decide) rfl (fun H locs hP hD hS => ?_)
          refine lv_istore_n (lv' := [(3, .int r21.1), (0, .ref aQ), (1, .int x1_71), (2, .int x2_71), (4, .int x4_71)]) hx hb d_Q_areTwins_104 rfl hl (by decide) rfl (fun ls hl => ?_)
          obtain ⟨x22, ex22⟩ : ∃ y : Int32, y = x4_71 + (1 : Int32) := ⟨_, rfl⟩
          refine lv_iinc (v := x22) (lv' := [(4, .int x22), (3, .int r21.1), (0, .ref aQ), (1, .int x1_71), (2, .int x2_71)]) hx hb d_Q_areTwins_105 hl (k := 4) rfl (by rw [ex22]; rfl) (by decide) rfl (fun ls hl => ?_)
          have hf := of_nm ex22 hf
          refine lv_goto (tgt := 71) hx hb d_Q_areTwins_108 (by decide) ?_
          exact ih71 _ _ _ _ _ _ _ _ _ _ _ hP hD hS _ (lv_sub hl [2, 3, 4, 1, 0] rfl) hf
  have hL2 : ∀ (n2 : Nat), ∀ (Q_image_2 : (Nat → Int32)) (Q_waits_2 : (Nat → Int32)) (Q_waitsFor_2 : (Nat → Int32)) (Q_there_2 : (Nat → Int32)) (Q_back_2 : (Nat → Int32)) (x1_2 : Int32) (x2_2 : Int32) (x3_2 : Int32), ∀ (H : Heap) (locs : List Loc), va_P D vwCl (wv_63 cI cJ cZ aQ aQ_kinds aQ_which aQ_firsts aQ_seconds aQ_thirds aQ_nexts aQ_heads aQ_names aQ_variables aQ_holes aQ_sizes aQ_places aQ_conclusions aQ_premises aQ_counts aQ_hitOf aQ_hitOne aQ_hitTwo aQ_hitTerms aQ_image aQ_bound aQ_waits aQ_waitsFor aQ_seen aQ_goals aQ_steps aQ_looked aQ_under aQ_taken aQ_news aQ_order aQ_there aQ_back Q_thrown Q_all Q_statements Q_hitKind Q_hits Q_tries Q_takenAll Q_takenFirst Q_kinds Q_which Q_firsts Q_seconds Q_thirds Q_conclusions Q_premises Q_counts Q_image_2 Q_waits_2 Q_waitsFor_2 Q_there_2 Q_back_2) H → va_D A (wv_63 cI cJ cZ aQ aQ_kinds aQ_which aQ_firsts aQ_seconds aQ_thirds aQ_nexts aQ_heads aQ_names aQ_variables aQ_holes aQ_sizes aQ_places aQ_conclusions aQ_premises aQ_counts aQ_hitOf aQ_hitOne aQ_hitTwo aQ_hitTerms aQ_image aQ_bound aQ_waits aQ_waitsFor aQ_seen aQ_goals aQ_steps aQ_looked aQ_under aQ_taken aQ_news aQ_order aQ_there aQ_back Q_thrown Q_all Q_statements Q_hitKind Q_hits Q_tries Q_takenAll Q_takenFirst Q_kinds Q_which Q_firsts Q_seconds Q_thirds Q_conclusions Q_premises Q_counts Q_image_2 Q_waits_2 Q_waitsFor_2 Q_there_2 Q_back_2) → va_S A s.heap H locs → ∀ (ls : Array Slot), lv_has ls 5 [(0, .ref aQ), (1, .int x1_2), (2, .int x2_2), (3, .int x3_2)] → f_Q_areTwins_L2 Q_kinds Q_which Q_firsts Q_seconds Q_thirds Q_conclusions Q_premises Q_counts n2 Q_image_2 Q_waits_2 Q_waitsFor_2 Q_there_2 Q_back_2 x1_2 x2_2 x3_2 = some o → W p l e (headSpec (ws_Q_areTwins) rm_Q_areTwins).room s m ([.ref aQ, .int p0, .int p1] : List Value).toArray below meth c H locs 0 0 (MQ below (WQ D vwCl (some (.int o.1)) (wv_63 cI cJ cZ aQ aQ_kinds aQ_which aQ_firsts aQ_seconds aQ_thirds aQ_nexts aQ_heads aQ_names aQ_variables aQ_holes aQ_sizes aQ_places aQ_conclusions aQ_premises aQ_counts aQ_hitOf aQ_hitOne aQ_hitTwo aQ_hitTerms aQ_image aQ_bound aQ_waits aQ_waitsFor aQ_seen aQ_goals aQ_steps aQ_looked aQ_under aQ_taken aQ_news aQ_order aQ_there aQ_back Q_thrown Q_all Q_statements Q_hitKind Q_hits Q_tries Q_takenAll Q_takenFirst Q_kinds Q_which Q_firsts Q_seconds Q_thirds Q_conclusions Q_premises Q_counts o.2.1 o.2.2.1 o.2.2.2.1 o.2.2.2.2.1 o.2.2.2.2.2) A) ([.ref aQ, .int p0, .int p1] : List Value).toArray s 0 0 A) (F0 m 2 ls []) := by
    intro n2
    induction n2 with
    | zero =>
      intro Q_image_2 Q_waits_2 Q_waitsFor_2 Q_there_2 Q_back_2 x1_2 x2_2 x3_2 H locs hP hD hS ls hl hf
      rw [f_Q_areTwins_L2] at hf
      cases hf
    | succ n2 ih2 =>
      intro Q_image_2 Q_waits_2 Q_waitsFor_2 Q_there_2 Q_back_2 x1_2 x2_2 x3_2 H locs hP hD hS ls hl hf
      rw [f_Q_areTwins_L2] at hf
      refine lv_iload_n hx hb d_Q_areTwins_2 rfl (lv_at hl 3 rfl) ?_
      refine lv_bipush (v := 8) hx hb d_Q_areTwins_3 (by decide) ?_
      refine lv_icmp_ge (tgt := 28) hx hb d_Q_areTwins_5 (by decide) (fun c1 => ?_) (fun c1 => ?_)
      · have hf := ite_t c1 hf
        refine lv_aload_n hx hb d_Q_areTwins_28 rfl (lv_at hl 0 rfl) ?_
        refine va_get (D := D) (ci := 7) (v := .ref aQ_counts) (C := RR_Q) (T := FF_Q) (N := 41) hx hb hts kin_Q hown hK.1 hP 0 rfl rfl 16 (by decide) (hts _ k4_83) (fun _ h9 => h9) rfl d_Q_areTwins_29 ?_
        refine lv_iload_n hx hb d_Q_areTwins_32 rfl (lv_at hl 1 rfl) ?_
        obtain ⟨h2, hf⟩ := of_gd hf
        refine va_iald hx hb hK.1 hP 8 0 rfl rfl (ixb_in h2) d_Q_areTwins_33 ?_
        refine lv_aload_n hx hb d_Q_areTwins_34 rfl (lv_at hl 0 rfl) ?_
        refine va_get (D := D) (ci := 7) (v := .ref aQ_counts) (C := RR_Q) (T := FF_Q) (N := 41) hx hb hts kin_Q hown hK.1 hP 0 rfl rfl 16 (by decide) (hts _ k4_83) (fun _ h9 => h9) rfl d_Q_areTwins_35 ?_
        refine lv_iload_n hx hb d_Q_areTwins_38 rfl (lv_at hl 2 rfl) ?_
        obtain ⟨h3, hf⟩ := of_gd hf
        refine va_iald hx hb hK.1 hP 8 0 rfl rfl (ixb_in h3) d_Q_areTwins_39 ?_
        refine lv_icmp_ne (tgt := 66) hx hb d_Q_areTwins_40 (by decide) (fun c4 => ?_) (fun c4 => ?_)
        · have hf := ite_f c4 hf
          refine lv_iconst (v := 0) hx hb d_Q_areTwins_66 (by decide) ?_
          refine lv_istore_n (lv' := [(3, .int (0 : Int32)), (0, .ref aQ), (1, .int x1_2), (2, .int x2_2)]) hx hb d_Q_areTwins_67 rfl hl (by decide) rfl (fun ls hl => ?_)
          refine lv_iconst (v := 0) hx hb d_Q_areTwins_68 (by decide) ?_
          refine lv_istore (lv' := [(4, .int (0 : Int32)), (3, .int (0 : Int32)), (0, .ref aQ), (1, .int x1_2), (2, .int x2_2)]) hx hb d_Q_areTwins_69 hl (by decide) rfl (fun ls hl => ?_)
          exact hL71 FU _ _ _ _ _ _ _ _ _ _ _ hP hD hS _ (lv_sub hl [2, 3, 4, 1, 0] rfl) hf
        · have hf := ite_t c4 hf
          refine lv_aload_n hx hb d_Q_areTwins_43 rfl (lv_at hl 0 rfl) ?_
          refine lv_aload_n hx hb d_Q_areTwins_44 rfl (lv_at hl 0 rfl) ?_
          refine va_get (D := D) (ci := 7) (v := .ref aQ_conclusions) (C := RR_Q) (T := FF_Q) (N := 41) hx hb hts kin_Q hown hK.1 hP 0 rfl rfl 14 (by decide) (hts _ k4_81) (fun _ h9 => h9) rfl d_Q_areTwins_45 ?_
          refine lv_iload_n hx hb d_Q_areTwins_48 rfl (lv_at hl 1 rfl) ?_
          obtain ⟨h5, hf⟩ := of_gd hf
          refine va_iald hx hb hK.1 hP 6 0 rfl rfl (ixb_in h5) d_Q_areTwins_49 ?_
          refine lv_aload_n hx hb d_Q_areTwins_50 rfl (lv_at hl 0 rfl) ?_
          refine va_get (D := D) (ci := 7) (v := .ref aQ_conclusions) (C := RR_Q) (T := FF_Q) (N := 41) hx hb hts kin_Q hown hK.1 hP 0 rfl rfl 14 (by decide) (hts _ k4_81) (fun _ h9 => h9) rfl d_Q_areTwins_51 ?_
          refine lv_iload_n hx hb d_Q_areTwins_54 rfl (lv_at hl 2 rfl) ?_
          obtain ⟨h6, hf⟩ := of_gd hf
          refine va_iald hx hb hK.1 hP 6 0 rfl rfl (ixb_in h6) d_Q_areTwins_55 ?_
          obtain ⟨r7, hr7, hf⟩ := of_bd hf
          refine wr_call (ws' := (wv_63 cI cJ cZ aQ aQ_kinds aQ_which aQ_firsts aQ_seconds aQ_thirds aQ_nexts aQ_heads aQ_names aQ_variables aQ_holes aQ_sizes aQ_places aQ_conclusions aQ_premises aQ_counts aQ_hitOf aQ_hitOne aQ_hitTwo aQ_hitTerms aQ_image aQ_bound aQ_waits aQ_waitsFor aQ_seen aQ_goals aQ_steps aQ_looked aQ_under aQ_taken aQ_news aQ_order aQ_there aQ_back Q_thrown Q_all Q_statements Q_hitKind Q_hits Q_tries Q_takenAll Q_takenFirst Q_kinds Q_which Q_firsts Q_seconds Q_thirds Q_conclusions Q_premises Q_counts r7.2.1 r7.2.2.1 r7.2.2.2.1 r7.2.2.2.2.1 r7.2.2.2.2.2)) (va_runV (As := [.int (Q_conclusions x1_2.toNatClampNeg), .int (Q_conclusions x2_2.toNatClampNeg)]) (rest := []) ⟨hx, hb, hml, hown, hts⟩ (c_Q_areAlike l D cI cJ cZ aQ aQ_kinds aQ_which aQ_firsts aQ_seconds aQ_thirds aQ_nexts aQ_heads aQ_names aQ_variables aQ_holes aQ_sizes aQ_places aQ_conclusions aQ_premises aQ_counts aQ_hitOf aQ_hitOne aQ_hitTwo aQ_hitTerms aQ_image aQ_bound aQ_waits aQ_waitsFor aQ_seen aQ_goals aQ_steps aQ_looked aQ_under aQ_taken aQ_news aQ_order aQ_there aQ_back _ Q_thrown Q_all Q_statements Q_hitKind Q_hits Q_tries Q_takenAll Q_takenFirst Q_kinds Q_which Q_firsts Q_seconds Q_thirds Q_image_2 Q_waits_2 Q_waitsFor_2 Q_there_2 Q_back_2 (Q_conclusions x1_2.toNatClampNeg) (Q_conclusions x2_2.toNatClampNeg) r7 hr7) (bigV 2 hts k5_74 k5_76 ks_Q_areAlike k1_9 k5_77 rfl rfl hd_Q_areAlike ⟨Nat.le_of_ble_eq_true rfl, Nat.le_of_ble_eq_true rfl⟩) (wr_preV hK hP hD [0, 1, 2, 3, 4, 5, 9, 10, 11, 12, 13] rfl (by decide) rfl 0 rfl rfl rfl) rfl rfl hl.1 rfl (lv_room (Nat.le_of_ble_eq_true rfl)) d_Q_areTwins_56 ⟨Nat.le_of_ble_eq_true rfl, Nat.le_of_ble_eq_true rfl⟩) hP hD hS hA [0, 1, 2, 3, 4, 5, 9, 10, 11, 12, 13] [6, 7, 8] rfl rfl (by decide) (by decide) [3, 4, 5, 6, 7, 8, 0, 1, 2, 9, 10, 11, 12, 13] (by decide) rfl (fun H locs hP hD hS => ?_)
          refine lv_if_eq (tgt := 66) hx hb d_Q_areTwins_59 (by decide) (fun c8 => ?_) (fun c8 => ?_)
          · have hf := ite_t c8 hf
            refine lv_iconst (v := 0) hx hb d_Q_areTwins_66 (by decide) ?_
            refine lv_istore_n (lv' := [(3, .int (0 : Int32)), (0, .ref aQ), (1, .int x1_2), (2, .int x2_2)]) hx hb d_Q_areTwins_67 rfl hl (by decide) rfl (fun ls hl => ?_)
            refine lv_iconst (v := 0) hx hb d_Q_areTwins_68 (by decide) ?_
            refine lv_istore (lv' := [(4, .int (0 : Int32)), (3, .int (0 : Int32)), (0, .ref aQ), (1, .int x1_2), (2, .int x2_2)]) hx hb d_Q_areTwins_69 hl (by decide) rfl (fun ls hl => ?_)
            exact hL71 FU _ _ _ _ _ _ _ _ _ _ _ hP hD hS _ (lv_sub hl [2, 3, 4, 1, 0] rfl) hf
          · have hf := ite_f c8 hf
            refine lv_iconst (v := 1) hx hb d_Q_areTwins_62 (by decide) ?_
            refine lv_goto (tgt := 67) hx hb d_Q_areTwins_63 (by decide) ?_
            refine lv_istore_n (lv' := [(3, .int (1 : Int32)), (0, .ref aQ), (1, .int x1_2), (2, .int x2_2)]) hx hb d_Q_areTwins_67 rfl hl (by decide) rfl (fun ls hl => ?_)
            refine lv_iconst (v := 0) hx hb d_Q_areTwins_68 (by decide) ?_
            refine lv_istore (lv' := [(4, .int (0 : Int32)), (3, .int (1 : Int32)), (0, .ref aQ), (1, .int x1_2), (2, .int x2_2)]) hx hb d_Q_areTwins_69 hl (by decide) rfl (fun ls hl => ?_)
            exact hL71 FU _ _ _ _ _ _ _ _ _ _ _ hP hD hS _ (lv_sub hl [2, 3, 4, 1, 0] rfl) hf
      · have hf := ite_f c1 hf
        refine lv_aload_n hx hb d_Q_areTwins_8 rfl (lv_at hl 0 rfl) ?_
        refine va_get (D := D) (ci := 7) (v := .ref aQ_there) (C := RR_Q) (T := FF_Q) (N := 41) hx hb hts kin_Q hown hK.1 hP 0 rfl rfl 39 (by decide) (hts _ k4_106) (fun _ h9 => h9) rfl d_Q_areTwins_9 ?_
        refine lv_iload_n hx hb d_Q_areTwins_12 rfl (lv_at hl 3 rfl) ?_
        refine lv_iconst (v := -1) hx hb d_Q_areTwins_13 (by decide) ?_
        obtain ⟨h9, hf⟩ := of_gd hf
        obtain ⟨g10, eg10⟩ : ∃ y : Nat → Int32, y = upd Q_there_2 x3_2.toNatClampNeg (-1 : Int32) := ⟨_, rfl⟩
        have hf := of_nm eg10 hf
        refine va_iast hx hb hK.1 hP hD hS 12 0 rfl rfl (ixb_in h9) d_Q_areTwins_14 (fun H locs hP hD hS => ?_)
        rw [← eg10] at hP hD
        have hP : va_P D vwCl (wv_63 cI cJ cZ aQ aQ_kinds aQ_which aQ_firsts aQ_seconds aQ_thirds aQ_nexts aQ_heads aQ_names aQ_variables aQ_holes aQ_sizes aQ_places aQ_conclusions aQ_premises aQ_counts aQ_hitOf aQ_hitOne aQ_hitTwo aQ_hitTerms aQ_image aQ_bound aQ_waits aQ_waitsFor aQ_seen aQ_goals aQ_steps aQ_looked aQ_under aQ_taken aQ_news aQ_order aQ_there aQ_back Q_thrown Q_all Q_statements Q_hitKind Q_hits Q_tries Q_takenAll Q_takenFirst Q_kinds Q_which Q_firsts Q_seconds Q_thirds Q_conclusions Q_premises Q_counts Q_image_2 Q_waits_2 Q_waitsFor_2 g10 Q_back_2) H := hP
        have hD : va_D A (wv_63 cI cJ cZ aQ aQ_kinds aQ_which aQ_firsts aQ_seconds aQ_thirds aQ_nexts aQ_heads aQ_names aQ_variables aQ_holes aQ_sizes aQ_places aQ_conclusions aQ_premises aQ_counts aQ_hitOf aQ_hitOne aQ_hitTwo aQ_hitTerms aQ_image aQ_bound aQ_waits aQ_waitsFor aQ_seen aQ_goals aQ_steps aQ_looked aQ_under aQ_taken aQ_news aQ_order aQ_there aQ_back Q_thrown Q_all Q_statements Q_hitKind Q_hits Q_tries Q_takenAll Q_takenFirst Q_kinds Q_which Q_firsts Q_seconds Q_thirds Q_conclusions Q_premises Q_counts Q_image_2 Q_waits_2 Q_waitsFor_2 g10 Q_back_2) := hD
        refine lv_aload_n hx hb d_Q_areTwins_15 rfl (lv_at hl 0 rfl) ?_
        refine va_get (D := D) (ci := 7) (v := .ref aQ_back) (C := RR_Q) (T := FF_Q) (N := 41) hx hb hts kin_Q hown hK.1 hP 0 rfl rfl 40 (by decide) (hts _ k4_107) (fun _ h9 => h9) rfl d_Q_areTwins_16 ?_
        refine lv_iload_n hx hb d_Q_areTwins_19 rfl (lv_at hl 3 rfl) ?_
        refine lv_iconst (v := -1) hx hb d_Q_areTwins_20 (by decide) ?_
        obtain ⟨h11, hf⟩ := of_gd hf
        obtain ⟨g12, eg12⟩ : ∃ y : Nat → Int32, y = upd Q_back_2 x3_2.toNatClampNeg (-1 : Int32) := ⟨_, rfl⟩
        have hf := of_nm eg12 hf
        refine va_iast hx hb hK.1 hP hD hS 13 0 rfl rfl (ixb_in h11) d_Q_areTwins_21 (fun H locs hP hD hS => ?_)
        rw [← eg12] at hP hD
        have hP : va_P D vwCl (wv_63 cI cJ cZ aQ aQ_kinds aQ_which aQ_firsts aQ_seconds aQ_thirds aQ_nexts aQ_heads aQ_names aQ_variables aQ_holes aQ_sizes aQ_places aQ_conclusions aQ_premises aQ_counts aQ_hitOf aQ_hitOne aQ_hitTwo aQ_hitTerms aQ_image aQ_bound aQ_waits aQ_waitsFor aQ_seen aQ_goals aQ_steps aQ_looked aQ_under aQ_taken aQ_news aQ_order aQ_there aQ_back Q_thrown Q_all Q_statements Q_hitKind Q_hits Q_tries Q_takenAll Q_takenFirst Q_kinds Q_which Q_firsts Q_seconds Q_thirds Q_conclusions Q_premises Q_counts Q_image_2 Q_waits_2 Q_waitsFor_2 g10 g12) H := hP
        have hD : va_D A (wv_63 cI cJ cZ aQ aQ_kinds aQ_which aQ_firsts aQ_seconds aQ_thirds aQ_nexts aQ_heads aQ_names aQ_variables aQ_holes aQ_sizes aQ_places aQ_conclusions aQ_premises aQ_counts aQ_hitOf aQ_hitOne aQ_hitTwo aQ_hitTerms aQ_image aQ_bound aQ_waits aQ_waitsFor aQ_seen aQ_goals aQ_steps aQ_looked aQ_under aQ_taken aQ_news aQ_order aQ_there aQ_back Q_thrown Q_all Q_statements Q_hitKind Q_hits Q_tries Q_takenAll Q_takenFirst Q_kinds Q_which Q_firsts Q_seconds Q_thirds Q_conclusions Q_premises Q_counts Q_image_2 Q_waits_2 Q_waitsFor_2 g10 g12) := hD
        obtain ⟨x13, ex13⟩ : ∃ y : Int32, y = x3_2 + (1 : Int32) := ⟨_, rfl⟩
        refine lv_iinc (v := x13) (lv' := [(3, .int x13), (0, .ref aQ), (1, .int x1_2), (2, .int x2_2)]) hx hb d_Q_areTwins_22 hl (k := 3) rfl (by rw [ex13]; rfl) (by decide) rfl (fun ls hl => ?_)
        have hf := of_nm ex13 hf
        refine lv_goto (tgt := 2) hx hb d_Q_areTwins_25 (by decide) ?_
        exact ih2 _ _ _ _ _ _ _ _ _ _ hP hD hS _ (lv_sub hl [1, 2, 3, 0] rfl) hf
  rw [f_Q_areTwins] at hf
  refine lv_iconst (v := 0) hx hb d_Q_areTwins_0 (by decide) ?_
  refine lv_istore_n (lv' := [(3, .int (0 : Int32)), (0, .ref aQ), (1, .int p0), (2, .int p1)]) hx hb d_Q_areTwins_1 rfl hl (by decide) rfl (fun ls hl => ?_)
  exact hL2 FU _ _ _ _ _ _ _ _ _ _ hP hD hS _ (lv_sub hl [1, 2, 3, 0] rfl) hf
def f_Q_twin_L28 (Q_statements : Int32) (Q_kinds : (Nat → Int32)) (Q_which : (Nat → Int32)) (Q_firsts : (Nat → Int32)) (Q_seconds : (Nat → Int32)) (Q_thirds : (Nat → Int32)) (Q_conclusions : (Nat → Int32)) (Q_premises : (Nat → Int32)) (Q_counts : (Nat → Int32)) : Nat → Int32 → (Nat → Int32) → (Nat → Int32) → (Nat → Int32) → (Nat → Int32) → (Nat → Int32) → Int32 → Int32 → Option (Int32 × Int32 × (Nat → Int32) × (Nat → Int32) × (Nat → Int32) × (Nat → Int32) × (Nat → Int32))
  | 0, _, _, _, _, _, _, _, _ => none
  | n + 1, Q_thrown_28, Q_image_28, Q_waits_28, Q_waitsFor_28, Q_there_28, Q_back_28, x1_28, x2_28 =>
    (f_Q_areTwins Q_kinds Q_which Q_firsts Q_seconds Q_thirds Q_conclusions Q_premises Q_counts Q_image_28 Q_waits_28 Q_waitsFor_28 Q_there_28 Q_back_28 x1_28 x2_28).bind fun r5 =>
    if r5.1 = 0 then
      nm (x2_28 + (1 : Int32)) fun x8 =>
      (f_Q_twin_L28 Q_statements Q_kinds Q_which Q_firsts Q_seconds Q_thirds Q_conclusions Q_premises Q_counts n) Q_thrown_28 r5.2.1 r5.2.2.1 r5.2.2.2.1 r5.2.2.2.2.1 r5.2.2.2.2.2 x1_28 x8
    else
      if x2_28 = x1_28 then
        some ((-1 : Int32), Q_thrown_28, r5.2.1, r5.2.2.1, r5.2.2.2.1, r5.2.2.2.2.1, r5.2.2.2.2.2)
      else
        some (x2_28, Q_thrown_28, r5.2.1, r5.2.2.1, r5.2.2.2.1, r5.2.2.2.2.1, r5.2.2.2.2.2)
def f_Q_twin_B18 (Q_statements : Int32) (Q_kinds : (Nat → Int32)) (Q_which : (Nat → Int32)) (Q_firsts : (Nat → Int32)) (Q_seconds : (Nat → Int32)) (Q_thirds : (Nat → Int32)) (Q_conclusions : (Nat → Int32)) (Q_premises : (Nat → Int32)) (Q_counts : (Nat → Int32)) (Q_thrown_18 : Int32) (Q_image_18 : (Nat → Int32)) (Q_waits_18 : (Nat → Int32)) (Q_waitsFor_18 : (Nat → Int32)) (Q_there_18 : (Nat → Int32)) (Q_back_18 : (Nat → Int32)) (x1_18 : Int32) (s1_18 : Int32) : Option (Int32 × Int32 × (Nat → Int32) × (Nat → Int32) × (Nat → Int32) × (Nat → Int32) × (Nat → Int32)) :=
  (f_Q_refuses Q_thrown_18 s1_18).bind fun r3 =>
  if r3.1 = 0 then
    f_Q_twin_L28 Q_statements Q_kinds Q_which Q_firsts Q_seconds Q_thirds Q_conclusions Q_premises Q_counts FU r3.2 Q_image_18 Q_waits_18 Q_waitsFor_18 Q_there_18 Q_back_18 x1_18 (0 : Int32)
  else
    some ((0 : Int32), r3.2, Q_image_18, Q_waits_18, Q_waitsFor_18, Q_there_18, Q_back_18)
def f_Q_twin (Q_thrown : Int32) (Q_statements : Int32) (Q_kinds : (Nat → Int32)) (Q_which : (Nat → Int32)) (Q_firsts : (Nat → Int32)) (Q_seconds : (Nat → Int32)) (Q_thirds : (Nat → Int32)) (Q_conclusions : (Nat → Int32)) (Q_premises : (Nat → Int32)) (Q_counts : (Nat → Int32)) (Q_image : (Nat → Int32)) (Q_waits : (Nat → Int32)) (Q_waitsFor : (Nat → Int32)) (Q_there : (Nat → Int32)) (Q_back : (Nat → Int32)) (p0 : Int32) : Option (Int32 × Int32 × (Nat → Int32) × (Nat → Int32) × (Nat → Int32) × (Nat → Int32) × (Nat → Int32)) :=
  if p0 < 0 then
    f_Q_twin_B18 Q_statements Q_kinds Q_which Q_firsts Q_seconds Q_thirds Q_conclusions Q_premises Q_counts Q_thrown Q_image Q_waits Q_waitsFor Q_there Q_back p0 (1 : Int32)
  else
    if p0 < Q_statements then
      f_Q_twin_B18 Q_statements Q_kinds Q_which Q_firsts Q_seconds Q_thirds Q_conclusions Q_premises Q_counts Q_thrown Q_image Q_waits Q_waitsFor Q_there Q_back p0 (0 : Int32)
    else
      f_Q_twin_B18 Q_statements Q_kinds Q_which Q_firsts Q_seconds Q_thirds Q_conclusions Q_premises Q_counts Q_thrown Q_image Q_waits Q_waitsFor Q_there Q_back p0 (1 : Int32)
abbrev rm_Q_twin : Room := { frames := 3, cells := 0, slots := 0, locals := 73 }
set_option maxHeartbeats 4000000 in
set_option maxRecDepth 100000 in
theorem c_Q_twin (l : Launch) (D : va_G) (cI cJ cZ : ClassId) (aQ aQ_kinds aQ_which aQ_firsts aQ_seconds aQ_thirds aQ_nexts aQ_heads aQ_names aQ_variables aQ_holes aQ_sizes aQ_places aQ_conclusions aQ_premises aQ_counts aQ_hitOf aQ_hitOne aQ_hitTwo aQ_hitTerms aQ_image aQ_bound aQ_waits aQ_waitsFor aQ_seen aQ_goals aQ_steps aQ_looked aQ_under aQ_taken aQ_news aQ_order aQ_there aQ_back : Nat) (sz : Nat) (Q_thrown : Int32) (Q_all : Int32) (Q_statements : Int32) (Q_hitKind : Int32) (Q_hits : Int32) (Q_tries : Int32) (Q_takenAll : Int32) (Q_takenFirst : Int32) (Q_kinds : (Nat → Int32)) (Q_which : (Nat → Int32)) (Q_firsts : (Nat → Int32)) (Q_seconds : (Nat → Int32)) (Q_thirds : (Nat → Int32)) (Q_conclusions : (Nat → Int32)) (Q_premises : (Nat → Int32)) (Q_counts : (Nat → Int32)) (Q_image : (Nat → Int32)) (Q_waits : (Nat → Int32)) (Q_waitsFor : (Nat → Int32)) (Q_there : (Nat → Int32)) (Q_back : (Nat → Int32)) (p0 : Int32) (o : Int32 × Int32 × (Nat → Int32) × (Nat → Int32) × (Nat → Int32) × (Nat → Int32) × (Nat → Int32)) (hf : f_Q_twin Q_thrown Q_statements Q_kinds Q_which Q_firsts Q_seconds Q_thirds Q_conclusions Q_premises Q_counts Q_image Q_waits Q_waitsFor Q_there Q_back p0 = some o) : Met l y_Q_twin (ws_Q_twin) rm_Q_twin (WPc D vwCl cI cJ cZ [.ref aQ, .int p0] (wv_63 cI cJ cZ aQ aQ_kinds aQ_which aQ_firsts aQ_seconds aQ_thirds aQ_nexts aQ_heads aQ_names aQ_variables aQ_holes aQ_sizes aQ_places aQ_conclusions aQ_premises aQ_counts aQ_hitOf aQ_hitOne aQ_hitTwo aQ_hitTerms aQ_image aQ_bound aQ_waits aQ_waitsFor aQ_seen aQ_goals aQ_steps aQ_looked aQ_under aQ_taken aQ_news aQ_order aQ_there aQ_back Q_thrown Q_all Q_statements Q_hitKind Q_hits Q_tries Q_takenAll Q_takenFirst Q_kinds Q_which Q_firsts Q_seconds Q_thirds Q_conclusions Q_premises Q_counts Q_image Q_waits Q_waitsFor Q_there Q_back) sz) (WQ D vwCl (some (.int o.1)) (wv_63 cI cJ cZ aQ aQ_kinds aQ_which aQ_firsts aQ_seconds aQ_thirds aQ_nexts aQ_heads aQ_names aQ_variables aQ_holes aQ_sizes aQ_places aQ_conclusions aQ_premises aQ_counts aQ_hitOf aQ_hitOne aQ_hitTwo aQ_hitTerms aQ_image aQ_bound aQ_waits aQ_waitsFor aQ_seen aQ_goals aQ_steps aQ_looked aQ_under aQ_taken aQ_news aQ_order aQ_there aQ_back o.2.1 Q_all Q_statements Q_hitKind Q_hits Q_tries Q_takenAll Q_takenFirst Q_kinds Q_which Q_firsts Q_seconds Q_thirds Q_conclusions Q_premises Q_counts o.2.2.1 o.2.2.2.1 o.2.2.2.2.1 o.2.2.2.2.2.1 o.2.2.2.2.2.2) (va_A (wv_63 cI cJ cZ aQ aQ_kinds aQ_which aQ_firsts aQ_seconds aQ_thirds aQ_nexts aQ_heads aQ_names aQ_variables aQ_holes aQ_sizes aQ_places aQ_conclusions aQ_premises aQ_counts aQ_hitOf aQ_hitOne aQ_hitTwo aQ_hitTerms aQ_image aQ_bound aQ_waits aQ_waitsFor aQ_seen aQ_goals aQ_steps aQ_looked aQ_under aQ_taken aQ_news aQ_order aQ_there aQ_back Q_thrown Q_all Q_statements Q_hitKind Q_hits Q_tries Q_takenAll Q_takenFirst Q_kinds Q_which Q_firsts Q_seconds Q_thirds Q_conclusions Q_premises Q_counts Q_image Q_waits Q_waitsFor Q_there Q_back) sz)) 0 0 (va_A (wv_63 cI cJ cZ aQ aQ_kinds aQ_which aQ_firsts aQ_seconds aQ_thirds aQ_nexts aQ_heads aQ_names aQ_variables aQ_holes aQ_sizes aQ_places aQ_conclusions aQ_premises aQ_counts aQ_hitOf aQ_hitOne aQ_hitTwo aQ_hitTerms aQ_image aQ_bound aQ_waits aQ_waitsFor aQ_seen aQ_goals aQ_steps aQ_looked aQ_under aQ_taken aQ_news aQ_order aQ_there aQ_back Q_thrown Q_all Q_statements Q_hitKind Q_hits Q_tries Q_takenAll Q_takenFirst Q_kinds Q_which Q_firsts Q_seconds Q_thirds Q_conclusions Q_premises Q_counts Q_image Q_waits Q_waitsFor Q_there Q_back) sz) := by
  refine Met.ofW (cc := b_Q_twin) (maxL := 3) (ret := (some .int)) (by decide) rfl ?_
  intro p e s m args below meth c s₁ B hml hv
  obtain ⟨rfl, rfl, hP, hK, hD0⟩ := hv
  have hx := B.exec
  have hb := B.bytes
  have hr := B.returns
  have hts : ∀ w ∈ BG, w.before _ s = true := fun w h => atoms_spec (ws := (ws_Q_twin)) B.pre w (List.mem_cons_of_mem _ h)
  have hown : s.vm.findClass RR_Q = some m.cls := findClass_of_methodNamed B.named
  have hlocks := B.notSynchronized
  have hD := hD0.self (sz := s.heap.size)
  have hA : ∀ q : Nat, s.heap.size ≤ q → va_A (wv_63 cI cJ cZ aQ aQ_kinds aQ_which aQ_firsts aQ_seconds aQ_thirds aQ_nexts aQ_heads aQ_names aQ_variables aQ_holes aQ_sizes aQ_places aQ_conclusions aQ_premises aQ_counts aQ_hitOf aQ_hitOne aQ_hitTwo aQ_hitTerms aQ_image aQ_bound aQ_waits aQ_waitsFor aQ_seen aQ_goals aQ_steps aQ_looked aQ_under aQ_taken aQ_news aQ_order aQ_there aQ_back Q_thrown Q_all Q_statements Q_hitKind Q_hits Q_tries Q_takenAll Q_takenFirst Q_kinds Q_which Q_firsts Q_seconds Q_thirds Q_conclusions Q_premises Q_counts Q_image Q_waits Q_waitsFor Q_there Q_back) s.heap.size q := fun q h => Or.inr h
  have hS : va_S (va_A (wv_63 cI cJ cZ aQ aQ_kinds aQ_which aQ_firsts aQ_seconds aQ_thirds aQ_nexts aQ_heads aQ_names aQ_variables aQ_holes aQ_sizes aQ_places aQ_conclusions aQ_premises aQ_counts aQ_hitOf aQ_hitOne aQ_hitTwo aQ_hitTerms aQ_image aQ_bound aQ_waits aQ_waitsFor aQ_seen aQ_goals aQ_steps aQ_looked aQ_under aQ_taken aQ_news aQ_order aQ_there aQ_back Q_thrown Q_all Q_statements Q_hitKind Q_hits Q_tries Q_takenAll Q_takenFirst Q_kinds Q_which Q_firsts Q_seconds Q_thirds Q_conclusions Q_premises Q_counts Q_image Q_waits Q_waitsFor Q_there Q_back) s.heap.size) s.heap s.heap [] := va_S.rf
  generalize va_A (wv_63 cI cJ cZ aQ aQ_kinds aQ_which aQ_firsts aQ_seconds aQ_thirds aQ_nexts aQ_heads aQ_names aQ_variables aQ_holes aQ_sizes aQ_places aQ_conclusions aQ_premises aQ_counts aQ_hitOf aQ_hitOne aQ_hitTwo aQ_hitTerms aQ_image aQ_bound aQ_waits aQ_waitsFor aQ_seen aQ_goals aQ_steps aQ_looked aQ_under aQ_taken aQ_news aQ_order aQ_there aQ_back Q_thrown Q_all Q_statements Q_hitKind Q_hits Q_tries Q_takenAll Q_takenFirst Q_kinds Q_which Q_firsts Q_seconds Q_thirds Q_conclusions Q_premises Q_counts Q_image Q_waits Q_waitsFor Q_there Q_back) s.heap.size = A at hD hA hS ⊢
  have hl := lv_entry ([.ref aQ, .int p0]) (n := 3) (Nat.le_of_ble_eq_true rfl)
  rw [lg_entry_eq]
  generalize (lg_sl ([.ref aQ, .int p0]) ++ List.replicate (3 - (lg_sl ([.ref aQ, .int p0])).length) Slot.unset).toArray = ls at hl ⊢
  have hl : lv_has ls 3 [(0, .ref aQ), (1, .int p0)] := hl
  have hL28 : ∀ (n28 : Nat), ∀ (Q_thrown_28 : Int32) (Q_image_28 : (Nat → Int32)) (Q_waits_28 : (Nat → Int32)) (Q_waitsFor_28 : (Nat → Int32)) (Q_there_28 : (Nat → Int32)) (Q_back_28 : (Nat → Int32)) (x1_28 : Int32) (x2_28 : Int32), ∀ (H : Heap) (locs : List Loc), va_P D vwCl (wv_63 cI cJ cZ aQ aQ_kinds aQ_which aQ_firsts aQ_seconds aQ_thirds aQ_nexts aQ_heads aQ_names aQ_variables aQ_holes aQ_sizes aQ_places aQ_conclusions aQ_premises aQ_counts aQ_hitOf aQ_hitOne aQ_hitTwo aQ_hitTerms aQ_image aQ_bound aQ_waits aQ_waitsFor aQ_seen aQ_goals aQ_steps aQ_looked aQ_under aQ_taken aQ_news aQ_order aQ_there aQ_back Q_thrown_28 Q_all Q_statements Q_hitKind Q_hits Q_tries Q_takenAll Q_takenFirst Q_kinds Q_which Q_firsts Q_seconds Q_thirds Q_conclusions Q_premises Q_counts Q_image_28 Q_waits_28 Q_waitsFor_28 Q_there_28 Q_back_28) H → va_D A (wv_63 cI cJ cZ aQ aQ_kinds aQ_which aQ_firsts aQ_seconds aQ_thirds aQ_nexts aQ_heads aQ_names aQ_variables aQ_holes aQ_sizes aQ_places aQ_conclusions aQ_premises aQ_counts aQ_hitOf aQ_hitOne aQ_hitTwo aQ_hitTerms aQ_image aQ_bound aQ_waits aQ_waitsFor aQ_seen aQ_goals aQ_steps aQ_looked aQ_under aQ_taken aQ_news aQ_order aQ_there aQ_back Q_thrown_28 Q_all Q_statements Q_hitKind Q_hits Q_tries Q_takenAll Q_takenFirst Q_kinds Q_which Q_firsts Q_seconds Q_thirds Q_conclusions Q_premises Q_counts Q_image_28 Q_waits_28 Q_waitsFor_28 Q_there_28 Q_back_28) → va_S A s.heap H locs → ∀ (ls : Array Slot), lv_has ls 3 [(0, .ref aQ), (1, .int x1_28), (2, .int x2_28)] → f_Q_twin_L28 Q_statements Q_kinds Q_which Q_firsts Q_seconds Q_thirds Q_conclusions Q_premises Q_counts n28 Q_thrown_28 Q_image_28 Q_waits_28 Q_waitsFor_28 Q_there_28 Q_back_28 x1_28 x2_28 = some o → W p l e (headSpec (ws_Q_twin) rm_Q_twin).room s m ([.ref aQ, .int p0] : List Value).toArray below meth c H locs 0 0 (MQ below (WQ D vwCl (some (.int o.1)) (wv_63 cI cJ cZ aQ aQ_kinds aQ_which aQ_firsts aQ_seconds aQ_thirds aQ_nexts aQ_heads aQ_names aQ_variables aQ_holes aQ_sizes aQ_places aQ_conclusions aQ_premises aQ_counts aQ_hitOf aQ_hitOne aQ_hitTwo aQ_hitTerms aQ_image aQ_bound aQ_waits aQ_waitsFor aQ_seen aQ_goals aQ_steps aQ_looked aQ_under aQ_taken aQ_news aQ_order aQ_there aQ_back o.2.1 Q_all Q_statements Q_hitKind Q_hits Q_tries Q_takenAll Q_takenFirst Q_kinds Q_which Q_firsts Q_seconds Q_thirds Q_conclusions Q_premises Q_counts o.2.2.1 o.2.2.2.1 o.2.2.2.2.1 o.2.2.2.2.2.1 o.2.2.2.2.2.2) A) ([.ref aQ, .int p0] : List Value).toArray s 0 0 A) (F0 m 28 ls []) := by
    intro n28
    induction n28 with
    | zero =>
      intro Q_thrown_28 Q_image_28 Q_waits_28 Q_waitsFor_28 Q_there_28 Q_back_28 x1_28 x2_28 H locs hP hD hS ls hl hf
      rw [f_Q_twin_L28] at hf
      cases hf
    | succ n28 ih28 =>
      intro Q_thrown_28 Q_image_28 Q_waits_28 Q_waitsFor_28 Q_there_28 Q_back_28 x1_28 x2_28 H locs hP hD hS ls hl hf
      rw [f_Q_twin_L28] at hf
      refine lv_aload_n hx hb d_Q_twin_28 rfl (lv_at hl 0 rfl) ?_
      refine lv_iload_n hx hb d_Q_twin_29 rfl (lv_at hl 1 rfl) ?_
      refine lv_iload_n hx hb d_Q_twin_30 rfl (lv_at hl 2 rfl) ?_
      obtain ⟨r5, hr5, hf⟩ := of_bd hf
      refine wr_call (ws' := (wv_63 cI cJ cZ aQ aQ_kinds aQ_which aQ_firsts aQ_seconds aQ_thirds aQ_nexts aQ_heads aQ_names aQ_variables aQ_holes aQ_sizes aQ_places aQ_conclusions aQ_premises aQ_counts aQ_hitOf aQ_hitOne aQ_hitTwo aQ_hitTerms aQ_image aQ_bound aQ_waits aQ_waitsFor aQ_seen aQ_goals aQ_steps aQ_looked aQ_under aQ_taken aQ_news aQ_order aQ_there aQ_back Q_thrown_28 Q_all Q_statements Q_hitKind Q_hits Q_tries Q_takenAll Q_takenFirst Q_kinds Q_which Q_firsts Q_seconds Q_thirds Q_conclusions Q_premises Q_counts r5.2.1 r5.2.2.1 r5.2.2.2.1 r5.2.2.2.2.1 r5.2.2.2.2.2)) (va_runV (As := [.int x1_28, .int x2_28]) (rest := []) ⟨hx, hb, hml, hown, hts⟩ (c_Q_areTwins l D cI cJ cZ aQ aQ_kinds aQ_which aQ_firsts aQ_seconds aQ_thirds aQ_nexts aQ_heads aQ_names aQ_variables aQ_holes aQ_sizes aQ_places aQ_conclusions aQ_premises aQ_counts aQ_hitOf aQ_hitOne aQ_hitTwo aQ_hitTerms aQ_image aQ_bound aQ_waits aQ_waitsFor aQ_seen aQ_goals aQ_steps aQ_looked aQ_under aQ_taken aQ_news aQ_order aQ_there aQ_back _ Q_thrown_28 Q_all Q_statements Q_hitKind Q_hits Q_tries Q_takenAll Q_takenFirst Q_kinds Q_which Q_firsts Q_seconds Q_thirds Q_conclusions Q_premises Q_counts Q_image_28 Q_waits_28 Q_waitsFor_28 Q_there_28 Q_back_28 x1_28 x2_28 r5 hr5) (bigV 2 hts k5_70 k5_72 ks_Q_areTwins k1_9 k5_73 rfl rfl hd_Q_areTwins ⟨Nat.le_of_ble_eq_true rfl, Nat.le_of_ble_eq_true rfl⟩) (wr_preV hK hP hD [0, 1, 2, 3, 4, 5, 6, 7, 8, 9, 10, 11, 12, 13] rfl (by decide) rfl 0 rfl rfl rfl) rfl rfl hl.1 rfl (lv_room (Nat.le_of_ble_eq_true rfl)) d_Q_twin_31 ⟨Nat.le_of_ble_eq_true rfl, Nat.le_of_ble_eq_true rfl⟩) hP hD hS hA [0, 1, 2, 3, 4, 5, 6, 7, 8, 9, 10, 11, 12, 13] [] rfl rfl (by decide) (by decide) [0, 1, 2, 3, 4, 5, 6, 7, 8, 9, 10, 11, 12, 13] (by decide) rfl (fun H locs hP hD hS => ?_)
      refine lv_if_ne (tgt := 43) hx hb d_Q_twin_34 (by decide) (fun c6 => ?_) (fun c6 => ?_)
      · have hf := ite_f c6 hf
        refine lv_iload_n hx hb d_Q_twin_43 rfl (lv_at hl 2 rfl) ?_
        refine lv_iload_n hx hb d_Q_twin_44 rfl (lv_at hl 1 rfl) ?_
        refine lv_icmp_ne (tgt := 52) hx hb d_Q_twin_45 (by decide) (fun c7 => ?_) (fun c7 => ?_)
        · have hf := ite_f c7 hf
          refine lv_iload_n hx hb d_Q_twin_52 rfl (lv_at hl 2 rfl) ?_
          obtain rfl := Option.some.inj hf
          exact W.iret (v := x2_28) hx hb hr (fun t ht hW => ⟨rfl, by rw [ht]; exact hP, hD, hS.F ht⟩) hS.2.2 d_Q_twin_53
        · have hf := ite_t c7 hf
          refine lv_iconst (v := -1) hx hb d_Q_twin_48 (by decide) ?_
          refine lv_goto (tgt := 53) hx hb d_Q_twin_49 (by decide) ?_
          obtain rfl := Option.some.inj hf
          exact W.iret (v := (-1 : Int32)) hx hb hr (fun t ht hW => ⟨rfl, by rw [ht]; exact hP, hD, hS.F ht⟩) hS.2.2 d_Q_twin_53
      · have hf := ite_t c6 hf
        obtain ⟨x8, ex8⟩ : ∃ y : Int32, y = x2_28 + (1 : Int32) := ⟨_, rfl⟩
        refine lv_iinc (v := x8) (lv' := [(2, .int x8), (0, .ref aQ), (1, .int x1_28)]) hx hb d_Q_twin_37 hl (k := 2) rfl (by rw [ex8]; rfl) (by decide) rfl (fun ls hl => ?_)
        have hf := of_nm ex8 hf
        refine lv_goto (tgt := 28) hx hb d_Q_twin_40 (by decide) ?_
        exact ih28 _ _ _ _ _ _ _ _ _ _ hP hD hS _ (lv_sub hl [1, 2, 0] rfl) hf
  have hB18 : ∀ (Q_thrown_18 : Int32) (Q_image_18 : (Nat → Int32)) (Q_waits_18 : (Nat → Int32)) (Q_waitsFor_18 : (Nat → Int32)) (Q_there_18 : (Nat → Int32)) (Q_back_18 : (Nat → Int32)) (x1_18 : Int32) (s1_18 : Int32), ∀ (H : Heap) (locs : List Loc), va_P D vwCl (wv_63 cI cJ cZ aQ aQ_kinds aQ_which aQ_firsts aQ_seconds aQ_thirds aQ_nexts aQ_heads aQ_names aQ_variables aQ_holes aQ_sizes aQ_places aQ_conclusions aQ_premises aQ_counts aQ_hitOf aQ_hitOne aQ_hitTwo aQ_hitTerms aQ_image aQ_bound aQ_waits aQ_waitsFor aQ_seen aQ_goals aQ_steps aQ_looked aQ_under aQ_taken aQ_news aQ_order aQ_there aQ_back Q_thrown_18 Q_all Q_statements Q_hitKind Q_hits Q_tries Q_takenAll Q_takenFirst Q_kinds Q_which Q_firsts Q_seconds Q_thirds Q_conclusions Q_premises Q_counts Q_image_18 Q_waits_18 Q_waitsFor_18 Q_there_18 Q_back_18) H → va_D A (wv_63 cI cJ cZ aQ aQ_kinds aQ_which aQ_firsts aQ_seconds aQ_thirds aQ_nexts aQ_heads aQ_names aQ_variables aQ_holes aQ_sizes aQ_places aQ_conclusions aQ_premises aQ_counts aQ_hitOf aQ_hitOne aQ_hitTwo aQ_hitTerms aQ_image aQ_bound aQ_waits aQ_waitsFor aQ_seen aQ_goals aQ_steps aQ_looked aQ_under aQ_taken aQ_news aQ_order aQ_there aQ_back Q_thrown_18 Q_all Q_statements Q_hitKind Q_hits Q_tries Q_takenAll Q_takenFirst Q_kinds Q_which Q_firsts Q_seconds Q_thirds Q_conclusions Q_premises Q_counts Q_image_18 Q_waits_18 Q_waitsFor_18 Q_there_18 Q_back_18) → va_S A s.heap H locs → ∀ (ls : Array Slot), lv_has ls 3 [(0, .ref aQ), (1, .int x1_18)] → f_Q_twin_B18 Q_statements Q_kinds Q_which Q_firsts Q_seconds Q_thirds Q_conclusions Q_premises Q_counts Q_thrown_18 Q_image_18 Q_waits_18 Q_waitsFor_18 Q_there_18 Q_back_18 x1_18 s1_18 = some o → W p l e (headSpec (ws_Q_twin) rm_Q_twin).room s m ([.ref aQ, .int p0] : List Value).toArray below meth c H locs 0 0 (MQ below (WQ D vwCl (some (.int o.1)) (wv_63 cI cJ cZ aQ aQ_kinds aQ_which aQ_firsts aQ_seconds aQ_thirds aQ_nexts aQ_heads aQ_names aQ_variables aQ_holes aQ_sizes aQ_places aQ_conclusions aQ_premises aQ_counts aQ_hitOf aQ_hitOne aQ_hitTwo aQ_hitTerms aQ_image aQ_bound aQ_waits aQ_waitsFor aQ_seen aQ_goals aQ_steps aQ_looked aQ_under aQ_taken aQ_news aQ_order aQ_there aQ_back o.2.1 Q_all Q_statements Q_hitKind Q_hits Q_tries Q_takenAll Q_takenFirst Q_kinds Q_which Q_firsts Q_seconds Q_thirds Q_conclusions Q_premises Q_counts o.2.2.1 o.2.2.2.1 o.2.2.2.2.1 o.2.2.2.2.2.1 o.2.2.2.2.2.2) A) ([.ref aQ, .int p0] : List Value).toArray s 0 0 A) (F0 m 18 ls [.int s1_18, .ref aQ]) := by
    intro Q_thrown_18 Q_image_18 Q_waits_18 Q_waitsFor_18 Q_there_18 Q_back_18 x1_18 s1_18 H locs hP hD hS ls hl hf
    rw [f_Q_twin_B18] at hf
    obtain ⟨r3, hr3, hf⟩ := of_bd hf
    refine wr_call (ws' := (wv_63 cI cJ cZ aQ aQ_kinds aQ_which aQ_firsts aQ_seconds aQ_thirds aQ_nexts aQ_heads aQ_names aQ_variables aQ_holes aQ_sizes aQ_places aQ_conclusions aQ_premises aQ_counts aQ_hitOf aQ_hitOne aQ_hitTwo aQ_hitTerms aQ_image aQ_bound aQ_waits aQ_waitsFor aQ_seen aQ_goals aQ_steps aQ_looked aQ_under aQ_taken aQ_news aQ_order aQ_there aQ_back r3.2 Q_all Q_statements Q_hitKind Q_hits Q_tries Q_takenAll Q_takenFirst Q_kinds Q_which Q_firsts Q_seconds Q_thirds Q_conclusions Q_premises Q_counts Q_image_18 Q_waits_18 Q_waitsFor_18 Q_there_18 Q_back_18)) (va_runV (As := [.int s1_18]) (rest := []) ⟨hx, hb, hml, hown, hts⟩ (c_Q_refuses l D cI cJ cZ aQ aQ_kinds aQ_which aQ_firsts aQ_seconds aQ_thirds aQ_nexts aQ_heads aQ_names aQ_variables aQ_holes aQ_sizes aQ_places aQ_conclusions aQ_premises aQ_counts aQ_hitOf aQ_hitOne aQ_hitTwo aQ_hitTerms aQ_image aQ_bound aQ_waits aQ_waitsFor aQ_seen aQ_goals aQ_steps aQ_looked aQ_under aQ_taken aQ_news aQ_order aQ_there aQ_back _ Q_thrown_18 Q_all Q_statements Q_hitKind Q_hits Q_tries Q_takenAll Q_takenFirst s1_18 r3 hr3) (bigV 1 hts k4_203 k4_205 ks_Q_refuses k1_9 k4_206 rfl rfl hd_Q_refuses ⟨Nat.le_of_ble_eq_true rfl, Nat.le_of_ble_eq_true rfl⟩) (wr_preV hK hP hD [0] rfl (by decide) rfl 0 rfl rfl rfl) rfl rfl hl.1 rfl (lv_room (Nat.le_of_ble_eq_true rfl)) d_Q_twin_18 ⟨Nat.le_of_ble_eq_true rfl, Nat.le_of_ble_eq_true rfl⟩) hP hD hS hA [0] [1, 2, 3, 4, 5, 6, 7, 8, 9, 10, 11, 12, 13] rfl rfl (by decide) (by decide) [13, 0, 1, 2, 3, 4, 5, 6, 7, 8, 9, 10, 11, 12] (by decide) rfl (fun H locs hP hD hS => ?_)
    refine lv_if_eq (tgt := 26) hx hb d_Q_twin_21 (by decide) (fun c4 => ?_) (fun c4 => ?_)
    · have hf := ite_t c4 hf
      refine lv_iconst (v := 0) hx hb d_Q_twin_26 (by decide) ?_
      refine lv_istore_n (lv' := [(2, .int (0 : Int32)), (0, .ref aQ), (1, .int x1_18)]) hx hb d_Q_twin_27 rfl hl (by decide) rfl (fun ls hl => ?_)
      exact hL28 FU _ _ _ _ _ _ _ _ _ _ hP hD hS _ (lv_sub hl [1, 2, 0] rfl) hf
    · have hf := ite_f c4 hf
      refine lv_iconst (v := 0) hx hb d_Q_twin_24 (by decide) ?_
      obtain rfl := Option.some.inj hf
      exact W.iret (v := (0 : Int32)) hx hb hr (fun t ht hW => ⟨rfl, by rw [ht]; exact hP, hD, hS.F ht⟩) hS.2.2 d_Q_twin_25
  rw [f_Q_twin] at hf
  refine lv_aload_n hx hb d_Q_twin_0 rfl (lv_at hl 0 rfl) ?_
  refine lv_iload_n hx hb d_Q_twin_1 rfl (lv_at hl 1 rfl) ?_
  refine lv_if_lt (tgt := 13) hx hb d_Q_twin_2 (by decide) (fun c1 => ?_) (fun c1 => ?_)
  · have hf := ite_t c1 hf
    refine lv_iconst (v := 1) hx hb d_Q_twin_13 (by decide) ?_
    refine lv_goto (tgt := 18) hx hb d_Q_twin_14 (by decide) ?_
    exact hB18 _ _ _ _ _ _ _ _ _ _ hP hD hS _ (lv_sub hl [0, 1] rfl) hf
  · have hf := ite_f c1 hf
    refine lv_iload_n hx hb d_Q_twin_5 rfl (lv_at hl 1 rfl) ?_
    refine lv_aload_n hx hb d_Q_twin_6 rfl (lv_at hl 0 rfl) ?_
    refine va_get (D := D) (ci := 7) (v := .int Q_statements) (C := RR_Q) (T := FF_Q) (N := 41) hx hb hts kin_Q hown hK.1 hP 0 rfl rfl 17 (by decide) (hts _ k4_84) (fun _ h9 => h9) rfl d_Q_twin_7 ?_
    refine lv_icmp_lt (tgt := 17) hx hb d_Q_twin_10 (by decide) (fun c2 => ?_) (fun c2 => ?_)
    · have hf := ite_t c2 hf
      refine lv_iconst (v := 0) hx hb d_Q_twin_17 (by decide) ?_
      exact hB18 _ _ _ _ _ _ _ _ _ _ hP hD hS _ (lv_sub hl [0, 1] rfl) hf
    · have hf := ite_f c2 hf
      refine lv_iconst (v := 1) hx hb d_Q_twin_13 (by decide) ?_
      refine lv_goto (tgt := 18) hx hb d_Q_twin_14 (by decide) ?_
      exact hB18 _ _ _ _ _ _ _ _ _ _ hP hD hS _ (lv_sub hl [0, 1] rfl) hf
def f_Q_inOrder_L11 (Q_statements : Int32) (Q_counts : (Nat → Int32)) (K4 : (Nat → Int32) → Int32 → Int32 → Option ((Nat → Int32))) : Nat → (Nat → Int32) → Int32 → Int32 → Int32 → Option ((Nat → Int32))
  | 0, _, _, _, _ => none
  | n + 1, Q_order_11, x1_11, x2_11, x3_11 =>
    if Q_statements ≤ x3_11 then
      nm (x2_11 + (1 : Int32)) fun x3 =>
      K4 Q_order_11 x1_11 x3
    else
      gd (ixb x3_11 30) <|
      if (Q_counts x3_11.toNatClampNeg) = x2_11 then
        gd (ixb x1_11 30) <| nm (upd Q_order_11 x1_11.toNatClampNeg x3_11) fun g8 =>
        nm (x1_11 + (1 : Int32)) fun x9 =>
        nm (x3_11 + (1 : Int32)) fun x10 =>
        (f_Q_inOrder_L11 Q_statements Q_counts K4 n) g8 x9 x2_11 x10
      else
        nm (x3_11 + (1 : Int32)) fun x6 =>
        (f_Q_inOrder_L11 Q_statements Q_counts K4 n) Q_order_11 x1_11 x2_11 x6
def f_Q_inOrder_L4 (Q_statements : Int32) (Q_counts : (Nat → Int32)) : Nat → (Nat → Int32) → Int32 → Int32 → Option ((Nat → Int32))
  | 0, _, _, _ => none
  | n + 1, Q_order_4, x1_4, x2_4 =>
    if (4 : Int32) < x2_4 then
      some Q_order_4
    else
      f_Q_inOrder_L11 Q_statements Q_counts (f_Q_inOrder_L4 Q_statements Q_counts n) FU Q_order_4 x1_4 x2_4 (0 : Int32)
def f_Q_inOrder (Q_statements : Int32) (Q_counts : (Nat → Int32)) (Q_order : (Nat → Int32)) : Option ((Nat → Int32)) :=
  f_Q_inOrder_L4 Q_statements Q_counts FU Q_order (0 : Int32) (0 : Int32)
abbrev rm_Q_inOrder : Room := { frames := 0, cells := 0, slots := 0, locals := 0 }
set_option maxHeartbeats 4000000 in
set_option maxRecDepth 100000 in
theorem c_Q_inOrder (l : Launch) (D : va_G) (cI cJ cZ : ClassId) (aQ aQ_kinds aQ_which aQ_firsts aQ_seconds aQ_thirds aQ_nexts aQ_heads aQ_names aQ_variables aQ_holes aQ_sizes aQ_places aQ_conclusions aQ_premises aQ_counts aQ_hitOf aQ_hitOne aQ_hitTwo aQ_hitTerms aQ_image aQ_bound aQ_waits aQ_waitsFor aQ_seen aQ_goals aQ_steps aQ_looked aQ_under aQ_taken aQ_news aQ_order aQ_there aQ_back : Nat) (sz : Nat) (Q_thrown : Int32) (Q_all : Int32) (Q_statements : Int32) (Q_hitKind : Int32) (Q_hits : Int32) (Q_tries : Int32) (Q_takenAll : Int32) (Q_takenFirst : Int32) (Q_counts : (Nat → Int32)) (Q_order : (Nat → Int32)) (o : (Nat → Int32)) (hf : f_Q_inOrder Q_statements Q_counts Q_order = some o) : Met l y_Q_inOrder (ws_Q_inOrder) rm_Q_inOrder (WPc D vwCl cI cJ cZ [.ref aQ] (wv_64 cI cJ cZ aQ aQ_kinds aQ_which aQ_firsts aQ_seconds aQ_thirds aQ_nexts aQ_heads aQ_names aQ_variables aQ_holes aQ_sizes aQ_places aQ_conclusions aQ_premises aQ_counts aQ_hitOf aQ_hitOne aQ_hitTwo aQ_hitTerms aQ_image aQ_bound aQ_waits aQ_waitsFor aQ_seen aQ_goals aQ_steps aQ_looked aQ_under aQ_taken aQ_news aQ_order aQ_there aQ_back Q_thrown Q_all Q_statements Q_hitKind Q_hits Q_tries Q_takenAll Q_takenFirst Q_counts Q_order) sz) (WQ D vwCl none (wv_64 cI cJ cZ aQ aQ_kinds aQ_which aQ_firsts aQ_seconds aQ_thirds aQ_nexts aQ_heads aQ_names aQ_variables aQ_holes aQ_sizes aQ_places aQ_conclusions aQ_premises aQ_counts aQ_hitOf aQ_hitOne aQ_hitTwo aQ_hitTerms aQ_image aQ_bound aQ_waits aQ_waitsFor aQ_seen aQ_goals aQ_steps aQ_looked aQ_under aQ_taken aQ_news aQ_order aQ_there aQ_back Q_thrown Q_all Q_statements Q_hitKind Q_hits Q_tries Q_takenAll Q_takenFirst Q_counts o) (va_A (wv_64 cI cJ cZ aQ aQ_kinds aQ_which aQ_firsts aQ_seconds aQ_thirds aQ_nexts aQ_heads aQ_names aQ_variables aQ_holes aQ_sizes aQ_places aQ_conclusions aQ_premises aQ_counts aQ_hitOf aQ_hitOne aQ_hitTwo aQ_hitTerms aQ_image aQ_bound aQ_waits aQ_waitsFor aQ_seen aQ_goals aQ_steps aQ_looked aQ_under aQ_taken aQ_news aQ_order aQ_there aQ_back Q_thrown Q_all Q_statements Q_hitKind Q_hits Q_tries Q_takenAll Q_takenFirst Q_counts Q_order) sz)) 0 0 (va_A (wv_64 cI cJ cZ aQ aQ_kinds aQ_which aQ_firsts aQ_seconds aQ_thirds aQ_nexts aQ_heads aQ_names aQ_variables aQ_holes aQ_sizes aQ_places aQ_conclusions aQ_premises aQ_counts aQ_hitOf aQ_hitOne aQ_hitTwo aQ_hitTerms aQ_image aQ_bound aQ_waits aQ_waitsFor aQ_seen aQ_goals aQ_steps aQ_looked aQ_under aQ_taken aQ_news aQ_order aQ_there aQ_back Q_thrown Q_all Q_statements Q_hitKind Q_hits Q_tries Q_takenAll Q_takenFirst Q_counts Q_order) sz) := by
  refine Met.ofW (cc := b_Q_inOrder) (maxL := 4) (ret := none) (by decide) rfl ?_
  intro p e s m args below meth c s₁ B hml hv
  obtain ⟨rfl, rfl, hP, hK, hD0⟩ := hv
  have hx := B.exec
  have hb := B.bytes
  have hr := B.returns
  have hts : ∀ w ∈ BG, w.before _ s = true := fun w h => atoms_spec (ws := (ws_Q_inOrder)) B.pre w (List.mem_cons_of_mem _ h)
  have hown : s.vm.findClass RR_Q = some m.cls := findClass_of_methodNamed B.named
  have hlocks := B.notSynchronized
  have hD := hD0.self (sz := s.heap.size)
  have hA : ∀ q : Nat, s.heap.size ≤ q → va_A (wv_64 cI cJ cZ aQ aQ_kinds aQ_which aQ_firsts aQ_seconds aQ_thirds aQ_nexts aQ_heads aQ_names aQ_variables aQ_holes aQ_sizes aQ_places aQ_conclusions aQ_premises aQ_counts aQ_hitOf aQ_hitOne aQ_hitTwo aQ_hitTerms aQ_image aQ_bound aQ_waits aQ_waitsFor aQ_seen aQ_goals aQ_steps aQ_looked aQ_under aQ_taken aQ_news aQ_order aQ_there aQ_back Q_thrown Q_all Q_statements Q_hitKind Q_hits Q_tries Q_takenAll Q_takenFirst Q_counts Q_order) s.heap.size q := fun q h => Or.inr h
  have hS : va_S (va_A (wv_64 cI cJ cZ aQ aQ_kinds aQ_which aQ_firsts aQ_seconds aQ_thirds aQ_nexts aQ_heads aQ_names aQ_variables aQ_holes aQ_sizes aQ_places aQ_conclusions aQ_premises aQ_counts aQ_hitOf aQ_hitOne aQ_hitTwo aQ_hitTerms aQ_image aQ_bound aQ_waits aQ_waitsFor aQ_seen aQ_goals aQ_steps aQ_looked aQ_under aQ_taken aQ_news aQ_order aQ_there aQ_back Q_thrown Q_all Q_statements Q_hitKind Q_hits Q_tries Q_takenAll Q_takenFirst Q_counts Q_order) s.heap.size) s.heap s.heap [] := va_S.rf
  generalize va_A (wv_64 cI cJ cZ aQ aQ_kinds aQ_which aQ_firsts aQ_seconds aQ_thirds aQ_nexts aQ_heads aQ_names aQ_variables aQ_holes aQ_sizes aQ_places aQ_conclusions aQ_premises aQ_counts aQ_hitOf aQ_hitOne aQ_hitTwo aQ_hitTerms aQ_image aQ_bound aQ_waits aQ_waitsFor aQ_seen aQ_goals aQ_steps aQ_looked aQ_under aQ_taken aQ_news aQ_order aQ_there aQ_back Q_thrown Q_all Q_statements Q_hitKind Q_hits Q_tries Q_takenAll Q_takenFirst Q_counts Q_order) s.heap.size = A at hD hA hS ⊢
  have hl := lv_entry ([.ref aQ]) (n := 4) (Nat.le_of_ble_eq_true rfl)
  rw [lg_entry_eq]
  generalize (lg_sl ([.ref aQ]) ++ List.replicate (4 - (lg_sl ([.ref aQ])).length) Slot.unset).toArray = ls at hl ⊢
  have hl : lv_has ls 4 [(0, .ref aQ)] := hl
  have hL4 : ∀ (n4 : Nat), ∀ (Q_order_4 : (Nat → Int32)) (x1_4 : Int32) (x2_4 : Int32), ∀ (H : Heap) (locs : List Loc), va_P D vwCl (wv_64 cI cJ cZ aQ aQ_kinds aQ_which aQ_firsts aQ_seconds aQ_thirds aQ_nexts aQ_heads aQ_names aQ_variables aQ_holes aQ_sizes aQ_places aQ_conclusions aQ_premises aQ_counts aQ_hitOf aQ_hitOne aQ_hitTwo aQ_hitTerms aQ_image aQ_bound aQ_waits aQ_waitsFor aQ_seen aQ_goals aQ_steps aQ_looked aQ_under aQ_taken aQ_news aQ_order aQ_there aQ_back Q_thrown Q_all Q_statements Q_hitKind Q_hits Q_tries Q_takenAll Q_takenFirst Q_counts Q_order_4) H → va_D A (wv_64 cI cJ cZ aQ aQ_kinds aQ_which aQ_firsts aQ_seconds aQ_thirds aQ_nexts aQ_heads aQ_names aQ_variables aQ_holes aQ_sizes aQ_places aQ_conclusions aQ_premises aQ_counts aQ_hitOf aQ_hitOne aQ_hitTwo aQ_hitTerms aQ_image aQ_bound aQ_waits aQ_waitsFor aQ_seen aQ_goals aQ_steps aQ_looked aQ_under aQ_taken aQ_news aQ_order aQ_there aQ_back Q_thrown Q_all Q_statements Q_hitKind Q_hits Q_tries Q_takenAll Q_takenFirst Q_counts Q_order_4) → va_S A s.heap H locs → ∀ (ls : Array Slot), lv_has ls 4 [(0, .ref aQ), (1, .int x1_4), (2, .int x2_4)] → f_Q_inOrder_L4 Q_statements Q_counts n4 Q_order_4 x1_4 x2_4 = some o → W p l e (headSpec (ws_Q_inOrder) rm_Q_inOrder).room s m ([.ref aQ] : List Value).toArray below meth c H locs 0 0 (MQ below (WQ D vwCl none (wv_64 cI cJ cZ aQ aQ_kinds aQ_which aQ_firsts aQ_seconds aQ_thirds aQ_nexts aQ_heads aQ_names aQ_variables aQ_holes aQ_sizes aQ_places aQ_conclusions aQ_premises aQ_counts aQ_hitOf aQ_hitOne aQ_hitTwo aQ_hitTerms aQ_image aQ_bound aQ_waits aQ_waitsFor aQ_seen aQ_goals aQ_steps aQ_looked aQ_under aQ_taken aQ_news aQ_order aQ_there aQ_back Q_thrown Q_all Q_statements Q_hitKind Q_hits Q_tries Q_takenAll Q_takenFirst Q_counts o) A) ([.ref aQ] : List Value).toArray s 0 0 A) (F0 m 4 ls []) := by
    intro n4
    induction n4 with
    | zero =>
      intro Q_order_4 x1_4 x2_4 H locs hP hD hS ls hl hf
      rw [f_Q_inOrder_L4] at hf
      cases hf
    | succ n4 ih4 =>
      have hL11 : ∀ (n11 : Nat), ∀ (Q_order_11 : (Nat → Int32)) (x1_11 : Int32) (x2_11 : Int32) (x3_11 : Int32), ∀ (H : Heap) (locs : List Loc), va_P D vwCl (wv_64 cI cJ cZ aQ aQ_kinds aQ_which aQ_firsts aQ_seconds aQ_thirds aQ_nexts aQ_heads aQ_names aQ_variables aQ_holes aQ_sizes aQ_places aQ_conclusions aQ_premises aQ_counts aQ_hitOf aQ_hitOne aQ_hitTwo aQ_hitTerms aQ_image aQ_bound aQ_waits aQ_waitsFor aQ_seen aQ_goals aQ_steps aQ_looked aQ_under aQ_taken aQ_news aQ_order aQ_there aQ_back Q_thrown Q_all Q_statements Q_hitKind Q_hits Q_tries Q_takenAll Q_takenFirst Q_counts Q_order_11) H → va_D A (wv_64 cI cJ cZ aQ aQ_kinds aQ_which aQ_firsts aQ_seconds aQ_thirds aQ_nexts aQ_heads aQ_names aQ_variables aQ_holes aQ_sizes aQ_places aQ_conclusions aQ_premises aQ_counts aQ_hitOf aQ_hitOne aQ_hitTwo aQ_hitTerms aQ_image aQ_bound aQ_waits aQ_waitsFor aQ_seen aQ_goals aQ_steps aQ_looked aQ_under aQ_taken aQ_news aQ_order aQ_there aQ_back Q_thrown Q_all Q_statements Q_hitKind Q_hits Q_tries Q_takenAll Q_takenFirst Q_counts Q_order_11) → va_S A s.heap H locs → ∀ (ls : Array Slot), lv_has ls 4 [(0, .ref aQ), (1, .int x1_11), (2, .int x2_11), (3, .int x3_11)] → f_Q_inOrder_L11 Q_statements Q_counts (f_Q_inOrder_L4 Q_statements Q_counts n4) n11 Q_order_11 x1_11 x2_11 x3_11 = some o → W p l e (headSpec (ws_Q_inOrder) rm_Q_inOrder).room s m ([.ref aQ] : List Value).toArray below meth c H locs 0 0 (MQ below (WQ D vwCl none (wv_64 cI cJ cZ aQ aQ_kinds aQ_which aQ_firsts aQ_seconds aQ_thirds aQ_nexts aQ_heads aQ_names aQ_variables aQ_holes aQ_sizes aQ_places aQ_conclusions aQ_premises aQ_counts aQ_hitOf aQ_hitOne aQ_hitTwo aQ_hitTerms aQ_image aQ_bound aQ_waits aQ_waitsFor aQ_seen aQ_goals aQ_steps aQ_looked aQ_under aQ_taken aQ_news aQ_order aQ_there aQ_back Q_thrown Q_all Q_statements Q_hitKind Q_hits Q_tries Q_takenAll Q_takenFirst Q_counts o) A) ([.ref aQ] : List Value).toArray s 0 0 A) (F0 m 11 ls []) := by
        intro n11
        induction n11 with
        | zero =>
          intro Q_order_11 x1_11 x2_11 x3_11 H locs hP hD hS ls hl hf
          rw [f_Q_inOrder_L11] at hf
          cases hf
        | succ n11 ih11 =>
          intro Q_order_11 x1_11 x2_11 x3_11 H locs hP hD hS ls hl hf
          rw [f_Q_inOrder_L11] at hf
          refine lv_iload_n hx hb d_Q_inOrder_11 rfl (lv_at hl 3 rfl) ?_
          refine lv_aload_n hx hb d_Q_inOrder_12 rfl (lv_at hl 0 rfl) ?_
          refine va_get (D := D) (ci := 7) (v := .int Q_statements) (C := RR_Q) (T := FF_Q) (N := 41) hx hb hts kin_Q hown hK.1 hP 0 rfl rfl 17 (by decide) (hts _ k4_84) (fun _ h9 => h9) rfl d_Q_inOrder_13 ?_
          refine lv_icmp_ge (tgt := 45) hx hb d_Q_inOrder_16 (by decide) (fun c2 => ?_) (fun c2 => ?_)
          · have hf := ite_t c2 hf
            obtain ⟨x3, ex3⟩ : ∃ y : Int32, y = x2_11 + (1 : Int32) := ⟨_, rfl⟩
            refine lv_iinc (v := x3) (lv' := [(2, .int x3), (0, .ref aQ), (1, .int x1_11), (3, .int x3_11)]) hx hb d_Q_inOrder_45 hl (k := 2) rfl (by rw [ex3]; rfl) (by decide) rfl (fun ls hl => ?_)
            have hf := of_nm ex3 hf
            refine lv_goto (tgt := 4) hx hb d_Q_inOrder_48 (by decide) ?_
            exact ih4 _ _ _ _ _ hP hD hS _ (lv_sub hl [1, 2, 0] rfl) hf
          · have hf := ite_f c2 hf
            refine lv_aload_n hx hb d_Q_inOrder_19 rfl (lv_at hl 0 rfl) ?_
            refine va_get (D := D) (ci := 7) (v := .ref aQ_counts) (C := RR_Q) (T := FF_Q) (N := 41) hx hb hts kin_Q hown hK.1 hP 0 rfl rfl 16 (by decide) (hts _ k4_83) (fun _ h9 => h9) rfl d_Q_inOrder_20 ?_
            refine lv_iload_n hx hb d_Q_inOrder_23 rfl (lv_at hl 3 rfl) ?_
            obtain ⟨h4, hf⟩ := of_gd hf
            refine va_iald hx hb hK.1 hP 1 0 rfl rfl (ixb_in h4) d_Q_inOrder_24 ?_
            refine lv_iload_n hx hb d_Q_inOrder_25 rfl (lv_at hl 2 rfl) ?_
            refine lv_icmp_ne (tgt := 39) hx hb d_Q_inOrder_26 (by decide) (fun c5 => ?_) (fun c5 => ?_)
            · have hf := ite_f c5 hf
              obtain ⟨x6, ex6⟩ : ∃ y : Int32, y = x3_11 + (1 : Int32) := ⟨_, rfl⟩
              refine lv_iinc (v := x6) (lv' := [(3, .int x6), (0, .ref aQ), (1, .int x1_11), (2, .int x2_11)]) hx hb d_Q_inOrder_39 hl (k := 3) rfl (by rw [ex6]; rfl) (by decide) rfl (fun ls hl => ?_)
              have hf := of_nm ex6 hf
              refine lv_goto (tgt := 11) hx hb d_Q_inOrder_42 (by decide) ?_
              exact ih11 _ _ _ _ _ _ hP hD hS _ (lv_sub hl [1, 2, 3, 0] rfl) hf
            · have hf := ite_t c5 hf
              refine lv_aload_n hx hb d_Q_inOrder_29 rfl (lv_at hl 0 rfl) ?_
              refine va_get (D := D) (ci := 7) (v := .ref aQ_order) (C := RR_Q) (T := FF_Q) (N := 41) hx hb hts kin_Q hown hK.1 hP 0 rfl rfl 35 (by decide) (hts _ k4_102) (fun _ h9 => h9) rfl d_Q_inOrder_30 ?_
              refine lv_iload_n hx hb d_Q_inOrder_33 rfl (lv_at hl 1 rfl) ?_
              refine lv_iload_n hx hb d_Q_inOrder_34 rfl (lv_at hl 3 rfl) ?_
              obtain ⟨h7, hf⟩ := of_gd hf
              obtain ⟨g8, eg8⟩ : ∃ y : Nat → Int32, y = upd Q_order_11 x1_11.toNatClampNeg x3_11 := ⟨_, rfl⟩
              have hf := of_nm eg8 hf
              refine va_iast hx hb hK.1 hP hD hS 2 0 rfl rfl (ixb_in h7) d_Q_inOrder_35 (fun H locs hP hD hS => ?_)
              rw [← eg8] at hP hD
              have hP : va_P D vwCl (wv_64 cI cJ cZ aQ aQ_kinds aQ_which aQ_firsts aQ_seconds aQ_thirds aQ_nexts aQ_heads aQ_names aQ_variables aQ_holes aQ_sizes aQ_places aQ_conclusions aQ_premises aQ_counts aQ_hitOf aQ_hitOne aQ_hitTwo aQ_hitTerms aQ_image aQ_bound aQ_waits aQ_waitsFor aQ_seen aQ_goals aQ_steps aQ_looked aQ_under aQ_taken aQ_news aQ_order aQ_there aQ_back Q_thrown Q_all Q_statements Q_hitKind Q_hits Q_tries Q_takenAll Q_takenFirst Q_counts g8) H := hP
              have hD : va_D A (wv_64 cI cJ cZ aQ aQ_kinds aQ_which aQ_firsts aQ_seconds aQ_thirds aQ_nexts aQ_heads aQ_names aQ_variables aQ_holes aQ_sizes aQ_places aQ_conclusions aQ_premises aQ_counts aQ_hitOf aQ_hitOne aQ_hitTwo aQ_hitTerms aQ_image aQ_bound aQ_waits aQ_waitsFor aQ_seen aQ_goals aQ_steps aQ_looked aQ_under aQ_taken aQ_news aQ_order aQ_there aQ_back Q_thrown Q_all Q_statements Q_hitKind Q_hits Q_tries Q_takenAll Q_takenFirst Q_counts g8) := hD
              obtain ⟨x9, ex9⟩ : ∃ y : Int32, y = x1_11 + (1 : Int32) := ⟨_, rfl⟩
              refine lv_iinc (v := x9) (lv' := [(1, .int x9), (0, .ref aQ), (2, .int x2_11), (3, .int x3_11)]) hx hb d_Q_inOrder_36 hl (k := 1) rfl (by rw [ex9]; rfl) (by decide) rfl (fun ls hl => ?_)
              have hf := of_nm ex9 hf
              obtain ⟨x10, ex10⟩ : ∃ y : Int32, y = x3_11 + (1 : Int32) := ⟨_, rfl⟩
              refine lv_iinc (v := x10) (lv' := [(3, .int x10), (1, .int x9), (0, .ref aQ), (2, .int x2_11)]) hx hb d_Q_inOrder_39 hl (k := 3) rfl (by rw [ex10]; rfl) (by decide) rfl (fun ls hl => ?_)
              have hf := of_nm ex10 hf
              refine lv_goto (tgt := 11) hx hb d_Q_inOrder_42 (by decide) ?_
              exact ih11 _ _ _ _ _ _ hP hD hS _ (lv_sub hl [2, 1, 3, 0] rfl) hf
      intro Q_order_4 x1_4 x2_4 H locs hP hD hS ls hl hf
      rw [f_Q_inOrder_L4] at hf
      refine lv_iload_n hx hb d_Q_inOrder_4 rfl (lv_at hl 2 rfl) ?_
      refine lv_iconst (v := 4) hx hb d_Q_inOrder_5 (by decide) ?_
      refine lv_icmp_gt (tgt := 51) hx hb d_Q_inOrder_6 (by decide) (fun c1 => ?_) (fun c1 => ?_)
      · have hf := ite_t c1 hf
        obtain rfl := Option.some.inj hf
        exact W.vret hx hb hr (fun t ht hW => ⟨rfl, by rw [ht]; exact hP, hD, hS.F ht⟩) hS.2.2 d_Q_inOrder_51
      · have hf := ite_f c1 hf
        refine lv_iconst (v := 0) hx hb d_Q_inOrder_9 (by decide) ?_
        refine lv_istore_n (lv' := [(3, .int (0 : Int32)), (0, .ref aQ), (1, .int x1_4), (2, .int x2_4)]) hx hb d_Q_inOrder_10 rfl hl (by decide) rfl (fun ls hl => ?_)
        exact hL11 FU _ _ _ _ _ _ hP hD hS _ (lv_sub hl [1, 2, 3, 0] rfl) hf
  rw [f_Q_inOrder] at hf
  refine lv_iconst (v := 0) hx hb d_Q_inOrder_0 (by decide) ?_
  refine lv_istore_n (lv' := [(1, .int (0 : Int32)), (0, .ref aQ)]) hx hb d_Q_inOrder_1 rfl hl (by decide) rfl (fun ls hl => ?_)
  refine lv_iconst (v := 0) hx hb d_Q_inOrder_2 (by decide) ?_
  refine lv_istore_n (lv' := [(2, .int (0 : Int32)), (1, .int (0 : Int32)), (0, .ref aQ)]) hx hb d_Q_inOrder_3 rfl hl (by decide) rfl (fun ls hl => ?_)
  exact hL4 FU _ _ _ _ _ hP hD hS _ (lv_sub hl [2, 1, 0] rfl) hf
def f_Q_shrink_L0 (Q_kinds : (Nat → Int32)) (Q_which : (Nat → Int32)) (Q_firsts : (Nat → Int32)) (Q_seconds : (Nat → Int32)) (Q_thirds : (Nat → Int32)) (Q_nexts : (Nat → Int32)) : Nat → Int32 → (Nat → Int32) → Int32 → Option (Int32 × (Nat → Int32))
  | 0, _, _, _ => none
  | n + 1, Q_all_0, Q_heads_0, x1_0 =>
    if Q_all_0 ≤ x1_0 then
      some (Q_all_0, Q_heads_0)
    else
      nm (Q_all_0 - (1 : Int32)) fun x2 =>
      (f_Q_head Q_kinds Q_which Q_firsts Q_seconds Q_thirds x2).bind fun r3 =>
      gd (ixb x2 101100) <|
      gd (ixb r3 4096) <| nm (upd Q_heads_0 r3.toNatClampNeg (Q_nexts x2.toNatClampNeg)) fun g6 =>
      (f_Q_shrink_L0 Q_kinds Q_which Q_firsts Q_seconds Q_thirds Q_nexts n) x2 g6 x1_0
def f_Q_shrink (Q_all : Int32) (Q_kinds : (Nat → Int32)) (Q_which : (Nat → Int32)) (Q_firsts : (Nat → Int32)) (Q_seconds : (Nat → Int32)) (Q_thirds : (Nat → Int32)) (Q_nexts : (Nat → Int32)) (Q_heads : (Nat → Int32)) (p0 : Int32) : Option (Int32 × (Nat → Int32)) :=
  f_Q_shrink_L0 Q_kinds Q_which Q_firsts Q_seconds Q_thirds Q_nexts FU Q_all Q_heads p0
abbrev rm_Q_shrink : Room := { frames := 2, cells := 0, slots := 0, locals := 45 }
set_option maxHeartbeats 4000000 in
set_option maxRecDepth 100000 in
theorem c_Q_shrink (l : Launch) (D : va_G) (cI cJ cZ : ClassId) (aQ aQ_kinds aQ_which aQ_firsts aQ_seconds aQ_thirds aQ_nexts aQ_heads aQ_names aQ_variables aQ_holes aQ_sizes aQ_places aQ_conclusions aQ_premises aQ_counts aQ_hitOf aQ_hitOne aQ_hitTwo aQ_hitTerms aQ_image aQ_bound aQ_waits aQ_waitsFor aQ_seen aQ_goals aQ_steps aQ_looked aQ_under aQ_taken aQ_news aQ_order aQ_there aQ_back : Nat) (sz : Nat) (Q_thrown : Int32) (Q_all : Int32) (Q_statements : Int32) (Q_hitKind : Int32) (Q_hits : Int32) (Q_tries : Int32) (Q_takenAll : Int32) (Q_takenFirst : Int32) (Q_kinds : (Nat → Int32)) (Q_which : (Nat → Int32)) (Q_firsts : (Nat → Int32)) (Q_seconds : (Nat → Int32)) (Q_thirds : (Nat → Int32)) (Q_nexts : (Nat → Int32)) (Q_heads : (Nat → Int32)) (p0 : Int32) (o : Int32 × (Nat → Int32)) (hf : f_Q_shrink Q_all Q_kinds Q_which Q_firsts Q_seconds Q_thirds Q_nexts Q_heads p0 = some o) : Met l y_Q_shrink (ws_Q_shrink) rm_Q_shrink (WPc D vwCl cI cJ cZ [.ref aQ, .int p0] (wv_65 cI cJ cZ aQ aQ_kinds aQ_which aQ_firsts aQ_seconds aQ_thirds aQ_nexts aQ_heads aQ_names aQ_variables aQ_holes aQ_sizes aQ_places aQ_conclusions aQ_premises aQ_counts aQ_hitOf aQ_hitOne aQ_hitTwo aQ_hitTerms aQ_image aQ_bound aQ_waits aQ_waitsFor aQ_seen aQ_goals aQ_steps aQ_looked aQ_under aQ_taken aQ_news aQ_order aQ_there aQ_back Q_thrown Q_all Q_statements Q_hitKind Q_hits Q_tries Q_takenAll Q_takenFirst Q_kinds Q_which Q_firsts Q_seconds Q_thirds Q_nexts Q_heads) sz) (WQ D vwCl none (wv_65 cI cJ cZ aQ aQ_kinds aQ_which aQ_firsts aQ_seconds aQ_thirds aQ_nexts aQ_heads aQ_names aQ_variables aQ_holes aQ_sizes aQ_places aQ_conclusions aQ_premises aQ_counts aQ_hitOf aQ_hitOne aQ_hitTwo aQ_hitTerms aQ_image aQ_bound aQ_waits aQ_waitsFor aQ_seen aQ_goals aQ_steps aQ_looked aQ_under aQ_taken aQ_news aQ_order aQ_there aQ_back Q_thrown o.1 Q_statements Q_hitKind Q_hits Q_tries Q_takenAll Q_takenFirst Q_kinds Q_which Q_firsts Q_seconds Q_thirds Q_nexts o.2) (va_A (wv_65 cI cJ cZ aQ aQ_kinds aQ_which aQ_firsts aQ_seconds aQ_thirds aQ_nexts aQ_heads aQ_names aQ_variables aQ_holes aQ_sizes aQ_places aQ_conclusions aQ_premises aQ_counts aQ_hitOf aQ_hitOne aQ_hitTwo aQ_hitTerms aQ_image aQ_bound aQ_waits aQ_waitsFor aQ_seen aQ_goals aQ_steps aQ_looked aQ_under aQ_taken aQ_news aQ_order aQ_there aQ_back Q_thrown Q_all Q_statements Q_hitKind Q_hits Q_tries Q_takenAll Q_takenFirst Q_kinds Q_which Q_firsts Q_seconds Q_thirds Q_nexts Q_heads) sz)) 0 0 (va_A (wv_65 cI cJ cZ aQ aQ_kinds aQ_which aQ_firsts aQ_seconds aQ_thirds aQ_nexts aQ_heads aQ_names aQ_variables aQ_holes aQ_sizes aQ_places aQ_conclusions aQ_premises aQ_counts aQ_hitOf aQ_hitOne aQ_hitTwo aQ_hitTerms aQ_image aQ_bound aQ_waits aQ_waitsFor aQ_seen aQ_goals aQ_steps aQ_looked aQ_under aQ_taken aQ_news aQ_order aQ_there aQ_back Q_thrown Q_all Q_statements Q_hitKind Q_hits Q_tries Q_takenAll Q_takenFirst Q_kinds Q_which Q_firsts Q_seconds Q_thirds Q_nexts Q_heads) sz) := by
  refine Met.ofW (cc := b_Q_shrink) (maxL := 2) (ret := none) (by decide) rfl ?_
  intro p e s m args below meth c s₁ B hml hv
  obtain ⟨rfl, rfl, hP, hK, hD0⟩ := hv
  have hx := B.exec
  have hb := B.bytes
  have hr := B.returns
  have hts : ∀ w ∈ BG, w.before _ s = true := fun w h => atoms_spec (ws := (ws_Q_shrink)) B.pre w (List.mem_cons_of_mem _ h)
  have hown : s.vm.findClass RR_Q = some m.cls := findClass_of_methodNamed B.named
  have hlocks := B.notSynchronized
  have hD := hD0.self (sz := s.heap.size)
  have hA : ∀ q : Nat, s.heap.size ≤ q → va_A (wv_65 cI cJ cZ aQ aQ_kinds aQ_which aQ_firsts aQ_seconds aQ_thirds aQ_nexts aQ_heads aQ_names aQ_variables aQ_holes aQ_sizes aQ_places aQ_conclusions aQ_premises aQ_counts aQ_hitOf aQ_hitOne aQ_hitTwo aQ_hitTerms aQ_image aQ_bound aQ_waits aQ_waitsFor aQ_seen aQ_goals aQ_steps aQ_looked aQ_under aQ_taken aQ_news aQ_order aQ_there aQ_back Q_thrown Q_all Q_statements Q_hitKind Q_hits Q_tries Q_takenAll Q_takenFirst Q_kinds Q_which Q_firsts Q_seconds Q_thirds Q_nexts Q_heads) s.heap.size q := fun q h => Or.inr h
  have hS : va_S (va_A (wv_65 cI cJ cZ aQ aQ_kinds aQ_which aQ_firsts aQ_seconds aQ_thirds aQ_nexts aQ_heads aQ_names aQ_variables aQ_holes aQ_sizes aQ_places aQ_conclusions aQ_premises aQ_counts aQ_hitOf aQ_hitOne aQ_hitTwo aQ_hitTerms aQ_image aQ_bound aQ_waits aQ_waitsFor aQ_seen aQ_goals aQ_steps aQ_looked aQ_under aQ_taken aQ_news aQ_order aQ_there aQ_back Q_thrown Q_all Q_statements Q_hitKind Q_hits Q_tries Q_takenAll Q_takenFirst Q_kinds Q_which Q_firsts Q_seconds Q_thirds Q_nexts Q_heads) s.heap.size) s.heap s.heap [] := va_S.rf
  generalize va_A (wv_65 cI cJ cZ aQ aQ_kinds aQ_which aQ_firsts aQ_seconds aQ_thirds aQ_nexts aQ_heads aQ_names aQ_variables aQ_holes aQ_sizes aQ_places aQ_conclusions aQ_premises aQ_counts aQ_hitOf aQ_hitOne aQ_hitTwo aQ_hitTerms aQ_image aQ_bound aQ_waits aQ_waitsFor aQ_seen aQ_goals aQ_steps aQ_looked aQ_under aQ_taken aQ_news aQ_order aQ_there aQ_back Q_thrown Q_all Q_statements Q_hitKind Q_hits Q_tries Q_takenAll Q_takenFirst Q_kinds Q_which Q_firsts Q_seconds Q_thirds Q_nexts Q_heads) s.heap.size = A at hD hA hS ⊢
  have hl := lv_entry ([.ref aQ, .int p0]) (n := 2) (Nat.le_of_ble_eq_true rfl)
  rw [lg_entry_eq]
  generalize (lg_sl ([.ref aQ, .int p0]) ++ List.replicate (2 - (lg_sl ([.ref aQ, .int p0])).length) Slot.unset).toArray = ls at hl ⊢
  have hl : lv_has ls 2 [(0, .ref aQ), (1, .int p0)] := hl
  have hL0 : ∀ (n0 : Nat), ∀ (Q_all_0 : Int32) (Q_heads_0 : (Nat → Int32)) (x1_0 : Int32), ∀ (H : Heap) (locs : List Loc), va_P D vwCl (wv_65 cI cJ cZ aQ aQ_kinds aQ_which aQ_firsts aQ_seconds aQ_thirds aQ_nexts aQ_heads aQ_names aQ_variables aQ_holes aQ_sizes aQ_places aQ_conclusions aQ_premises aQ_counts aQ_hitOf aQ_hitOne aQ_hitTwo aQ_hitTerms aQ_image aQ_bound aQ_waits aQ_waitsFor aQ_seen aQ_goals aQ_steps aQ_looked aQ_under aQ_taken aQ_news aQ_order aQ_there aQ_back Q_thrown Q_all_0 Q_statements Q_hitKind Q_hits Q_tries Q_takenAll Q_takenFirst Q_kinds Q_which Q_firsts Q_seconds Q_thirds Q_nexts Q_heads_0) H → va_D A (wv_65 cI cJ cZ aQ aQ_kinds aQ_which aQ_firsts aQ_seconds aQ_thirds aQ_nexts aQ_heads aQ_names aQ_variables aQ_holes aQ_sizes aQ_places aQ_conclusions aQ_premises aQ_counts aQ_hitOf aQ_hitOne aQ_hitTwo aQ_hitTerms aQ_image aQ_bound aQ_waits aQ_waitsFor aQ_seen aQ_goals aQ_steps aQ_looked aQ_under aQ_taken aQ_news aQ_order aQ_there aQ_back Q_thrown Q_all_0 Q_statements Q_hitKind Q_hits Q_tries Q_takenAll Q_takenFirst Q_kinds Q_which Q_firsts Q_seconds Q_thirds Q_nexts Q_heads_0) → va_S A s.heap H locs → ∀ (ls : Array Slot), lv_has ls 2 [(0, .ref aQ), (1, .int x1_0)] → f_Q_shrink_L0 Q_kinds Q_which Q_firsts Q_seconds Q_thirds Q_nexts n0 Q_all_0 Q_heads_0 x1_0 = some o → W p l e (headSpec (ws_Q_shrink) rm_Q_shrink).room s m ([.ref aQ, .int p0] : List Value).toArray below meth c H locs 0 0 (MQ below (WQ D vwCl none (wv_65 cI cJ cZ aQ aQ_kinds aQ_which aQ_firsts aQ_seconds aQ_thirds aQ_nexts aQ_heads aQ_names aQ_variables aQ_holes aQ_sizes aQ_places aQ_conclusions aQ_premises aQ_counts aQ_hitOf aQ_hitOne aQ_hitTwo aQ_hitTerms aQ_image aQ_bound aQ_waits aQ_waitsFor aQ_seen aQ_goals aQ_steps aQ_looked aQ_under aQ_taken aQ_news aQ_order aQ_there aQ_back Q_thrown o.1 Q_statements Q_hitKind Q_hits Q_tries Q_takenAll Q_takenFirst Q_kinds Q_which Q_firsts Q_seconds Q_thirds Q_nexts o.2) A) ([.ref aQ, .int p0] : List Value).toArray s 0 0 A) (F0 m 0 ls []) := by
    intro n0
    induction n0 with
    | zero =>
      intro Q_all_0 Q_heads_0 x1_0 H locs hP hD hS ls hl hf
      rw [f_Q_shrink_L0] at hf
      cases hf
    | succ n0 ih0 =>
      intro Q_all_0 Q_heads_0 x1_0 H locs hP hD hS ls hl hf
      rw [f_Q_shrink_L0] at hf
      refine lv_aload_n hx hb d_Q_shrink_0 rfl (lv_at hl 0 rfl) ?_
      refine va_get (D := D) (ci := 7) (v := .int Q_all_0) (C := RR_Q) (T := FF_Q) (N := 41) hx hb hts kin_Q hown hK.1 hP 0 rfl rfl 8 (by decide) (hts _ k4_75) (fun _ h9 => h9) rfl d_Q_shrink_1 ?_
      refine lv_iload_n hx hb d_Q_shrink_4 rfl (lv_at hl 1 rfl) ?_
      refine lv_icmp_le (tgt := 43) hx hb d_Q_shrink_5 (by decide) (fun c1 => ?_) (fun c1 => ?_)
      · have hf := ite_t c1 hf
        obtain rfl := Option.some.inj hf
        exact W.vret hx hb hr (fun t ht hW => ⟨rfl, by rw [ht]; exact hP, hD, hS.F ht⟩) hS.2.2 d_Q_shrink_43
      · have hf := ite_f c1 hf
        refine lv_aload_n hx hb d_Q_shrink_8 rfl (lv_at hl 0 rfl) ?_
        refine lv_dup hx hb d_Q_shrink_9 rfl ?_
        refine va_get (D := D) (ci := 7) (v := .int Q_all_0) (C := RR_Q) (T := FF_Q) (N := 41) hx hb hts kin_Q hown hK.1 hP 0 rfl rfl 8 (by decide) (hts _ k4_75) (fun _ h9 => h9) rfl d_Q_shrink_10 ?_
        refine lv_iconst (v := 1) hx hb d_Q_shrink_13 (by decide) ?_
        refine lv_isub hx hb d_Q_shrink_14 ?_
        refine lv_topi (fun x2 ex2 => ?_)
        have hf := of_nm ex2 hf
        refine va_put (D := D) (ci := 7) (v := .int x2) (ty := .int) (C := RR_Q) (T := FF_Q) (N := 41) hx hb hts kin_Q TT_Q tok_Q nok_Q hown hK.1 hP hD hS 0 rfl rfl 8 (by decide) (hts _ k4_75) (fun _ h9 => h9) rfl (by decide +kernel) rfl rfl (Nat.le_of_ble_eq_true rfl) d_Q_shrink_15 (fun H locs hP hD hS => ?_)
        have hP : va_P D vwCl (wv_65 cI cJ cZ aQ aQ_kinds aQ_which aQ_firsts aQ_seconds aQ_thirds aQ_nexts aQ_heads aQ_names aQ_variables aQ_holes aQ_sizes aQ_places aQ_conclusions aQ_premises aQ_counts aQ_hitOf aQ_hitOne aQ_hitTwo aQ_hitTerms aQ_image aQ_bound aQ_waits aQ_waitsFor aQ_seen aQ_goals aQ_steps aQ_looked aQ_under aQ_taken aQ_news aQ_order aQ_there aQ_back Q_thrown x2 Q_statements Q_hitKind Q_hits Q_tries Q_takenAll Q_takenFirst Q_kinds Q_which Q_firsts Q_seconds Q_thirds Q_nexts Q_heads_0) H := hP
        have hD : va_D A (wv_65 cI cJ cZ aQ aQ_kinds aQ_which aQ_firsts aQ_seconds aQ_thirds aQ_nexts aQ_heads aQ_names aQ_variables aQ_holes aQ_sizes aQ_places aQ_conclusions aQ_premises aQ_counts aQ_hitOf aQ_hitOne aQ_hitTwo aQ_hitTerms aQ_image aQ_bound aQ_waits aQ_waitsFor aQ_seen aQ_goals aQ_steps aQ_looked aQ_under aQ_taken aQ_news aQ_order aQ_there aQ_back Q_thrown x2 Q_statements Q_hitKind Q_hits Q_tries Q_takenAll Q_takenFirst Q_kinds Q_which Q_firsts Q_seconds Q_thirds Q_nexts Q_heads_0) := hD
        refine lv_aload_n hx hb d_Q_shrink_18 rfl (lv_at hl 0 rfl) ?_
        refine va_get (D := D) (ci := 7) (v := .ref aQ_heads) (C := RR_Q) (T := FF_Q) (N := 41) hx hb hts kin_Q hown hK.1 hP 0 rfl rfl 7 (by decide) (hts _ k4_74) (fun _ h9 => h9) rfl d_Q_shrink_19 ?_
        refine lv_aload_n hx hb d_Q_shrink_22 rfl (lv_at hl 0 rfl) ?_
        refine lv_aload_n hx hb d_Q_shrink_23 rfl (lv_at hl 0 rfl) ?_
        refine va_get (D := D) (ci := 7) (v := .int x2) (C := RR_Q) (T := FF_Q) (N := 41) hx hb hts kin_Q hown hK.1 hP 0 rfl rfl 8 (by decide) (hts _ k4_75) (fun _ h9 => h9) rfl d_Q_shrink_24 ?_
        obtain ⟨r3, hr3, hf⟩ := of_bd hf
        refine rd_call (va_runV (As := [.int x2]) (rest := [.ref aQ_heads]) ⟨hx, hb, hml, hown, hts⟩ (c_Q_head l D cI cJ cZ aQ aQ_kinds aQ_which aQ_firsts aQ_seconds aQ_thirds aQ_nexts aQ_heads aQ_names aQ_variables aQ_holes aQ_sizes aQ_places aQ_conclusions aQ_premises aQ_counts aQ_hitOf aQ_hitOne aQ_hitTwo aQ_hitTerms aQ_image aQ_bound aQ_waits aQ_waitsFor aQ_seen aQ_goals aQ_steps aQ_looked aQ_under aQ_taken aQ_news aQ_order aQ_there aQ_back Q_thrown x2 Q_statements Q_hitKind Q_hits Q_tries Q_takenAll Q_takenFirst Q_kinds Q_which Q_firsts Q_seconds Q_thirds x2 r3 hr3) (bigV 1 hts k5_94 k5_96 ks_Q_head k1_9 k5_97 rfl rfl hd_Q_head ⟨Nat.le_of_ble_eq_true rfl, Nat.le_of_ble_eq_true rfl⟩) (rd_preV hK hP [0, 1, 2, 3, 4, 5] rfl 0 rfl rfl rfl) rfl rfl hl.1 rfl (lv_room (Nat.le_of_ble_eq_true rfl)) d_Q_shrink_27 ⟨Nat.le_of_ble_eq_true rfl, Nat.le_of_ble_eq_true rfl⟩) ?_
        refine lv_aload_n hx hb d_Q_shrink_30 rfl (lv_at hl 0 rfl) ?_
        refine va_get (D := D) (ci := 7) (v := .ref aQ_nexts) (C := RR_Q) (T := FF_Q) (N := 41) hx hb hts kin_Q hown hK.1 hP 0 rfl rfl 6 (by decide) (hts _ k4_73) (fun _ h9 => h9) rfl d_Q_shrink_31 ?_
        refine lv_aload_n hx hb d_Q_shrink_34 rfl (lv_at hl 0 rfl) ?_
        refine va_get (D := D) (ci := 7) (v := .int x2) (C := RR_Q) (T := FF_Q) (N := 41) hx hb hts kin_Q hown hK.1 hP 0 rfl rfl 8 (by decide) (hts _ k4_75) (fun _ h9 => h9) rfl d_Q_shrink_35 ?_
        obtain ⟨h4, hf⟩ := of_gd hf
        refine va_iald hx hb hK.1 hP 6 0 rfl rfl (ixb_in h4) d_Q_shrink_38 ?_
        obtain ⟨h5, hf⟩ := of_gd hf
        obtain ⟨g6, eg6⟩ : ∃ y : Nat → Int32, y = upd Q_heads_0 r3.toNatClampNeg (Q_nexts x2.toNatClampNeg) := ⟨_, rfl⟩
        have hf := of_nm eg6 hf
        refine va_iast hx hb hK.1 hP hD hS 7 0 rfl rfl (ixb_in h5) d_Q_shrink_39 (fun H locs hP hD hS => ?_)
        rw [← eg6] at hP hD
        have hP : va_P D vwCl (wv_65 cI cJ cZ aQ aQ_kinds aQ_which aQ_firsts aQ_seconds aQ_thirds aQ_nexts aQ_heads aQ_names aQ_variables aQ_holes aQ_sizes aQ_places aQ_conclusions aQ_premises aQ_counts aQ_hitOf aQ_hitOne aQ_hitTwo aQ_hitTerms aQ_image aQ_bound aQ_waits aQ_waitsFor aQ_seen aQ_goals aQ_steps aQ_looked aQ_under aQ_taken aQ_news aQ_order aQ_there aQ_back Q_thrown x2 Q_statements Q_hitKind Q_hits Q_tries Q_takenAll Q_takenFirst Q_kinds Q_which Q_firsts Q_seconds Q_thirds Q_nexts g6) H := hP
        have hD : va_D A (wv_65 cI cJ cZ aQ aQ_kinds aQ_which aQ_firsts aQ_seconds aQ_thirds aQ_nexts aQ_heads aQ_names aQ_variables aQ_holes aQ_sizes aQ_places aQ_conclusions aQ_premises aQ_counts aQ_hitOf aQ_hitOne aQ_hitTwo aQ_hitTerms aQ_image aQ_bound aQ_waits aQ_waitsFor aQ_seen aQ_goals aQ_steps aQ_looked aQ_under aQ_taken aQ_news aQ_order aQ_there aQ_back Q_thrown x2 Q_statements Q_hitKind Q_hits Q_tries Q_takenAll Q_takenFirst Q_kinds Q_which Q_firsts Q_seconds Q_thirds Q_nexts g6) := hD
        refine lv_goto (tgt := 0) hx hb d_Q_shrink_40 (by decide) ?_
        exact ih0 _ _ _ _ _ hP hD hS _ (lv_sub hl [0, 1] rfl) hf
  rw [f_Q_shrink] at hf
  exact hL0 FU _ _ _ _ _ hP hD hS _ (lv_sub hl [0, 1] rfl) hf
def f_Q_look (Q_goals : (Nat → Int32)) (Q_steps : (Nat → Int32)) (Q_looked : (Nat → Int32)) (Q_under : (Nat → Int32)) (Q_taken : (Nat → Int32)) (p0 : Int32) (p1 : Int32) (p2 : Int32) : Option ((Nat → Int32) × (Nat → Int32) × (Nat → Int32) × (Nat → Int32) × (Nat → Int32)) :=
  gd (ixb p0 1002) <| nm (upd Q_goals p0.toNatClampNeg p1) fun g2 =>
  gd (ixb p0 1002) <| nm (upd Q_steps p0.toNatClampNeg p2) fun g4 =>
  gd (ixb p0 1002) <| nm (upd Q_looked p0.toNatClampNeg (0 : Int32)) fun g6 =>
  gd (ixb p0 1002) <| nm (upd Q_under p0.toNatClampNeg (-1 : Int32)) fun g8 =>
  gd (ixb p0 1002) <| nm (upd Q_taken p0.toNatClampNeg (1 : Int32)) fun g10 =>
  some (g2, g4, g6, g8, g10)
abbrev rm_Q_look : Room := { frames := 0, cells := 0, slots := 0, locals := 0 }
set_option maxHeartbeats 4000000 in
set_option maxRecDepth 100000 in
theorem c_Q_look (l : Launch) (D : va_G) (cI cJ cZ : ClassId) (aQ aQ_kinds aQ_which aQ_firsts aQ_seconds aQ_thirds aQ_nexts aQ_heads aQ_names aQ_variables aQ_holes aQ_sizes aQ_places aQ_conclusions aQ_premises aQ_counts aQ_hitOf aQ_hitOne aQ_hitTwo aQ_hitTerms aQ_image aQ_bound aQ_waits aQ_waitsFor aQ_seen aQ_goals aQ_steps aQ_looked aQ_under aQ_taken aQ_news aQ_order aQ_there aQ_back : Nat) (sz : Nat) (Q_thrown : Int32) (Q_all : Int32) (Q_statements : Int32) (Q_hitKind : Int32) (Q_hits : Int32) (Q_tries : Int32) (Q_takenAll : Int32) (Q_takenFirst : Int32) (Q_goals : (Nat → Int32)) (Q_steps : (Nat → Int32)) (Q_looked : (Nat → Int32)) (Q_under : (Nat → Int32)) (Q_taken : (Nat → Int32)) (p0 : Int32) (p1 : Int32) (p2 : Int32) (o : (Nat → Int32) × (Nat → Int32) × (Nat → Int32) × (Nat → Int32) × (Nat → Int32)) (hf : f_Q_look Q_goals Q_steps Q_looked Q_under Q_taken p0 p1 p2 = some o) : Met l y_Q_look (ws_Q_look) rm_Q_look (WPc D vwCl cI cJ cZ [.ref aQ, .int p0, .int p1, .int p2] (wv_66 cI cJ cZ aQ aQ_kinds aQ_which aQ_firsts aQ_seconds aQ_thirds aQ_nexts aQ_heads aQ_names aQ_variables aQ_holes aQ_sizes aQ_places aQ_conclusions aQ_premises aQ_counts aQ_hitOf aQ_hitOne aQ_hitTwo aQ_hitTerms aQ_image aQ_bound aQ_waits aQ_waitsFor aQ_seen aQ_goals aQ_steps aQ_looked aQ_under aQ_taken aQ_news aQ_order aQ_there aQ_back Q_thrown Q_all Q_statements Q_hitKind Q_hits Q_tries Q_takenAll Q_takenFirst Q_goals Q_steps Q_looked Q_under Q_taken) sz) (WQ D vwCl none (wv_66 cI cJ cZ aQ aQ_kinds aQ_which aQ_firsts aQ_seconds aQ_thirds aQ_nexts aQ_heads aQ_names aQ_variables aQ_holes aQ_sizes aQ_places aQ_conclusions aQ_premises aQ_counts aQ_hitOf aQ_hitOne aQ_hitTwo aQ_hitTerms aQ_image aQ_bound aQ_waits aQ_waitsFor aQ_seen aQ_goals aQ_steps aQ_looked aQ_under aQ_taken aQ_news aQ_order aQ_there aQ_back Q_thrown Q_all Q_statements Q_hitKind Q_hits Q_tries Q_takenAll Q_takenFirst o.1 o.2.1 o.2.2.1 o.2.2.2.1 o.2.2.2.2) (va_A (wv_66 cI cJ cZ aQ aQ_kinds aQ_which aQ_firsts aQ_seconds aQ_thirds aQ_nexts aQ_heads aQ_names aQ_variables aQ_holes aQ_sizes aQ_places aQ_conclusions aQ_premises aQ_counts aQ_hitOf aQ_hitOne aQ_hitTwo aQ_hitTerms aQ_image aQ_bound aQ_waits aQ_waitsFor aQ_seen aQ_goals aQ_steps aQ_looked aQ_under aQ_taken aQ_news aQ_order aQ_there aQ_back Q_thrown Q_all Q_statements Q_hitKind Q_hits Q_tries Q_takenAll Q_takenFirst Q_goals Q_steps Q_looked Q_under Q_taken) sz)) 0 0 (va_A (wv_66 cI cJ cZ aQ aQ_kinds aQ_which aQ_firsts aQ_seconds aQ_thirds aQ_nexts aQ_heads aQ_names aQ_variables aQ_holes aQ_sizes aQ_places aQ_conclusions aQ_premises aQ_counts aQ_hitOf aQ_hitOne aQ_hitTwo aQ_hitTerms aQ_image aQ_bound aQ_waits aQ_waitsFor aQ_seen aQ_goals aQ_steps aQ_looked aQ_under aQ_taken aQ_news aQ_order aQ_there aQ_back Q_thrown Q_all Q_statements Q_hitKind Q_hits Q_tries Q_takenAll Q_takenFirst Q_goals Q_steps Q_looked Q_under Q_taken) sz) := by
  refine Met.ofW (cc := b_Q_look) (maxL := 4) (ret := none) (by decide) rfl ?_
  intro p e s m args below meth c s₁ B hml hv
  obtain ⟨rfl, rfl, hP, hK, hD0⟩ := hv
  have hx := B.exec
  have hb := B.bytes
  have hr := B.returns
  have hts : ∀ w ∈ BG, w.before _ s = true := fun w h => atoms_spec (ws := (ws_Q_look)) B.pre w (List.mem_cons_of_mem _ h)
  have hown : s.vm.findClass RR_Q = some m.cls := findClass_of_methodNamed B.named
  have hlocks := B.notSynchronized
  have hD := hD0.self (sz := s.heap.size)
  have hA : ∀ q : Nat, s.heap.size ≤ q → va_A (wv_66 cI cJ cZ aQ aQ_kinds aQ_which aQ_firsts aQ_seconds aQ_thirds aQ_nexts aQ_heads aQ_names aQ_variables aQ_holes aQ_sizes aQ_places aQ_conclusions aQ_premises aQ_counts aQ_hitOf aQ_hitOne aQ_hitTwo aQ_hitTerms aQ_image aQ_bound aQ_waits aQ_waitsFor aQ_seen aQ_goals aQ_steps aQ_looked aQ_under aQ_taken aQ_news aQ_order aQ_there aQ_back Q_thrown Q_all Q_statements Q_hitKind Q_hits Q_tries Q_takenAll Q_takenFirst Q_goals Q_steps Q_looked Q_under Q_taken) s.heap.size q := fun q h => Or.inr h
  have hS : va_S (va_A (wv_66 cI cJ cZ aQ aQ_kinds aQ_which aQ_firsts aQ_seconds aQ_thirds aQ_nexts aQ_heads aQ_names aQ_variables aQ_holes aQ_sizes aQ_places aQ_conclusions aQ_premises aQ_counts aQ_hitOf aQ_hitOne aQ_hitTwo aQ_hitTerms aQ_image aQ_bound aQ_waits aQ_waitsFor aQ_seen aQ_goals aQ_steps aQ_looked aQ_under aQ_taken aQ_news aQ_order aQ_there aQ_back Q_thrown Q_all Q_statements Q_hitKind Q_hits Q_tries Q_takenAll Q_takenFirst Q_goals Q_steps Q_looked Q_under Q_taken) s.heap.size) s.heap s.heap [] := va_S.rf
  generalize va_A (wv_66 cI cJ cZ aQ aQ_kinds aQ_which aQ_firsts aQ_seconds aQ_thirds aQ_nexts aQ_heads aQ_names aQ_variables aQ_holes aQ_sizes aQ_places aQ_conclusions aQ_premises aQ_counts aQ_hitOf aQ_hitOne aQ_hitTwo aQ_hitTerms aQ_image aQ_bound aQ_waits aQ_waitsFor aQ_seen aQ_goals aQ_steps aQ_looked aQ_under aQ_taken aQ_news aQ_order aQ_there aQ_back Q_thrown Q_all Q_statements Q_hitKind Q_hits Q_tries Q_takenAll Q_takenFirst Q_goals Q_steps Q_looked Q_under Q_taken) s.heap.size = A at hD hA hS ⊢
  have hl := lv_entry ([.ref aQ, .int p0, .int p1, .int p2]) (n := 4) (Nat.le_of_ble_eq_true rfl)
  rw [lg_entry_eq]
  generalize (lg_sl ([.ref aQ, .int p0, .int p1, .int p2]) ++ List.replicate (4 - (lg_sl ([.ref aQ, .int p0, .int p1, .int p2])).length) Slot.unset).toArray = ls at hl ⊢
  have hl : lv_has ls 4 [(0, .ref aQ), (1, .int p0), (2, .int p1), (3, .int p2)] := hl
  rw [f_Q_look] at hf
  refine lv_aload_n hx hb d_Q_look_0 rfl (lv_at hl 0 rfl) ?_
  refine va_get (D := D) (ci := 7) (v := .ref aQ_goals) (C := RR_Q) (T := FF_Q) (N := 41) hx hb hts kin_Q hown hK.1 hP 0 rfl rfl 29 (by decide) (hts _ k4_96) (fun _ h9 => h9) rfl d_Q_look_1 ?_
  refine lv_iload_n hx hb d_Q_look_4 rfl (lv_at hl 1 rfl) ?_
  refine lv_iload_n hx hb d_Q_look_5 rfl (lv_at hl 2 rfl) ?_
  obtain ⟨h1, hf⟩ := of_gd hf
  obtain ⟨g2, eg2⟩ : ∃ y : Nat → Int32, y = upd Q_goals p0.toNatClampNeg p1 := ⟨_, rfl⟩
  have hf := of_nm eg2 hf
  refine va_iast hx hb hK.1 hP hD hS 1 0 rfl rfl (ixb_in h1) d_Q_look_6 (fun H locs hP hD hS => ?_)
  rw [← eg2] at hP hD
  have hP : va_P D vwCl (wv_66 cI cJ cZ aQ aQ_kinds aQ_which aQ_firsts aQ_seconds aQ_thirds aQ_nexts aQ_heads aQ_names aQ_variables aQ_holes aQ_sizes aQ_places aQ_conclusions aQ_premises aQ_counts aQ_hitOf aQ_hitOne aQ_hitTwo aQ_hitTerms aQ_image aQ_bound aQ_waits aQ_waitsFor aQ_seen aQ_goals aQ_steps aQ_looked aQ_under aQ_taken aQ_news aQ_order aQ_there aQ_back Q_thrown Q_all Q_statements Q_hitKind Q_hits Q_tries Q_takenAll Q_takenFirst g2 Q_steps Q_looked Q_under Q_taken) H := hP
  have hD : va_D A (wv_66 cI cJ cZ aQ aQ_kinds aQ_which aQ_firsts aQ_seconds aQ_thirds aQ_nexts aQ_heads aQ_names aQ_variables aQ_holes aQ_sizes aQ_places aQ_conclusions aQ_premises aQ_counts aQ_hitOf aQ_hitOne aQ_hitTwo aQ_hitTerms aQ_image aQ_bound aQ_waits aQ_waitsFor aQ_seen aQ_goals aQ_steps aQ_looked aQ_under aQ_taken aQ_news aQ_order aQ_there aQ_back Q_thrown Q_all Q_statements Q_hitKind Q_hits Q_tries Q_takenAll Q_takenFirst g2 Q_steps Q_looked Q_under Q_taken) := hD
  refine lv_aload_n hx hb d_Q_look_7 rfl (lv_at hl 0 rfl) ?_
  refine va_get (D := D) (ci := 7) (v := .ref aQ_steps) (C := RR_Q) (T := FF_Q) (N := 41) hx hb hts kin_Q hown hK.1 hP 0 rfl rfl 30 (by decide) (hts _ k4_97) (fun _ h9 => h9) rfl d_Q_look_8 ?_
  refine lv_iload_n hx hb d_Q_look_11 rfl (lv_at hl 1 rfl) ?_
  refine lv_iload_n hx hb d_Q_look_12 rfl (lv_at hl 3 rfl) ?_
  obtain ⟨h3, hf⟩ := of_gd hf
  obtain ⟨g4, eg4⟩ : ∃ y : Nat → Int32, y = upd Q_steps p0.toNatClampNeg p2 := ⟨_, rfl⟩
  have hf := of_nm eg4 hf
  refine va_iast hx hb hK.1 hP hD hS 2 0 rfl rfl (ixb_in h3) d_Q_look_13 (fun H locs hP hD hS => ?_)
  rw [← eg4] at hP hD
  have hP : va_P D vwCl (wv_66 cI cJ cZ aQ aQ_kinds aQ_which aQ_firsts aQ_seconds aQ_thirds aQ_nexts aQ_heads aQ_names aQ_variables aQ_holes aQ_sizes aQ_places aQ_conclusions aQ_premises aQ_counts aQ_hitOf aQ_hitOne aQ_hitTwo aQ_hitTerms aQ_image aQ_bound aQ_waits aQ_waitsFor aQ_seen aQ_goals aQ_steps aQ_looked aQ_under aQ_taken aQ_news aQ_order aQ_there aQ_back Q_thrown Q_all Q_statements Q_hitKind Q_hits Q_tries Q_takenAll Q_takenFirst g2 g4 Q_looked Q_under Q_taken) H := hP
  have hD : va_D A (wv_66 cI cJ cZ aQ aQ_kinds aQ_which aQ_firsts aQ_seconds aQ_thirds aQ_nexts aQ_heads aQ_names aQ_variables aQ_holes aQ_sizes aQ_places aQ_conclusions aQ_premises aQ_counts aQ_hitOf aQ_hitOne aQ_hitTwo aQ_hitTerms aQ_image aQ_bound aQ_waits aQ_waitsFor aQ_seen aQ_goals aQ_steps aQ_looked aQ_under aQ_taken aQ_news aQ_order aQ_there aQ_back Q_thrown Q_all Q_statements Q_hitKind Q_hits Q_tries Q_takenAll Q_takenFirst g2 g4 Q_looked Q_under Q_taken) := hD
  refine lv_aload_n hx hb d_Q_look_14 rfl (lv_at hl 0 rfl) ?_
  refine va_get (D := D) (ci := 7) (v := .ref aQ_looked) (C := RR_Q) (T := FF_Q) (N := 41) hx hb hts kin_Q hown hK.1 hP 0 rfl rfl 31 (by decide) (hts _ k4_98) (fun _ h9 => h9) rfl d_Q_look_15 ?_
  refine lv_iload_n hx hb d_Q_look_18 rfl (lv_at hl 1 rfl) ?_
  refine lv_iconst (v := 0) hx hb d_Q_look_19 (by decide) ?_
  obtain ⟨h5, hf⟩ := of_gd hf
  obtain ⟨g6, eg6⟩ : ∃ y : Nat → Int32, y = upd Q_looked p0.toNatClampNeg (0 : Int32) := ⟨_, rfl⟩
  have hf := of_nm eg6 hf
  refine va_iast hx hb hK.1 hP hD hS 3 0 rfl rfl (ixb_in h5) d_Q_look_20 (fun H locs hP hD hS => ?_)
  rw [← eg6] at hP hD
  have hP : va_P D vwCl (wv_66 cI cJ cZ aQ aQ_kinds aQ_which aQ_firsts aQ_seconds aQ_thirds aQ_nexts aQ_heads aQ_names aQ_variables aQ_holes aQ_sizes aQ_places aQ_conclusions aQ_premises aQ_counts aQ_hitOf aQ_hitOne aQ_hitTwo aQ_hitTerms aQ_image aQ_bound aQ_waits aQ_waitsFor aQ_seen aQ_goals aQ_steps aQ_looked aQ_under aQ_taken aQ_news aQ_order aQ_there aQ_back Q_thrown Q_all Q_statements Q_hitKind Q_hits Q_tries Q_takenAll Q_takenFirst g2 g4 g6 Q_under Q_taken) H := hP
  have hD : va_D A (wv_66 cI cJ cZ aQ aQ_kinds aQ_which aQ_firsts aQ_seconds aQ_thirds aQ_nexts aQ_heads aQ_names aQ_variables aQ_holes aQ_sizes aQ_places aQ_conclusions aQ_premises aQ_counts aQ_hitOf aQ_hitOne aQ_hitTwo aQ_hitTerms aQ_image aQ_bound aQ_waits aQ_waitsFor aQ_seen aQ_goals aQ_steps aQ_looked aQ_under aQ_taken aQ_news aQ_order aQ_there aQ_back Q_thrown Q_all Q_statements Q_hitKind Q_hits Q_tries Q_takenAll Q_takenFirst g2 g4 g6 Q_under Q_taken) := hD
  refine lv_aload_n hx hb d_Q_look_21 rfl (lv_at hl 0 rfl) ?_
  refine va_get (D := D) (ci := 7) (v := .ref aQ_under) (C := RR_Q) (T := FF_Q) (N := 41) hx hb hts kin_Q hown hK.1 hP 0 rfl rfl 32 (by decide) (hts _ k4_99) (fun _ h9 => h9) rfl d_Q_look_22 ?_
  refine lv_iload_n hx hb d_Q_look_25 rfl (lv_at hl 1 rfl) ?_
  refine lv_iconst (v := -1) hx hb d_Q_look_26 (by decide) ?_
  obtain ⟨h7, hf⟩ := of_gd hf
  obtain ⟨g8, eg8⟩ : ∃ y : Nat → Int32, y = upd Q_under p0.toNatClampNeg (-1 : Int32) := ⟨_, rfl⟩
  have hf := of_nm eg8 hf
  refine va_iast hx hb hK.1 hP hD hS 4 0 rfl rfl (ixb_in h7) d_Q_look_27 (fun H locs hP hD hS => ?_)
  rw [← eg8] at hP hD
  have hP : va_P D vwCl (wv_66 cI cJ cZ aQ aQ_kinds aQ_which aQ_firsts aQ_seconds aQ_thirds aQ_nexts aQ_heads aQ_names aQ_variables aQ_holes aQ_sizes aQ_places aQ_conclusions aQ_premises aQ_counts aQ_hitOf aQ_hitOne aQ_hitTwo aQ_hitTerms aQ_image aQ_bound aQ_waits aQ_waitsFor aQ_seen aQ_goals aQ_steps aQ_looked aQ_under aQ_taken aQ_news aQ_order aQ_there aQ_back Q_thrown Q_all Q_statements Q_hitKind Q_hits Q_tries Q_takenAll Q_takenFirst g2 g4 g6 g8 Q_taken) H := hP
  have hD : va_D A (wv_66 cI cJ cZ aQ aQ_kinds aQ_which aQ_firsts aQ_seconds aQ_thirds aQ_nexts aQ_heads aQ_names aQ_variables aQ_holes aQ_sizes aQ_places aQ_conclusions aQ_premises aQ_counts aQ_hitOf aQ_hitOne aQ_hitTwo aQ_hitTerms aQ_image aQ_bound aQ_waits aQ_waitsFor aQ_seen aQ_goals aQ_steps aQ_looked aQ_under aQ_taken aQ_news aQ_order aQ_there aQ_back Q_thrown Q_all Q_statements Q_hitKind Q_hits Q_tries Q_takenAll Q_takenFirst g2 g4 g6 g8 Q_taken) := hD
  refine lv_aload_n hx hb d_Q_look_28 rfl (lv_at hl 0 rfl) ?_
  refine va_get (D := D) (ci := 7) (v := .ref aQ_taken) (C := RR_Q) (T := FF_Q) (N := 41) hx hb hts kin_Q hown hK.1 hP 0 rfl rfl 33 (by decide) (hts _ k4_100) (fun _ h9 => h9) rfl d_Q_look_29 ?_
  refine lv_iload_n hx hb d_Q_look_32 rfl (lv_at hl 1 rfl) ?_
  refine lv_iconst (v := 1) hx hb d_Q_look_33 (by decide) ?_
  obtain ⟨h9, hf⟩ := of_gd hf
  obtain ⟨g10, eg10⟩ : ∃ y : Nat → Int32, y = upd Q_taken p0.toNatClampNeg (1 : Int32) := ⟨_, rfl⟩
  have hf := of_nm eg10 hf
  refine va_iast hx hb hK.1 hP hD hS 5 0 rfl rfl (ixb_in h9) d_Q_look_34 (fun H locs hP hD hS => ?_)
  rw [← eg10] at hP hD
  have hP : va_P D vwCl (wv_66 cI cJ cZ aQ aQ_kinds aQ_which aQ_firsts aQ_seconds aQ_thirds aQ_nexts aQ_heads aQ_names aQ_variables aQ_holes aQ_sizes aQ_places aQ_conclusions aQ_premises aQ_counts aQ_hitOf aQ_hitOne aQ_hitTwo aQ_hitTerms aQ_image aQ_bound aQ_waits aQ_waitsFor aQ_seen aQ_goals aQ_steps aQ_looked aQ_under aQ_taken aQ_news aQ_order aQ_there aQ_back Q_thrown Q_all Q_statements Q_hitKind Q_hits Q_tries Q_takenAll Q_takenFirst g2 g4 g6 g8 g10) H := hP
  have hD : va_D A (wv_66 cI cJ cZ aQ aQ_kinds aQ_which aQ_firsts aQ_seconds aQ_thirds aQ_nexts aQ_heads aQ_names aQ_variables aQ_holes aQ_sizes aQ_places aQ_conclusions aQ_premises aQ_counts aQ_hitOf aQ_hitOne aQ_hitTwo aQ_hitTerms aQ_image aQ_bound aQ_waits aQ_waitsFor aQ_seen aQ_goals aQ_steps aQ_looked aQ_under aQ_taken aQ_news aQ_order aQ_there aQ_back Q_thrown Q_all Q_statements Q_hitKind Q_hits Q_tries Q_takenAll Q_takenFirst g2 g4 g6 g8 g10) := hD
  obtain rfl := Option.some.inj hf
  exact W.vret hx hb hr (fun t ht hW => ⟨rfl, by rw [ht]; exact hP, hD, hS.F ht⟩) hS.2.2 d_Q_look_35
def f_Q_takes_L54 (Q_places : (Nat → Int32)) (Q_conclusions : (Nat → Int32)) (Q_premises : (Nat → Int32)) (Q_counts : (Nat → Int32)) (Q_goals : (Nat → Int32)) (Q_looked : (Nat → Int32)) (Q_order : (Nat → Int32)) : Nat → Int32 → Int32 → (Nat → Int32) → (Nat → Int32) → (Nat → Int32) → (Nat → Int32) → (Nat → Int32) → (Nat → Int32) → (Nat → Int32) → (Nat → Int32) → (Nat → Int32) → (Nat → Int32) → (Nat → Int32) → (Nat → Int32) → (Nat → Int32) → (Nat → Int32) → (Nat → Int32) → (Nat → Int32) → Int32 → Int32 → Int32 → Option (Int32 × Int32 × Int32 × (Nat → Int32) × (Nat → Int32) × (Nat → Int32) × (Nat → Int32) × (Nat → Int32) × (Nat → Int32) × (Nat → Int32) × (Nat → Int32) × (Nat → Int32) × (Nat → Int32) × (Nat → Int32) × (Nat → Int32) × (Nat → Int32) × (Nat → Int32) × (Nat → Int32) × (Nat → Int32))
  | 0, _, _, _, _, _, _, _, _, _, _, _, _, _, _, _, _, _, _, _, _, _ => none
  | n + 1, Q_all_54, Q_tries_54, Q_kinds_54, Q_which_54, Q_firsts_54, Q_seconds_54, Q_thirds_54, Q_nexts_54, Q_heads_54, Q_names_54, Q_variables_54, Q_holes_54, Q_sizes_54, Q_image_54, Q_bound_54, Q_waits_54, Q_waitsFor_54, Q_news_54, x1_54, x2_54, x3_54 =>
    gd (ixb x2_54 30) <|
    if (Q_counts x2_54.toNatClampNeg) ≤ x3_54 then
      some ((1 : Int32), Q_all_54, Q_tries_54, Q_kinds_54, Q_which_54, Q_firsts_54, Q_seconds_54, Q_thirds_54, Q_nexts_54, Q_heads_54, Q_names_54, Q_variables_54, Q_holes_54, Q_sizes_54, Q_image_54, Q_bound_54, Q_waits_54, Q_waitsFor_54, Q_news_54)
    else
      (f_Q_premise Q_premises x2_54 x3_54).bind fun r13 =>
      (f_Q_put Q_all_54 Q_kinds_54 Q_which_54 Q_firsts_54 Q_seconds_54 Q_thirds_54 Q_nexts_54 Q_heads_54 Q_names_54 Q_variables_54 Q_holes_54 Q_sizes_54 Q_image_54 Q_bound_54 Q_waits_54 r13 (101100 : Int32)).bind fun r14 =>
      gd (ixb (((4 : Int32) * x1_54) + x3_54) 4008) <| nm (upd Q_news_54 (((4 : Int32) * x1_54) + x3_54).toNatClampNeg r14.1) fun g16 =>
      nm (x3_54 + (1 : Int32)) fun x17 =>
      (f_Q_takes_L54 Q_places Q_conclusions Q_premises Q_counts Q_goals Q_looked Q_order n) r14.2.1 Q_tries_54 r14.2.2.1 r14.2.2.2.1 r14.2.2.2.2.1 r14.2.2.2.2.2.1 r14.2.2.2.2.2.2.1 r14.2.2.2.2.2.2.2.1 r14.2.2.2.2.2.2.2.2.1 r14.2.2.2.2.2.2.2.2.2.1 r14.2.2.2.2.2.2.2.2.2.2.1 r14.2.2.2.2.2.2.2.2.2.2.2.1 r14.2.2.2.2.2.2.2.2.2.2.2.2.1 r14.2.2.2.2.2.2.2.2.2.2.2.2.2.1 Q_bound_54 r14.2.2.2.2.2.2.2.2.2.2.2.2.2.2 Q_waitsFor_54 g16 x1_54 x2_54 x17
def f_Q_takes (Q_all : Int32) (Q_tries : Int32) (Q_kinds : (Nat → Int32)) (Q_which : (Nat → Int32)) (Q_firsts : (Nat → Int32)) (Q_seconds : (Nat → Int32)) (Q_thirds : (Nat → Int32)) (Q_nexts : (Nat → Int32)) (Q_heads : (Nat → Int32)) (Q_names : (Nat → Int32)) (Q_variables : (Nat → Int32)) (Q_holes : (Nat → Int32)) (Q_sizes : (Nat → Int32)) (Q_places : (Nat → Int32)) (Q_conclusions : (Nat → Int32)) (Q_premises : (Nat → Int32)) (Q_counts : (Nat → Int32)) (Q_image : (Nat → Int32)) (Q_bound : (Nat → Int32)) (Q_waits : (Nat → Int32)) (Q_waitsFor : (Nat → Int32)) (Q_goals : (Nat → Int32)) (Q_looked : (Nat → Int32)) (Q_news : (Nat → Int32)) (Q_order : (Nat → Int32)) (p0 : Int32) : Option (Int32 × Int32 × Int32 × (Nat → Int32) × (Nat → Int32) × (Nat → Int32) × (Nat → Int32) × (Nat → Int32) × (Nat → Int32) × (Nat → Int32) × (Nat → Int32) × (Nat → Int32) × (Nat → Int32) × (Nat → Int32) × (Nat → Int32) × (Nat → Int32) × (Nat → Int32) × (Nat → Int32) × (Nat → Int32)) :=
  gd (ixb p0 1002) <|
  gd (ixb (Q_looked p0.toNatClampNeg) 30) <|
  nm (Q_order (Q_looked p0.toNatClampNeg).toNatClampNeg) fun x3 =>
  nm (Q_tries + (1 : Int32)) fun x4 =>
  (f_Q_open Q_variables Q_conclusions Q_premises Q_counts x3).bind fun r5 =>
  if r5 = 0 then
    gd (ixb x3 30) <|
    gd (ixb p0 1002) <|
    (f_Q_matches Q_kinds Q_which Q_firsts Q_seconds Q_thirds Q_variables Q_holes Q_places Q_image Q_bound Q_waits Q_waitsFor (Q_conclusions x3.toNatClampNeg) (Q_goals p0.toNatClampNeg) (0 : Int32)).bind fun r9 =>
    if r9.1 = 0 then
      some ((0 : Int32), Q_all, x4, Q_kinds, Q_which, Q_firsts, Q_seconds, Q_thirds, Q_nexts, Q_heads, Q_names, Q_variables, Q_holes, Q_sizes, r9.2.1, r9.2.2.1, r9.2.2.2.1, r9.2.2.2.2, Q_news)
    else
      f_Q_takes_L54 Q_places Q_conclusions Q_premises Q_counts Q_goals Q_looked Q_order FU Q_all x4 Q_kinds Q_which Q_firsts Q_seconds Q_thirds Q_nexts Q_heads Q_names Q_variables Q_holes Q_sizes r9.2.1 r9.2.2.1 r9.2.2.2.1 r9.2.2.2.2 Q_news p0 x3 (0 : Int32)
  else
    some ((0 : Int32), Q_all, x4, Q_kinds, Q_which, Q_firsts, Q_seconds, Q_thirds, Q_nexts, Q_heads, Q_names, Q_variables, Q_holes, Q_sizes, Q_image, Q_bound, Q_waits, Q_waitsFor, Q_news)
abbrev rm_Q_takes : Room := { frames := 5, cells := 0, slots := 0, locals := 122 }
set_option maxHeartbeats 4000000 in
set_option maxRecDepth 100000 in
theorem c_Q_takes (l : Launch) (D : va_G) (cI cJ cZ : ClassId) (aQ aQ_kinds aQ_which aQ_firsts aQ_seconds aQ_thirds aQ_nexts aQ_heads aQ_names aQ_variables aQ_holes aQ_sizes aQ_places aQ_conclusions aQ_premises aQ_counts aQ_hitOf aQ_hitOne aQ_hitTwo aQ_hitTerms aQ_image aQ_bound aQ_waits aQ_waitsFor aQ_seen aQ_goals aQ_steps aQ_looked aQ_under aQ_taken aQ_news aQ_order aQ_there aQ_back : Nat) (sz : Nat) (Q_thrown : Int32) (Q_all : Int32) (Q_statements : Int32) (Q_hitKind : Int32) (Q_hits : Int32) (Q_tries : Int32) (Q_takenAll : Int32) (Q_takenFirst : Int32) (Q_kinds : (Nat → Int32)) (Q_which : (Nat → Int32)) (Q_firsts : (Nat → Int32)) (Q_seconds : (Nat → Int32)) (Q_thirds : (Nat → Int32)) (Q_nexts : (Nat → Int32)) (Q_heads : (Nat → Int32)) (Q_names : (Nat → Int32)) (Q_variables : (Nat → Int32)) (Q_holes : (Nat → Int32)) (Q_sizes : (Nat → Int32)) (Q_places : (Nat → Int32)) (Q_conclusions : (Nat → Int32)) (Q_premises : (Nat → Int32)) (Q_counts : (Nat → Int32)) (Q_image : (Nat → Int32)) (Q_bound : (Nat → Int32)) (Q_waits : (Nat → Int32)) (Q_waitsFor : (Nat → Int32)) (Q_goals : (Nat → Int32)) (Q_looked : (Nat → Int32)) (Q_news : (Nat → Int32)) (Q_order : (Nat → Int32)) (p0 : Int32) (o : Int32 × Int32 × Int32 × (Nat → Int32) × (Nat → Int32) × (Nat → Int32) × (Nat → Int32) × (Nat → Int32) × (Nat → Int32) × (Nat → Int32) × (Nat → Int32) × (Nat → Int32) × (Nat → Int32) × (Nat → Int32) × (Nat → Int32) × (Nat → Int32) × (Nat → Int32) × (Nat → Int32) × (Nat → Int32)) (hf : f_Q_takes Q_all Q_tries Q_kinds Q_which Q_firsts Q_seconds Q_thirds Q_nexts Q_heads Q_names Q_variables Q_holes Q_sizes Q_places Q_conclusions Q_premises Q_counts Q_image Q_bound Q_waits Q_waitsFor Q_goals Q_looked Q_news Q_order p0 = some o) : Met l y_Q_takes (ws_Q_takes) rm_Q_takes (WPc D vwCl cI cJ cZ [.ref aQ, .int p0] (wv_67 cI cJ cZ aQ aQ_kinds aQ_which aQ_firsts aQ_seconds aQ_thirds aQ_nexts aQ_heads aQ_names aQ_variables aQ_holes aQ_sizes aQ_places aQ_conclusions aQ_premises aQ_counts aQ_hitOf aQ_hitOne aQ_hitTwo aQ_hitTerms aQ_image aQ_bound aQ_waits aQ_waitsFor aQ_seen aQ_goals aQ_steps aQ_looked aQ_under aQ_taken aQ_news aQ_order aQ_there aQ_back Q_thrown Q_all Q_statements Q_hitKind Q_hits Q_tries Q_takenAll Q_takenFirst Q_kinds Q_which Q_firsts Q_seconds Q_thirds Q_nexts Q_heads Q_names Q_variables Q_holes Q_sizes Q_places Q_conclusions Q_premises Q_counts Q_image Q_bound Q_waits Q_waitsFor Q_goals Q_looked Q_news Q_order) sz) (WQ D vwCl (some (.int o.1)) (wv_67 cI cJ cZ aQ aQ_kinds aQ_which aQ_firsts aQ_seconds aQ_thirds aQ_nexts aQ_heads aQ_names aQ_variables aQ_holes aQ_sizes aQ_places aQ_conclusions aQ_premises aQ_counts aQ_hitOf aQ_hitOne aQ_hitTwo aQ_hitTerms aQ_image aQ_bound aQ_waits aQ_waitsFor aQ_seen aQ_goals aQ_steps aQ_looked aQ_under aQ_taken aQ_news aQ_order aQ_there aQ_back Q_thrown o.2.1 Q_statements Q_hitKind Q_hits o.2.2.1 Q_takenAll Q_takenFirst o.2.2.2.1 o.2.2.2.2.1 o.2.2.2.2.2.1 o.2.2.2.2.2.2.1 o.2.2.2.2.2.2.2.1 o.2.2.2.2.2.2.2.2.1 o.2.2.2.2.2.2.2.2.2.1 o.2.2.2.2.2.2.2.2.2.2.1 o.2.2.2.2.2.2.2.2.2.2.2.1 o.2.2.2.2.2.2.2.2.2.2.2.2.1 o.2.2.2.2.2.2.2.2.2.2.2.2.2.1 Q_places Q_conclusions Q_premises Q_counts o.2.2.2.2.2.2.2.2.2.2.2.2.2.2.1 o.2.2.2.2.2.2.2.2.2.2.2.2.2.2.2.1 o.2.2.2.2.2.2.2.2.2.2.2.2.2.2.2.2.1 o.2.2.2.2.2.2.2.2.2.2.2.2.2.2.2.2.2.1 Q_goals Q_looked o.2.2.2.2.2.2.2.2.2.2.2.2.2.2.2.2.2.2 Q_order) (va_A (wv_67 cI cJ cZ aQ aQ_kinds aQ_which aQ_firsts aQ_seconds aQ_thirds aQ_nexts aQ_heads aQ_names aQ_variables aQ_holes aQ_sizes aQ_places aQ_conclusions aQ_premises aQ_counts aQ_hitOf aQ_hitOne aQ_hitTwo aQ_hitTerms aQ_image aQ_bound aQ_waits aQ_waitsFor aQ_seen aQ_goals aQ_steps aQ_looked aQ_under aQ_taken aQ_news aQ_order aQ_there aQ_back Q_thrown Q_all Q_statements Q_hitKind Q_hits Q_tries Q_takenAll Q_takenFirst Q_kinds Q_which Q_firsts Q_seconds Q_thirds Q_nexts Q_heads Q_names Q_variables Q_holes Q_sizes Q_places Q_conclusions Q_premises Q_counts Q_image Q_bound Q_waits Q_waitsFor Q_goals Q_looked Q_news Q_order) sz)) 0 0 (va_A (wv_67 cI cJ cZ aQ aQ_kinds aQ_which aQ_firsts aQ_seconds aQ_thirds aQ_nexts aQ_heads aQ_names aQ_variables aQ_holes aQ_sizes aQ_places aQ_conclusions aQ_premises aQ_counts aQ_hitOf aQ_hitOne aQ_hitTwo aQ_hitTerms aQ_image aQ_bound aQ_waits aQ_waitsFor aQ_seen aQ_goals aQ_steps aQ_looked aQ_under aQ_taken aQ_news aQ_order aQ_there aQ_back Q_thrown Q_all Q_statements Q_hitKind Q_hits Q_tries Q_takenAll Q_takenFirst Q_kinds Q_which Q_firsts Q_seconds Q_thirds Q_nexts Q_heads Q_names Q_variables Q_holes Q_sizes Q_places Q_conclusions Q_premises Q_counts Q_image Q_bound Q_waits Q_waitsFor Q_goals Q_looked Q_news Q_order) sz) := by
  refine Met.ofW (cc := b_Q_takes) (maxL := 4) (ret := (some .boolean)) (by decide) rfl ?_
  intro p e s m args below meth c s₁ B hml hv
  obtain ⟨rfl, rfl, hP, hK, hD0⟩ := hv
  have hx := B.exec
  have hb := B.bytes
  have hr := B.returns
  have hts : ∀ w ∈ BG, w.before _ s = true := fun w h => atoms_spec (ws := (ws_Q_takes)) B.pre w (List.mem_cons_of_mem _ h)
  have hown : s.vm.findClass RR_Q = some m.cls := findClass_of_methodNamed B.named
  have hlocks := B.notSynchronized
  have hD := hD0.self (sz := s.heap.size)
  have hA : ∀ q : Nat, s.heap.size ≤ q → va_A (wv_67 cI cJ cZ aQ aQ_kinds aQ_which aQ_firsts aQ_seconds aQ_thirds aQ_nexts aQ_heads aQ_names aQ_variables aQ_holes aQ_sizes aQ_places aQ_conclusions aQ_premises aQ_counts aQ_hitOf aQ_hitOne aQ_hitTwo aQ_hitTerms aQ_image aQ_bound aQ_waits aQ_waitsFor aQ_seen aQ_goals aQ_steps aQ_looked aQ_under aQ_taken aQ_news aQ_order aQ_there aQ_back Q_thrown Q_all Q_statements Q_hitKind Q_hits Q_tries Q_takenAll Q_takenFirst Q_kinds Q_which Q_firsts Q_seconds Q_thirds Q_nexts Q_heads Q_names Q_variables Q_holes Q_sizes Q_places Q_conclusions Q_premises Q_counts Q_image Q_bound Q_waits Q_waitsFor Q_goals Q_looked Q_news Q_order) s.heap.size q := fun q h => Or.inr h
  have hS : va_S (va_A (wv_67 cI cJ cZ aQ aQ_kinds aQ_which aQ_firsts aQ_seconds aQ_thirds aQ_nexts aQ_heads aQ_names aQ_variables aQ_holes aQ_sizes aQ_places aQ_conclusions aQ_premises aQ_counts aQ_hitOf aQ_hitOne aQ_hitTwo aQ_hitTerms aQ_image aQ_bound aQ_waits aQ_waitsFor aQ_seen aQ_goals aQ_steps aQ_looked aQ_under aQ_taken aQ_news aQ_order aQ_there aQ_back Q_thrown Q_all Q_statements Q_hitKind Q_hits Q_tries Q_takenAll Q_takenFirst Q_kinds Q_which Q_firsts Q_seconds Q_thirds Q_nexts Q_heads Q_names Q_variables Q_holes Q_sizes Q_places Q_conclusions Q_premises Q_counts Q_image Q_bound Q_waits Q_waitsFor Q_goals Q_looked Q_news Q_order) s.heap.size) s.heap s.heap [] := va_S.rf
  generalize va_A (wv_67 cI cJ cZ aQ aQ_kinds aQ_which aQ_firsts aQ_seconds aQ_thirds aQ_nexts aQ_heads aQ_names aQ_variables aQ_holes aQ_sizes aQ_places aQ_conclusions aQ_premises aQ_counts aQ_hitOf aQ_hitOne aQ_hitTwo aQ_hitTerms aQ_image aQ_bound aQ_waits aQ_waitsFor aQ_seen aQ_goals aQ_steps aQ_looked aQ_under aQ_taken aQ_news aQ_order aQ_there aQ_back Q_thrown Q_all Q_statements Q_hitKind Q_hits Q_tries Q_takenAll Q_takenFirst Q_kinds Q_which Q_firsts Q_seconds Q_thirds Q_nexts Q_heads Q_names Q_variables Q_holes Q_sizes Q_places Q_conclusions Q_premises Q_counts Q_image Q_bound Q_waits Q_waitsFor Q_goals Q_looked Q_news Q_order) s.heap.size = A at hD hA hS ⊢
  have hl := lv_entry ([.ref aQ, .int p0]) (n := 4) (Nat.le_of_ble_eq_true rfl)
  rw [lg_entry_eq]
  generalize (lg_sl ([.ref aQ, .int p0]) ++ List.replicate (4 - (lg_sl ([.ref aQ, .int p0])).length) Slot.unset).toArray = ls at hl ⊢
  have hl : lv_has ls 4 [(0, .ref aQ), (1, .int p0)] := hl
  have hL54 : ∀ (n54 : Nat), ∀ (Q_all_54 : Int32) (Q_tries_54 : Int32) (Q_kinds_54 : (Nat → Int32)) (Q_which_54 : (Nat → Int32)) (Q_firsts_54 : (Nat → Int32)) (Q_seconds_54 : (Nat → Int32)) (Q_thirds_54 : (Nat → Int32)) (Q_nexts_54 : (Nat → Int32)) (Q_heads_54 : (Nat → Int32)) (Q_names_54 : (Nat → Int32)) (Q_variables_54 : (Nat → Int32)) (Q_holes_54 : (Nat → Int32)) (Q_sizes_54 : (Nat → Int32)) (Q_image_54 : (Nat → Int32)) (Q_bound_54 : (Nat → Int32)) (Q_waits_54 : (Nat → Int32)) (Q_waitsFor_54 : (Nat → Int32)) (Q_news_54 : (Nat → Int32)) (x1_54 : Int32) (x2_54 : Int32) (x3_54 : Int32), ∀ (H : Heap) (locs : List Loc), va_P D vwCl (wv_67 cI cJ cZ aQ aQ_kinds aQ_which aQ_firsts aQ_seconds aQ_thirds aQ_nexts aQ_heads aQ_names aQ_variables aQ_holes aQ_sizes aQ_places aQ_conclusions aQ_premises aQ_counts aQ_hitOf aQ_hitOne aQ_hitTwo aQ_hitTerms aQ_image aQ_bound aQ_waits aQ_waitsFor aQ_seen aQ_goals aQ_steps aQ_looked aQ_under aQ_taken aQ_news aQ_order aQ_there aQ_back Q_thrown Q_all_54 Q_statements Q_hitKind Q_hits Q_tries_54 Q_takenAll Q_takenFirst Q_kinds_54 Q_which_54 Q_firsts_54 Q_seconds_54 Q_thirds_54 Q_nexts_54 Q_heads_54 Q_names_54 Q_variables_54 Q_holes_54 Q_sizes_54 Q_places Q_conclusions Q_premises Q_counts Q_image_54 Q_bound_54 Q_waits_54 Q_waitsFor_54 Q_goals Q_looked Q_news_54 Q_order) H → va_D A (wv_67 cI cJ cZ aQ aQ_kinds aQ_which aQ_firsts aQ_seconds aQ_thirds aQ_nexts aQ_heads aQ_names aQ_variables aQ_holes aQ_sizes aQ_places aQ_conclusions aQ_premises aQ_counts aQ_hitOf aQ_hitOne aQ_hitTwo aQ_hitTerms aQ_image aQ_bound aQ_waits aQ_waitsFor aQ_seen aQ_goals aQ_steps aQ_looked aQ_under aQ_taken aQ_news aQ_order aQ_there aQ_back Q_thrown Q_all_54 Q_statements Q_hitKind Q_hits Q_tries_54 Q_takenAll Q_takenFirst Q_kinds_54 Q_which_54 Q_firsts_54 Q_seconds_54 Q_thirds_54 Q_nexts_54 Q_heads_54 Q_names_54 Q_variables_54 Q_holes_54 Q_sizes_54 Q_places Q_conclusions Q_premises Q_counts Q_image_54 Q_bound_54 Q_waits_54 Q_waitsFor_54 Q_goals Q_looked Q_news_54 Q_order) → va_S A s.heap H locs → ∀ (ls : Array Slot), lv_has ls 4 [(0, .ref aQ), (1, .int x1_54), (2, .int x2_54), (3, .int x3_54)] → f_Q_takes_L54 Q_places Q_conclusions Q_premises Q_counts Q_goals Q_looked Q_order n54 Q_all_54 Q_tries_54 Q_kinds_54 Q_which_54 Q_firsts_54 Q_seconds_54 Q_thirds_54 Q_nexts_54 Q_heads_54 Q_names_54 Q_variables_54 Q_holes_54 Q_sizes_54 Q_image_54 Q_bound_54 Q_waits_54 Q_waitsFor_54 Q_news_54 x1_54 x2_54 x3_54 = some o → W p l e (headSpec (ws_Q_takes) rm_Q_takes).room s m ([.ref aQ, .int p0] : List Value).toArray below meth c H locs 0 0 (MQ below (WQ D vwCl (some (.int o.1)) (wv_67 cI cJ cZ aQ aQ_kinds aQ_which aQ_firsts aQ_seconds aQ_thirds aQ_nexts aQ_heads aQ_names aQ_variables aQ_holes aQ_sizes aQ_places aQ_conclusions aQ_premises aQ_counts aQ_hitOf aQ_hitOne aQ_hitTwo aQ_hitTerms aQ_image aQ_bound aQ_waits aQ_waitsFor aQ_seen aQ_goals aQ_steps aQ_looked aQ_under aQ_taken aQ_news aQ_order aQ_there aQ_back Q_thrown o.2.1 Q_statements Q_hitKind Q_hits o.2.2.1 Q_takenAll Q_takenFirst o.2.2.2.1 o.2.2.2.2.1 o.2.2.2.2.2.1 o.2.2.2.2.2.2.1 o.2.2.2.2.2.2.2.1 o.2.2.2.2.2.2.2.2.1 o.2.2.2.2.2.2.2.2.2.1 o.2.2.2.2.2.2.2.2.2.2.1 o.2.2.2.2.2.2.2.2.2.2.2.1 o.2.2.2.2.2.2.2.2.2.2.2.2.1 o.2.2.2.2.2.2.2.2.2.2.2.2.2.1 Q_places Q_conclusions Q_premises Q_counts o.2.2.2.2.2.2.2.2.2.2.2.2.2.2.1 o.2.2.2.2.2.2.2.2.2.2.2.2.2.2.2.1 o.2.2.2.2.2.2.2.2.2.2.2.2.2.2.2.2.1 o.2.2.2.2.2.2.2.2.2.2.2.2.2.2.2.2.2.1 Q_goals Q_looked o.2.2.2.2.2.2.2.2.2.2.2.2.2.2.2.2.2.2 Q_order) A) ([.ref aQ, .int p0] : List Value).toArray s 0 0 A) (F0 m 54 ls []) := by
    intro n54
    induction n54 with
    | zero =>
      intro Q_all_54 Q_tries_54 Q_kinds_54 Q_which_54 Q_firsts_54 Q_seconds_54 Q_thirds_54 Q_nexts_54 Q_heads_54 Q_names_54 Q_variables_54 Q_holes_54 Q_sizes_54 Q_image_54 Q_bound_54 Q_waits_54 Q_waitsFor_54 Q_news_54 x1_54 x2_54 x3_54 H locs hP hD hS ls hl hf
      rw [f_Q_takes_L54] at hf
      cases hf
    | succ n54 ih54 =>
      intro Q_all_54 Q_tries_54 Q_kinds_54 Q_which_54 Q_firsts_54 Q_seconds_54 Q_thirds_54 Q_nexts_54 Q_heads_54 Q_names_54 Q_variables_54 Q_holes_54 Q_sizes_54 Q_image_54 Q_bound_54 Q_waits_54 Q_waitsFor_54 Q_news_54 x1_54 x2_54 x3_54 H locs hP hD hS ls hl hf
      rw [f_Q_takes_L54] at hf
      refine lv_iload_n hx hb d_Q_takes_54 rfl (lv_at hl 3 rfl) ?_
      refine lv_aload_n hx hb d_Q_takes_55 rfl (lv_at hl 0 rfl) ?_
      refine va_get (D := D) (ci := 7) (v := .ref aQ_counts) (C := RR_Q) (T := FF_Q) (N := 41) hx hb hts kin_Q hown hK.1 hP 0 rfl rfl 16 (by decide) (hts _ k4_83) (fun _ h9 => h9) rfl d_Q_takes_56 ?_
      refine lv_iload_n hx hb d_Q_takes_59 rfl (lv_at hl 2 rfl) ?_
      obtain ⟨h11, hf⟩ := of_gd hf
      refine va_iald hx hb hK.1 hP 15 0 rfl rfl (ixb_in h11) d_Q_takes_60 ?_
      refine lv_icmp_ge (tgt := 92) hx hb d_Q_takes_61 (by decide) (fun c12 => ?_) (fun c12 => ?_)
      · have hf := ite_t c12 hf
        refine lv_iconst (v := 1) hx hb d_Q_takes_92 (by decide) ?_
        obtain rfl := Option.some.inj hf
        exact W.zret (v := (1 : Int32)) hx hb hr rfl (fun t ht hW => ⟨rfl, by rw [ht]; exact hP, hD, hS.F ht⟩) hS.2.2 d_Q_takes_93
      · have hf := ite_f c12 hf
        refine lv_aload_n hx hb d_Q_takes_64 rfl (lv_at hl 0 rfl) ?_
        refine va_get (D := D) (ci := 7) (v := .ref aQ_news) (C := RR_Q) (T := FF_Q) (N := 41) hx hb hts kin_Q hown hK.1 hP 0 rfl rfl 34 (by decide) (hts _ k4_101) (fun _ h9 => h9) rfl d_Q_takes_65 ?_
        refine lv_iconst (v := 4) hx hb d_Q_takes_68 (by decide) ?_
        refine lv_iload_n hx hb d_Q_takes_69 rfl (lv_at hl 1 rfl) ?_
        refine lv_imul hx hb d_Q_takes_70 ?_
        refine lv_iload_n hx hb d_Q_takes_71 rfl (lv_at hl 3 rfl) ?_
        refine lv_iadd hx hb d_Q_takes_72 ?_
        refine lv_aload_n hx hb d_Q_takes_73 rfl (lv_at hl 0 rfl) ?_
        refine lv_aload_n hx hb d_Q_takes_74 rfl (lv_at hl 0 rfl) ?_
        refine lv_iload_n hx hb d_Q_takes_75 rfl (lv_at hl 2 rfl) ?_
        refine lv_iload_n hx hb d_Q_takes_76 rfl (lv_at hl 3 rfl) ?_
        obtain ⟨r13, hr13, hf⟩ := of_bd hf
        refine rd_call (va_runV (As := [.int x2_54, .int x3_54]) (rest := [.ref aQ, .int (((4 : Int32) * x1_54) + x3_54), .ref aQ_news]) ⟨hx, hb, hml, hown, hts⟩ (c_Q_premise l D cI cJ cZ aQ aQ_kinds aQ_which aQ_firsts aQ_seconds aQ_thirds aQ_nexts aQ_heads aQ_names aQ_variables aQ_holes aQ_sizes aQ_places aQ_conclusions aQ_premises aQ_counts aQ_hitOf aQ_hitOne aQ_hitTwo aQ_hitTerms aQ_image aQ_bound aQ_waits aQ_waitsFor aQ_seen aQ_goals aQ_steps aQ_looked aQ_under aQ_taken aQ_news aQ_order aQ_there aQ_back Q_thrown Q_all_54 Q_statements Q_hitKind Q_hits Q_tries_54 Q_takenAll Q_takenFirst Q_premises x2_54 x3_54 r13 hr13) (bigV 2 hts k5_15 k5_17 ks_Q_premise k1_9 k5_18 rfl rfl hd_Q_premise ⟨Nat.le_of_ble_eq_true rfl, Nat.le_of_ble_eq_true rfl⟩) (rd_preV hK hP [0, 14] rfl 0 rfl rfl rfl) rfl rfl hl.1 rfl (lv_room (Nat.le_of_ble_eq_true rfl)) d_Q_takes_77 ⟨Nat.le_of_ble_eq_true rfl, Nat.le_of_ble_eq_true rfl⟩) ?_
        refine lv_ldc (v := 101100) hx hb hown (hts _ k4_66) d_Q_takes_80 ?_
        obtain ⟨r14, hr14, hf⟩ := of_bd hf
        refine wr_call (ws' := (wv_67 cI cJ cZ aQ aQ_kinds aQ_which aQ_firsts aQ_seconds aQ_thirds aQ_nexts aQ_heads aQ_names aQ_variables aQ_holes aQ_sizes aQ_places aQ_conclusions aQ_premises aQ_counts aQ_hitOf aQ_hitOne aQ_hitTwo aQ_hitTerms aQ_image aQ_bound aQ_waits aQ_waitsFor aQ_seen aQ_goals aQ_steps aQ_looked aQ_under aQ_taken aQ_news aQ_order aQ_there aQ_back Q_thrown r14.2.1 Q_statements Q_hitKind Q_hits Q_tries_54 Q_takenAll Q_takenFirst r14.2.2.1 r14.2.2.2.1 r14.2.2.2.2.1 r14.2.2.2.2.2.1 r14.2.2.2.2.2.2.1 r14.2.2.2.2.2.2.2.1 r14.2.2.2.2.2.2.2.2.1 r14.2.2.2.2.2.2.2.2.2.1 r14.2.2.2.2.2.2.2.2.2.2.1 r14.2.2.2.2.2.2.2.2.2.2.2.1 r14.2.2.2.2.2.2.2.2.2.2.2.2.1 Q_places Q_conclusions Q_premises Q_counts r14.2.2.2.2.2.2.2.2.2.2.2.2.2.1 Q_bound_54 r14.2.2.2.2.2.2.2.2.2.2.2.2.2.2 Q_waitsFor_54 Q_goals Q_looked Q_news_54 Q_order)) (va_runV (As := [.int r13, .int (101100 : Int32)]) (rest := [.int (((4 : Int32) * x1_54) + x3_54), .ref aQ_news]) ⟨hx, hb, hml, hown, hts⟩ (c_Q_put l D cI cJ cZ aQ aQ_kinds aQ_which aQ_firsts aQ_seconds aQ_thirds aQ_nexts aQ_heads aQ_names aQ_variables aQ_holes aQ_sizes aQ_places aQ_conclusions aQ_premises aQ_counts aQ_hitOf aQ_hitOne aQ_hitTwo aQ_hitTerms aQ_image aQ_bound aQ_waits aQ_waitsFor aQ_seen aQ_goals aQ_steps aQ_looked aQ_under aQ_taken aQ_news aQ_order aQ_there aQ_back _ Q_thrown Q_all_54 Q_statements Q_hitKind Q_hits Q_tries_54 Q_takenAll Q_takenFirst Q_kinds_54 Q_which_54 Q_firsts_54 Q_seconds_54 Q_thirds_54 Q_nexts_54 Q_heads_54 Q_names_54 Q_variables_54 Q_holes_54 Q_sizes_54 Q_image_54 Q_bound_54 Q_waits_54 r13 (101100 : Int32) r14 hr14) (bigV 2 hts k5_54 k5_56 ks_Q_put k1_9 k5_57 rfl rfl hd_Q_put ⟨Nat.le_of_ble_eq_true rfl, Nat.le_of_ble_eq_true rfl⟩) (wr_preV hK hP hD [0, 1, 2, 3, 4, 5, 6, 7, 8, 9, 10, 11, 16, 17, 18] rfl (by decide) rfl 0 rfl rfl rfl) rfl rfl hl.1 rfl (lv_room (Nat.le_of_ble_eq_true rfl)) d_Q_takes_82 ⟨Nat.le_of_ble_eq_true rfl, Nat.le_of_ble_eq_true rfl⟩) hP hD hS hA [0, 1, 2, 3, 4, 5, 6, 7, 8, 9, 10, 11, 16, 17, 18] [12, 13, 14, 15, 19, 20, 21, 22, 23] rfl rfl (by decide) (by decide) [9, 10, 11, 12, 13, 14, 15, 16, 17, 18, 19, 20, 0, 1, 2, 3, 21, 22, 23, 4, 5, 6, 7, 8] (by decide) rfl (fun H locs hP hD hS => ?_)
        obtain ⟨h15, hf⟩ := of_gd hf
        obtain ⟨g16, eg16⟩ : ∃ y : Nat → Int32, y = upd Q_news_54 (((4 : Int32) * x1_54) + x3_54).toNatClampNeg r14.1 := ⟨_, rfl⟩
        have hf := of_nm eg16 hf
        refine va_iast hx hb hK.1 hP hD hS 22 0 rfl rfl (ixb_in h15) d_Q_takes_85 (fun H locs hP hD hS => ?_)
        rw [← eg16] at hP hD
        have hP : va_P D vwCl (wv_67 cI cJ cZ aQ aQ_kinds aQ_which aQ_firsts aQ_seconds aQ_thirds aQ_nexts aQ_heads aQ_names aQ_variables aQ_holes aQ_sizes aQ_places aQ_conclusions aQ_premises aQ_counts aQ_hitOf aQ_hitOne aQ_hitTwo aQ_hitTerms aQ_image aQ_bound aQ_waits aQ_waitsFor aQ_seen aQ_goals aQ_steps aQ_looked aQ_under aQ_taken aQ_news aQ_order aQ_there aQ_back Q_thrown r14.2.1 Q_statements Q_hitKind Q_hits Q_tries_54 Q_takenAll Q_takenFirst r14.2.2.1 r14.2.2.2.1 r14.2.2.2.2.1 r14.2.2.2.2.2.1 r14.2.2.2.2.2.2.1 r14.2.2.2.2.2.2.2.1 r14.2.2.2.2.2.2.2.2.1 r14.2.2.2.2.2.2.2.2.2.1 r14.2.2.2.2.2.2.2.2.2.2.1 r14.2.2.2.2.2.2.2.2.2.2.2.1 r14.2.2.2.2.2.2.2.2.2.2.2.2.1 Q_places Q_conclusions Q_premises Q_counts r14.2.2.2.2.2.2.2.2.2.2.2.2.2.1 Q_bound_54 r14.2.2.2.2.2.2.2.2.2.2.2.2.2.2 Q_waitsFor_54 Q_goals Q_looked g16 Q_order) H := hP
        have hD : va_D A (wv_67 cI cJ cZ aQ aQ_kinds aQ_which aQ_firsts aQ_seconds aQ_thirds aQ_nexts aQ_heads aQ_names aQ_variables aQ_holes aQ_sizes aQ_places aQ_conclusions aQ_premises aQ_counts aQ_hitOf aQ_hitOne aQ_hitTwo aQ_hitTerms aQ_image aQ_bound aQ_waits aQ_waitsFor aQ_seen aQ_goals aQ_steps aQ_looked aQ_under aQ_taken aQ_news aQ_order aQ_there aQ_back Q_thrown r14.2.1 Q_statements Q_hitKind Q_hits Q_tries_54 Q_takenAll Q_takenFirst r14.2.2.1 r14.2.2.2.1 r14.2.2.2.2.1 r14.2.2.2.2.2.1 r14.2.2.2.2.2.2.1 r14.2.2.2.2.2.2.2.1 r14.2.2.2.2.2.2.2.2.1 r14.2.2.2.2.2.2.2.2.2.1 r14.2.2.2.2.2.2.2.2.2.2.1 r14.2.2.2.2.2.2.2.2.2.2.2.1 r14.2.2.2.2.2.2.2.2.2.2.2.2.1 Q_places Q_conclusions Q_premises Q_counts r14.2.2.2.2.2.2.2.2.2.2.2.2.2.1 Q_bound_54 r14.2.2.2.2.2.2.2.2.2.2.2.2.2.2 Q_waitsFor_54 Q_goals Q_looked g16 Q_order) := hD
        obtain ⟨x17, ex17⟩ : ∃ y : Int32, y = x3_54 + (1 : Int32) := ⟨_, rfl⟩
        refine lv_iinc (v := x17) (lv' := [(3, .int x17), (0, .ref aQ), (1, .int x1_54), (2, .int x2_54)]) hx hb d_Q_takes_86 hl (k := 3) rfl (by rw [ex17]; rfl) (by decide) rfl (fun ls hl => ?_)
        have hf := of_nm ex17 hf
        refine lv_goto (tgt := 54) hx hb d_Q_takes_89 (by decide) ?_
        exact ih54 _ _ _ _ _ _ _ _ _ _ _ _ _ _ _ _ _ _ _ _ _ _ _ hP hD hS _ (lv_sub hl [1, 2, 3, 0] rfl) hf
  rw [f_Q_takes] at hf
  refine lv_aload_n hx hb d_Q_takes_0 rfl (lv_at hl 0 rfl) ?_
  refine va_get (D := D) (ci := 7) (v := .ref aQ_order) (C := RR_Q) (T := FF_Q) (N := 41) hx hb hts kin_Q hown hK.1 hP 0 rfl rfl 35 (by decide) (hts _ k4_102) (fun _ h9 => h9) rfl d_Q_takes_1 ?_
  refine lv_aload_n hx hb d_Q_takes_4 rfl (lv_at hl 0 rfl) ?_
  refine va_get (D := D) (ci := 7) (v := .ref aQ_looked) (C := RR_Q) (T := FF_Q) (N := 41) hx hb hts kin_Q hown hK.1 hP 0 rfl rfl 31 (by decide) (hts _ k4_98) (fun _ h9 => h9) rfl d_Q_takes_5 ?_
  refine lv_iload_n hx hb d_Q_takes_8 rfl (lv_at hl 1 rfl) ?_
  obtain ⟨h1, hf⟩ := of_gd hf
  refine va_iald hx hb hK.1 hP 21 0 rfl rfl (ixb_in h1) d_Q_takes_9 ?_
  obtain ⟨h2, hf⟩ := of_gd hf
  refine va_iald hx hb hK.1 hP 23 0 rfl rfl (ixb_in h2) d_Q_takes_10 ?_
  refine lv_topi (fun x3 ex3 => ?_)
  have hf := of_nm ex3 hf
  refine lv_istore_n (lv' := [(2, .int x3), (0, .ref aQ), (1, .int p0)]) hx hb d_Q_takes_11 rfl hl (by decide) rfl (fun ls hl => ?_)
  refine lv_aload_n hx hb d_Q_takes_12 rfl (lv_at hl 1 rfl) ?_
  refine lv_dup hx hb d_Q_takes_13 rfl ?_
  refine va_get (D := D) (ci := 7) (v := .int Q_tries) (C := RR_Q) (T := FF_Q) (N := 41) hx hb hts kin_Q hown hK.1 hP 0 rfl rfl 36 (by decide) (hts _ k4_103) (fun _ h9 => h9) rfl d_Q_takes_14 ?_
  refine lv_iconst (v := 1) hx hb d_Q_takes_17 (by decide) ?_
  refine lv_iadd hx hb d_Q_takes_18 ?_
  refine lv_topi (fun x4 ex4 => ?_)
  have hf := of_nm ex4 hf
  refine va_put (D := D) (ci := 7) (v := .int x4) (ty := .int) (C := RR_Q) (T := FF_Q) (N := 41) hx hb hts kin_Q TT_Q tok_Q nok_Q hown hK.1 hP hD hS 0 rfl rfl 36 (by decide) (hts _ k4_103) (fun _ h9 => h9) rfl (by decide +kernel) rfl rfl (Nat.le_of_ble_eq_true rfl) d_Q_takes_19 (fun H locs hP hD hS => ?_)
  have hP : va_P D vwCl (wv_67 cI cJ cZ aQ aQ_kinds aQ_which aQ_firsts aQ_seconds aQ_thirds aQ_nexts aQ_heads aQ_names aQ_variables aQ_holes aQ_sizes aQ_places aQ_conclusions aQ_premises aQ_counts aQ_hitOf aQ_hitOne aQ_hitTwo aQ_hitTerms aQ_image aQ_bound aQ_waits aQ_waitsFor aQ_seen aQ_goals aQ_steps aQ_looked aQ_under aQ_taken aQ_news aQ_order aQ_there aQ_back Q_thrown Q_all Q_statements Q_hitKind Q_hits x4 Q_takenAll Q_takenFirst Q_kinds Q_which Q_firsts Q_seconds Q_thirds Q_nexts Q_heads Q_names Q_variables Q_holes Q_sizes Q_places Q_conclusions Q_premises Q_counts Q_image Q_bound Q_waits Q_waitsFor Q_goals Q_looked Q_news Q_order) H := hP
  have hD : va_D A (wv_67 cI cJ cZ aQ aQ_kinds aQ_which aQ_firsts aQ_seconds aQ_thirds aQ_nexts aQ_heads aQ_names aQ_variables aQ_holes aQ_sizes aQ_places aQ_conclusions aQ_premises aQ_counts aQ_hitOf aQ_hitOne aQ_hitTwo aQ_hitTerms aQ_image aQ_bound aQ_waits aQ_waitsFor aQ_seen aQ_goals aQ_steps aQ_looked aQ_under aQ_taken aQ_news aQ_order aQ_there aQ_back Q_thrown Q_all Q_statements Q_hitKind Q_hits x4 Q_takenAll Q_takenFirst Q_kinds Q_which Q_firsts Q_seconds Q_thirds Q_nexts Q_heads Q_names Q_variables Q_holes Q_sizes Q_places Q_conclusions Q_premises Q_counts Q_image Q_bound Q_waits Q_waitsFor Q_goals Q_looked Q_news Q_order) := hD
  refine lv_aload_n hx hb d_Q_takes_22 rfl (lv_at hl 1 rfl) ?_
  refine lv_iload_n hx hb d_Q_takes_23 rfl (lv_at hl 0 rfl) ?_
  obtain ⟨r5, hr5, hf⟩ := of_bd hf
  refine rd_call (va_runV (As := [.int x3]) (rest := []) ⟨hx, hb, hml, hown, hts⟩ (c_Q_open l D cI cJ cZ aQ aQ_kinds aQ_which aQ_firsts aQ_seconds aQ_thirds aQ_nexts aQ_heads aQ_names aQ_variables aQ_holes aQ_sizes aQ_places aQ_conclusions aQ_premises aQ_counts aQ_hitOf aQ_hitOne aQ_hitTwo aQ_hitTerms aQ_image aQ_bound aQ_waits aQ_waitsFor aQ_seen aQ_goals aQ_steps aQ_looked aQ_under aQ_taken aQ_news aQ_order aQ_there aQ_back Q_thrown Q_all Q_statements Q_hitKind Q_hits x4 Q_takenAll Q_takenFirst Q_variables Q_conclusions Q_premises Q_counts x3 r5 hr5) (bigV 1 hts k5_31 k5_33 ks_Q_open k1_9 k5_34 rfl rfl hd_Q_open ⟨Nat.le_of_ble_eq_true rfl, Nat.le_of_ble_eq_true rfl⟩) (rd_preV hK hP [0, 9, 13, 14, 15] rfl 0 rfl rfl rfl) rfl rfl hl.1 rfl (lv_room (Nat.le_of_ble_eq_true rfl)) d_Q_takes_24 ⟨Nat.le_of_ble_eq_true rfl, Nat.le_of_ble_eq_true rfl⟩) ?_
  refine lv_if_ne (tgt := 50) hx hb d_Q_takes_27 (by decide) (fun c6 => ?_) (fun c6 => ?_)
  · have hf := ite_f c6 hf
    refine lv_iconst (v := 0) hx hb d_Q_takes_50 (by decide) ?_
    obtain rfl := Option.some.inj hf
    exact W.zret (v := (0 : Int32)) hx hb hr rfl (fun t ht hW => ⟨rfl, by rw [ht]; exact hP, hD, hS.F ht⟩) hS.2.2 d_Q_takes_51
  · have hf := ite_t c6 hf
    refine lv_aload_n hx hb d_Q_takes_30 rfl (lv_at hl 1 rfl) ?_
    refine lv_aload_n hx hb d_Q_takes_31 rfl (lv_at hl 1 rfl) ?_
    refine va_get (D := D) (ci := 7) (v := .ref aQ_conclusions) (C := RR_Q) (T := FF_Q) (N := 41) hx hb hts kin_Q hown hK.1 hP 0 rfl rfl 14 (by decide) (hts _ k4_81) (fun _ h9 => h9) rfl d_Q_takes_32 ?_
    refine lv_iload_n hx hb d_Q_takes_35 rfl (lv_at hl 0 rfl) ?_
    obtain ⟨h7, hf⟩ := of_gd hf
    refine va_iald hx hb hK.1 hP 13 0 rfl rfl (ixb_in h7) d_Q_takes_36 ?_
    refine lv_aload_n hx hb d_Q_takes_37 rfl (lv_at hl 1 rfl) ?_
    refine va_get (D := D) (ci := 7) (v := .ref aQ_goals) (C := RR_Q) (T := FF_Q) (N := 41) hx hb hts kin_Q hown hK.1 hP 0 rfl rfl 29 (by decide) (hts _ k4_96) (fun _ h9 => h9) rfl d_Q_takes_38 ?_
    refine lv_iload_n hx hb d_Q_takes_41 rfl (lv_at hl 2 rfl) ?_
    obtain ⟨h8, hf⟩ := of_gd hf
    refine va_iald hx hb hK.1 hP 20 0 rfl rfl (ixb_in h8) d_Q_takes_42 ?_
    refine lv_iconst (v := 0) hx hb d_Q_takes_43 (by decide) ?_
    obtain ⟨r9, hr9, hf⟩ := of_bd hf
    refine wr_call (ws' := (wv_67 cI cJ cZ aQ aQ_kinds aQ_which aQ_firsts aQ_seconds aQ_thirds aQ_nexts aQ_heads aQ_names aQ_variables aQ_holes aQ_sizes aQ_places aQ_conclusions aQ_premises aQ_counts aQ_hitOf aQ_hitOne aQ_hitTwo aQ_hitTerms aQ_image aQ_bound aQ_waits aQ_waitsFor aQ_seen aQ_goals aQ_steps aQ_looked aQ_under aQ_taken aQ_news aQ_order aQ_there aQ_back Q_thrown Q_all Q_statements Q_hitKind Q_hits x4 Q_takenAll Q_takenFirst Q_kinds Q_which Q_firsts Q_seconds Q_thirds Q_nexts Q_heads Q_names Q_variables Q_holes Q_sizes Q_places Q_conclusions Q_premises Q_counts r9.2.1 r9.2.2.1 r9.2.2.2.1 r9.2.2.2.2 Q_goals Q_looked Q_news Q_order)) (va_runV (As := [.int (Q_conclusions x3.toNatClampNeg), .int (Q_goals p0.toNatClampNeg), .int (0 : Int32)]) (rest := []) ⟨hx, hb, hml, hown, hts⟩ (c_Q_matches l D cI cJ cZ aQ aQ_kinds aQ_which aQ_firsts aQ_seconds aQ_thirds aQ_nexts aQ_heads aQ_names aQ_variables aQ_holes aQ_sizes aQ_places aQ_conclusions aQ_premises aQ_counts aQ_hitOf aQ_hitOne aQ_hitTwo aQ_hitTerms aQ_image aQ_bound aQ_waits aQ_waitsFor aQ_seen aQ_goals aQ_steps aQ_looked aQ_under aQ_taken aQ_news aQ_order aQ_there aQ_back _ Q_thrown Q_all Q_statements Q_hitKind Q_hits x4 Q_takenAll Q_takenFirst Q_kinds Q_which Q_firsts Q_seconds Q_thirds Q_variables Q_holes Q_places Q_image Q_bound Q_waits Q_waitsFor (Q_conclusions x3.toNatClampNeg) (Q_goals p0.toNatClampNeg) (0 : Int32) r9 hr9) (bigV 3 hts k5_11 k5_13 ks_Q_matches k1_9 k5_14 rfl rfl hd_Q_matches ⟨Nat.le_of_ble_eq_true rfl, Nat.le_of_ble_eq_true rfl⟩) (wr_preV hK hP hD [0, 1, 2, 3, 4, 5, 9, 10, 12, 16, 17, 18, 19] rfl (by decide) rfl 0 rfl rfl rfl) rfl rfl hl.1 rfl (lv_room (Nat.le_of_ble_eq_true rfl)) d_Q_takes_44 ⟨Nat.le_of_ble_eq_true rfl, Nat.le_of_ble_eq_true rfl⟩) hP hD hS hA [0, 1, 2, 3, 4, 5, 9, 10, 12, 16, 17, 18, 19] [6, 7, 8, 11, 13, 14, 15, 20, 21, 22, 23] rfl rfl (by decide) (by decide) [11, 12, 13, 14, 15, 16, 0, 1, 2, 17, 18, 3, 19, 4, 5, 6, 20, 21, 22, 23, 7, 8, 9, 10] (by decide) rfl (fun H locs hP hD hS => ?_)
    refine lv_if_ne (tgt := 52) hx hb d_Q_takes_47 (by decide) (fun c10 => ?_) (fun c10 => ?_)
    · have hf := ite_f c10 hf
      refine lv_iconst (v := 0) hx hb d_Q_takes_52 (by decide) ?_
      refine lv_istore_n (lv' := [(3, .int (0 : Int32)), (2, .int x3), (0, .ref aQ), (1, .int p0)]) hx hb d_Q_takes_53 rfl hl (by decide) rfl (fun ls hl => ?_)
      exact hL54 FU _ _ _ _ _ _ _ _ _ _ _ _ _ _ _ _ _ _ _ _ _ _ _ hP hD hS _ (lv_sub hl [2, 3, 1, 0] rfl) hf
    · have hf := ite_t c10 hf
      refine lv_iconst (v := 0) hx hb d_Q_takes_50 (by decide) ?_
      obtain rfl := Option.some.inj hf
      exact W.zret (v := (0 : Int32)) hx hb hr rfl (fun t ht hW => ⟨rfl, by rw [ht]; exact hP, hD, hS.F ht⟩) hS.2.2 d_Q_takes_51
def f_Q_tried (Q_thrown : Int32) (Q_tries : Int32) (Q_takenAll : Int32) (Q_takenFirst : Int32) (p0 : Int32) : Option (Int32 × Int32) :=
  if p0 = 0 then
    some (Q_tries, (0 : Int32))
  else
    if p0 = (1 : Int32) then
      some (Q_takenAll, (0 : Int32))
    else
      if p0 = (2 : Int32) then
        some (Q_takenFirst, (0 : Int32))
      else
        some ((-1 : Int32), (0 : Int32))
abbrev rm_Q_tried : Room := { frames := 0, cells := 0, slots := 0, locals := 0 }
set_option maxHeartbeats 4000000 in
set_option maxRecDepth 100000 in
theorem c_Q_tried (l : Launch) (D : va_G) (cI cJ cZ : ClassId) (aQ aQ_kinds aQ_which aQ_firsts aQ_seconds aQ_thirds aQ_nexts aQ_heads aQ_names aQ_variables aQ_holes aQ_sizes aQ_places aQ_conclusions aQ_premises aQ_counts aQ_hitOf aQ_hitOne aQ_hitTwo aQ_hitTerms aQ_image aQ_bound aQ_waits aQ_waitsFor aQ_seen aQ_goals aQ_steps aQ_looked aQ_under aQ_taken aQ_news aQ_order aQ_there aQ_back : Nat) (sz : Nat) (Q_thrown : Int32) (Q_all : Int32) (Q_statements : Int32) (Q_hitKind : Int32) (Q_hits : Int32) (Q_tries : Int32) (Q_takenAll : Int32) (Q_takenFirst : Int32) (p0 : Int32) (o : Int32 × Int32) (hf : f_Q_tried Q_thrown Q_tries Q_takenAll Q_takenFirst p0 = some o) : Met l y_Q_tried (ws_Q_tried) rm_Q_tried (WPc D vwCl cI cJ cZ [.ref aQ, .int p0] (wv_39 cI cJ cZ aQ aQ_kinds aQ_which aQ_firsts aQ_seconds aQ_thirds aQ_nexts aQ_heads aQ_names aQ_variables aQ_holes aQ_sizes aQ_places aQ_conclusions aQ_premises aQ_counts aQ_hitOf aQ_hitOne aQ_hitTwo aQ_hitTerms aQ_image aQ_bound aQ_waits aQ_waitsFor aQ_seen aQ_goals aQ_steps aQ_looked aQ_under aQ_taken aQ_news aQ_order aQ_there aQ_back Q_thrown Q_all Q_statements Q_hitKind Q_hits Q_tries Q_takenAll Q_takenFirst) sz) (WQ D vwCl (some (.int o.1)) (wv_39 cI cJ cZ aQ aQ_kinds aQ_which aQ_firsts aQ_seconds aQ_thirds aQ_nexts aQ_heads aQ_names aQ_variables aQ_holes aQ_sizes aQ_places aQ_conclusions aQ_premises aQ_counts aQ_hitOf aQ_hitOne aQ_hitTwo aQ_hitTerms aQ_image aQ_bound aQ_waits aQ_waitsFor aQ_seen aQ_goals aQ_steps aQ_looked aQ_under aQ_taken aQ_news aQ_order aQ_there aQ_back o.2 Q_all Q_statements Q_hitKind Q_hits Q_tries Q_takenAll Q_takenFirst) (va_A (wv_39 cI cJ cZ aQ aQ_kinds aQ_which aQ_firsts aQ_seconds aQ_thirds aQ_nexts aQ_heads aQ_names aQ_variables aQ_holes aQ_sizes aQ_places aQ_conclusions aQ_premises aQ_counts aQ_hitOf aQ_hitOne aQ_hitTwo aQ_hitTerms aQ_image aQ_bound aQ_waits aQ_waitsFor aQ_seen aQ_goals aQ_steps aQ_looked aQ_under aQ_taken aQ_news aQ_order aQ_there aQ_back Q_thrown Q_all Q_statements Q_hitKind Q_hits Q_tries Q_takenAll Q_takenFirst) sz)) 0 0 (va_A (wv_39 cI cJ cZ aQ aQ_kinds aQ_which aQ_firsts aQ_seconds aQ_thirds aQ_nexts aQ_heads aQ_names aQ_variables aQ_holes aQ_sizes aQ_places aQ_conclusions aQ_premises aQ_counts aQ_hitOf aQ_hitOne aQ_hitTwo aQ_hitTerms aQ_image aQ_bound aQ_waits aQ_waitsFor aQ_seen aQ_goals aQ_steps aQ_looked aQ_under aQ_taken aQ_news aQ_order aQ_there aQ_back Q_thrown Q_all Q_statements Q_hitKind Q_hits Q_tries Q_takenAll Q_takenFirst) sz) := by
  refine Met.ofW (cc := b_Q_tried) (maxL := 2) (ret := (some .int)) (by decide) rfl ?_
  intro p e s m args below meth c s₁ B hml hv
  obtain ⟨rfl, rfl, hP, hK, hD0⟩ := hv
  have hx := B.exec
  have hb := B.bytes
  have hr := B.returns
  have hts : ∀ w ∈ BG, w.before _ s = true := fun w h => atoms_spec (ws := (ws_Q_tried)) B.pre w (List.mem_cons_of_mem _ h)
  have hown : s.vm.findClass RR_Q = some m.cls := findClass_of_methodNamed B.named
  have hlocks := B.notSynchronized
  have hD := hD0.self (sz := s.heap.size)
  have hA : ∀ q : Nat, s.heap.size ≤ q → va_A (wv_39 cI cJ cZ aQ aQ_kinds aQ_which aQ_firsts aQ_seconds aQ_thirds aQ_nexts aQ_heads aQ_names aQ_variables aQ_holes aQ_sizes aQ_places aQ_conclusions aQ_premises aQ_counts aQ_hitOf aQ_hitOne aQ_hitTwo aQ_hitTerms aQ_image aQ_bound aQ_waits aQ_waitsFor aQ_seen aQ_goals aQ_steps aQ_looked aQ_under aQ_taken aQ_news aQ_order aQ_there aQ_back Q_thrown Q_all Q_statements Q_hitKind Q_hits Q_tries Q_takenAll Q_takenFirst) s.heap.size q := fun q h => Or.inr h
  have hS : va_S (va_A (wv_39 cI cJ cZ aQ aQ_kinds aQ_which aQ_firsts aQ_seconds aQ_thirds aQ_nexts aQ_heads aQ_names aQ_variables aQ_holes aQ_sizes aQ_places aQ_conclusions aQ_premises aQ_counts aQ_hitOf aQ_hitOne aQ_hitTwo aQ_hitTerms aQ_image aQ_bound aQ_waits aQ_waitsFor aQ_seen aQ_goals aQ_steps aQ_looked aQ_under aQ_taken aQ_news aQ_order aQ_there aQ_back Q_thrown Q_all Q_statements Q_hitKind Q_hits Q_tries Q_takenAll Q_takenFirst) s.heap.size) s.heap s.heap [] := va_S.rf
  generalize va_A (wv_39 cI cJ cZ aQ aQ_kinds aQ_which aQ_firsts aQ_seconds aQ_thirds aQ_nexts aQ_heads aQ_names aQ_variables aQ_holes aQ_sizes aQ_places aQ_conclusions aQ_premises aQ_counts aQ_hitOf aQ_hitOne aQ_hitTwo aQ_hitTerms aQ_image aQ_bound aQ_waits aQ_waitsFor aQ_seen aQ_goals aQ_steps aQ_looked aQ_under aQ_taken aQ_news aQ_order aQ_there aQ_back Q_thrown Q_all Q_statements Q_hitKind Q_hits Q_tries Q_takenAll Q_takenFirst) s.heap.size = A at hD hA hS ⊢
  have hl := lv_entry ([.ref aQ, .int p0]) (n := 2) (Nat.le_of_ble_eq_true rfl)
  rw [lg_entry_eq]
  generalize (lg_sl ([.ref aQ, .int p0]) ++ List.replicate (2 - (lg_sl ([.ref aQ, .int p0])).length) Slot.unset).toArray = ls at hl ⊢
  have hl : lv_has ls 2 [(0, .ref aQ), (1, .int p0)] := hl
  rw [f_Q_tried] at hf
  refine lv_aload_n hx hb d_Q_tried_0 rfl (lv_at hl 0 rfl) ?_
  refine lv_iconst (v := 0) hx hb d_Q_tried_1 (by decide) ?_
  refine va_put (D := D) (ci := 7) (v := .int (0 : Int32)) (ty := .int) (C := RR_Q) (T := FF_Q) (N := 41) hx hb hts kin_Q TT_Q tok_Q nok_Q hown hK.1 hP hD hS 0 rfl rfl 0 (by decide) (hts _ k4_67) (fun _ h9 => h9) rfl (by decide +kernel) rfl rfl (Nat.le_of_ble_eq_true rfl) d_Q_tried_2 (fun H locs hP hD hS => ?_)
  have hP : va_P D vwCl (wv_39 cI cJ cZ aQ aQ_kinds aQ_which aQ_firsts aQ_seconds aQ_thirds aQ_nexts aQ_heads aQ_names aQ_variables aQ_holes aQ_sizes aQ_places aQ_conclusions aQ_premises aQ_counts aQ_hitOf aQ_hitOne aQ_hitTwo aQ_hitTerms aQ_image aQ_bound aQ_waits aQ_waitsFor aQ_seen aQ_goals aQ_steps aQ_looked aQ_under aQ_taken aQ_news aQ_order aQ_there aQ_back (0 : Int32) Q_all Q_statements Q_hitKind Q_hits Q_tries Q_takenAll Q_takenFirst) H := hP
  have hD : va_D A (wv_39 cI cJ cZ aQ aQ_kinds aQ_which aQ_firsts aQ_seconds aQ_thirds aQ_nexts aQ_heads aQ_names aQ_variables aQ_holes aQ_sizes aQ_places aQ_conclusions aQ_premises aQ_counts aQ_hitOf aQ_hitOne aQ_hitTwo aQ_hitTerms aQ_image aQ_bound aQ_waits aQ_waitsFor aQ_seen aQ_goals aQ_steps aQ_looked aQ_under aQ_taken aQ_news aQ_order aQ_there aQ_back (0 : Int32) Q_all Q_statements Q_hitKind Q_hits Q_tries Q_takenAll Q_takenFirst) := hD
  refine lv_iload_n hx hb d_Q_tried_5 rfl (lv_at hl 1 rfl) ?_
  refine lv_if_ne (tgt := 16) hx hb d_Q_tried_6 (by decide) (fun c1 => ?_) (fun c1 => ?_)
  · have hf := ite_f c1 hf
    refine lv_iload_n hx hb d_Q_tried_16 rfl (lv_at hl 1 rfl) ?_
    refine lv_iconst (v := 1) hx hb d_Q_tried_17 (by decide) ?_
    refine lv_icmp_ne (tgt := 28) hx hb d_Q_tried_18 (by decide) (fun c2 => ?_) (fun c2 => ?_)
    · have hf := ite_f c2 hf
      refine lv_iload_n hx hb d_Q_tried_28 rfl (lv_at hl 1 rfl) ?_
      refine lv_iconst (v := 2) hx hb d_Q_tried_29 (by decide) ?_
      refine lv_icmp_ne (tgt := 40) hx hb d_Q_tried_30 (by decide) (fun c3 => ?_) (fun c3 => ?_)
      · have hf := ite_f c3 hf
        refine lv_iconst (v := -1) hx hb d_Q_tried_40 (by decide) ?_
        obtain rfl := Option.some.inj hf
        exact W.iret (v := (-1 : Int32)) hx hb hr (fun t ht hW => ⟨rfl, by rw [ht]; exact hP, hD, hS.F ht⟩) hS.2.2 d_Q_tried_41
      · have hf := ite_t c3 hf
        refine lv_aload_n hx hb d_Q_tried_33 rfl (lv_at hl 0 rfl) ?_
        refine va_get (D := D) (ci := 7) (v := .int Q_takenFirst) (C := RR_Q) (T := FF_Q) (N := 41) hx hb hts kin_Q hown hK.1 hP 0 rfl rfl 38 (by decide) (hts _ k4_105) (fun _ h9 => h9) rfl d_Q_tried_34 ?_
        refine lv_goto (tgt := 41) hx hb d_Q_tried_37 (by decide) ?_
        obtain rfl := Option.some.inj hf
        exact W.iret (v := Q_takenFirst) hx hb hr (fun t ht hW => ⟨rfl, by rw [ht]; exact hP, hD, hS.F ht⟩) hS.2.2 d_Q_tried_41
    · have hf := ite_t c2 hf
      refine lv_aload_n hx hb d_Q_tried_21 rfl (lv_at hl 0 rfl) ?_
      refine va_get (D := D) (ci := 7) (v := .int Q_takenAll) (C := RR_Q) (T := FF_Q) (N := 41) hx hb hts kin_Q hown hK.1 hP 0 rfl rfl 37 (by decide) (hts _ k4_104) (fun _ h9 => h9) rfl d_Q_tried_22 ?_
      refine lv_goto (tgt := 41) hx hb d_Q_tried_25 (by decide) ?_
      obtain rfl := Option.some.inj hf
      exact W.iret (v := Q_takenAll) hx hb hr (fun t ht hW => ⟨rfl, by rw [ht]; exact hP, hD, hS.F ht⟩) hS.2.2 d_Q_tried_41
  · have hf := ite_t c1 hf
    refine lv_aload_n hx hb d_Q_tried_9 rfl (lv_at hl 0 rfl) ?_
    refine va_get (D := D) (ci := 7) (v := .int Q_tries) (C := RR_Q) (T := FF_Q) (N := 41) hx hb hts kin_Q hown hK.1 hP 0 rfl rfl 36 (by decide) (hts _ k4_103) (fun _ h9 => h9) rfl d_Q_tried_10 ?_
    refine lv_goto (tgt := 41) hx hb d_Q_tried_13 (by decide) ?_
    obtain rfl := Option.some.inj hf
    exact W.iret (v := Q_tries) hx hb hr (fun t ht hW => ⟨rfl, by rw [ht]; exact hP, hD, hS.F ht⟩) hS.2.2 d_Q_tried_41
def f_Q_about_L9 (Q_all : Int32) (Q_statements : Int32) (Q_hits : Int32) (Q_places : (Nat → Int32)) : Nat → Int32 → Int32 → Int32 → Int32 → Option (Int32 × Int32)
  | 0, _, _, _, _ => none
  | n + 1, Q_thrown_9, x1_9, x2_9, x3_9 =>
    if (30 : Int32) ≤ x3_9 then
      if x1_9 = 0 then
        some (Q_all, Q_thrown_9)
      else
      if x1_9 = 1 then
        some (Q_statements, Q_thrown_9)
      else
      if x1_9 = 2 then
        some (x2_9, Q_thrown_9)
      else
      if x1_9 = 3 then
        some (Q_hits, Q_thrown_9)
      else
      some ((-1 : Int32), Q_thrown_9)
    else
      gd (ixb x3_9 30) <|
      if (Q_places x3_9.toNatClampNeg) = (-1 : Int32) then
        nm (x2_9 + (0 : Int32)) fun x10 =>
        nm (x3_9 + (1 : Int32)) fun x11 =>
        (f_Q_about_L9 Q_all Q_statements Q_hits Q_places n) Q_thrown_9 x1_9 x10 x11
      else
        nm (x2_9 + (1 : Int32)) fun x8 =>
        nm (x3_9 + (1 : Int32)) fun x9 =>
        (f_Q_about_L9 Q_all Q_statements Q_hits Q_places n) Q_thrown_9 x1_9 x8 x9
def f_Q_about (Q_thrown : Int32) (Q_all : Int32) (Q_statements : Int32) (Q_hits : Int32) (Q_places : (Nat → Int32)) (p0 : Int32) : Option (Int32 × Int32) :=
  f_Q_about_L9 Q_all Q_statements Q_hits Q_places FU (0 : Int32) p0 (0 : Int32) (0 : Int32)
abbrev rm_Q_about : Room := { frames := 0, cells := 0, slots := 0, locals := 0 }
set_option maxHeartbeats 4000000 in
set_option maxRecDepth 100000 in
theorem c_Q_about (l : Launch) (D : va_G) (cI cJ cZ : ClassId) (aQ aQ_kinds aQ_which aQ_firsts aQ_seconds aQ_thirds aQ_nexts aQ_heads aQ_names aQ_variables aQ_holes aQ_sizes aQ_places aQ_conclusions aQ_premises aQ_counts aQ_hitOf aQ_hitOne aQ_hitTwo aQ_hitTerms aQ_image aQ_bound aQ_waits aQ_waitsFor aQ_seen aQ_goals aQ_steps aQ_looked aQ_under aQ_taken aQ_news aQ_order aQ_there aQ_back : Nat) (sz : Nat) (Q_thrown : Int32) (Q_all : Int32) (Q_statements : Int32) (Q_hitKind : Int32) (Q_hits : Int32) (Q_tries : Int32) (Q_takenAll : Int32) (Q_takenFirst : Int32) (Q_places : (Nat → Int32)) (p0 : Int32) (o : Int32 × Int32) (hf : f_Q_about Q_thrown Q_all Q_statements Q_hits Q_places p0 = some o) : Met l y_Q_about (ws_Q_about) rm_Q_about (WPc D vwCl cI cJ cZ [.ref aQ, .int p0] (wv_68 cI cJ cZ aQ aQ_kinds aQ_which aQ_firsts aQ_seconds aQ_thirds aQ_nexts aQ_heads aQ_names aQ_variables aQ_holes aQ_sizes aQ_places aQ_conclusions aQ_premises aQ_counts aQ_hitOf aQ_hitOne aQ_hitTwo aQ_hitTerms aQ_image aQ_bound aQ_waits aQ_waitsFor aQ_seen aQ_goals aQ_steps aQ_looked aQ_under aQ_taken aQ_news aQ_order aQ_there aQ_back Q_thrown Q_all Q_statements Q_hitKind Q_hits Q_tries Q_takenAll Q_takenFirst Q_places) sz) (WQ D vwCl (some (.int o.1)) (wv_68 cI cJ cZ aQ aQ_kinds aQ_which aQ_firsts aQ_seconds aQ_thirds aQ_nexts aQ_heads aQ_names aQ_variables aQ_holes aQ_sizes aQ_places aQ_conclusions aQ_premises aQ_counts aQ_hitOf aQ_hitOne aQ_hitTwo aQ_hitTerms aQ_image aQ_bound aQ_waits aQ_waitsFor aQ_seen aQ_goals aQ_steps aQ_looked aQ_under aQ_taken aQ_news aQ_order aQ_there aQ_back o.2 Q_all Q_statements Q_hitKind Q_hits Q_tries Q_takenAll Q_takenFirst Q_places) (va_A (wv_68 cI cJ cZ aQ aQ_kinds aQ_which aQ_firsts aQ_seconds aQ_thirds aQ_nexts aQ_heads aQ_names aQ_variables aQ_holes aQ_sizes aQ_places aQ_conclusions aQ_premises aQ_counts aQ_hitOf aQ_hitOne aQ_hitTwo aQ_hitTerms aQ_image aQ_bound aQ_waits aQ_waitsFor aQ_seen aQ_goals aQ_steps aQ_looked aQ_under aQ_taken aQ_news aQ_order aQ_there aQ_back Q_thrown Q_all Q_statements Q_hitKind Q_hits Q_tries Q_takenAll Q_takenFirst Q_places) sz)) 0 0 (va_A (wv_68 cI cJ cZ aQ aQ_kinds aQ_which aQ_firsts aQ_seconds aQ_thirds aQ_nexts aQ_heads aQ_names aQ_variables aQ_holes aQ_sizes aQ_places aQ_conclusions aQ_premises aQ_counts aQ_hitOf aQ_hitOne aQ_hitTwo aQ_hitTerms aQ_image aQ_bound aQ_waits aQ_waitsFor aQ_seen aQ_goals aQ_steps aQ_looked aQ_under aQ_taken aQ_news aQ_order aQ_there aQ_back Q_thrown Q_all Q_statements Q_hitKind Q_hits Q_tries Q_takenAll Q_takenFirst Q_places) sz) := by
  refine Met.ofW (cc := b_Q_about) (maxL := 4) (ret := (some .int)) (by decide) rfl ?_
  intro p e s m args below meth c s₁ B hml hv
  obtain ⟨rfl, rfl, hP, hK, hD0⟩ := hv
  have hx := B.exec
  have hb := B.bytes
  have hr := B.returns
  have hts : ∀ w ∈ BG, w.before _ s = true := fun w h => atoms_spec (ws := (ws_Q_about)) B.pre w (List.mem_cons_of_mem _ h)
  have hown : s.vm.findClass RR_Q = some m.cls := findClass_of_methodNamed B.named
  have hlocks := B.notSynchronized
  have hD := hD0.self (sz := s.heap.size)
  have hA : ∀ q : Nat, s.heap.size ≤ q → va_A (wv_68 cI cJ cZ aQ aQ_kinds aQ_which aQ_firsts aQ_seconds aQ_thirds aQ_nexts aQ_heads aQ_names aQ_variables aQ_holes aQ_sizes aQ_places aQ_conclusions aQ_premises aQ_counts aQ_hitOf aQ_hitOne aQ_hitTwo aQ_hitTerms aQ_image aQ_bound aQ_waits aQ_waitsFor aQ_seen aQ_goals aQ_steps aQ_looked aQ_under aQ_taken aQ_news aQ_order aQ_there aQ_back Q_thrown Q_all Q_statements Q_hitKind Q_hits Q_tries Q_takenAll Q_takenFirst Q_places) s.heap.size q := fun q h => Or.inr h
  have hS : va_S (va_A (wv_68 cI cJ cZ aQ aQ_kinds aQ_which aQ_firsts aQ_seconds aQ_thirds aQ_nexts aQ_heads aQ_names aQ_variables aQ_holes aQ_sizes aQ_places aQ_conclusions aQ_premises aQ_counts aQ_hitOf aQ_hitOne aQ_hitTwo aQ_hitTerms aQ_image aQ_bound aQ_waits aQ_waitsFor aQ_seen aQ_goals aQ_steps aQ_looked aQ_under aQ_taken aQ_news aQ_order aQ_there aQ_back Q_thrown Q_all Q_statements Q_hitKind Q_hits Q_tries Q_takenAll Q_takenFirst Q_places) s.heap.size) s.heap s.heap [] := va_S.rf
  generalize va_A (wv_68 cI cJ cZ aQ aQ_kinds aQ_which aQ_firsts aQ_seconds aQ_thirds aQ_nexts aQ_heads aQ_names aQ_variables aQ_holes aQ_sizes aQ_places aQ_conclusions aQ_premises aQ_counts aQ_hitOf aQ_hitOne aQ_hitTwo aQ_hitTerms aQ_image aQ_bound aQ_waits aQ_waitsFor aQ_seen aQ_goals aQ_steps aQ_looked aQ_under aQ_taken aQ_news aQ_order aQ_there aQ_back Q_thrown Q_all Q_statements Q_hitKind Q_hits Q_tries Q_takenAll Q_takenFirst Q_places) s.heap.size = A at hD hA hS ⊢
  have hl := lv_entry ([.ref aQ, .int p0]) (n := 4) (Nat.le_of_ble_eq_true rfl)
  rw [lg_entry_eq]
  generalize (lg_sl ([.ref aQ, .int p0]) ++ List.replicate (4 - (lg_sl ([.ref aQ, .int p0])).length) Slot.unset).toArray = ls at hl ⊢
  have hl : lv_has ls 4 [(0, .ref aQ), (1, .int p0)] := hl
  have hL9 : ∀ (n9 : Nat), ∀ (Q_thrown_9 : Int32) (x1_9 : Int32) (x2_9 : Int32) (x3_9 : Int32), ∀ (H : Heap) (locs : List Loc), va_P D vwCl (wv_68 cI cJ cZ aQ aQ_kinds aQ_which aQ_firsts aQ_seconds aQ_thirds aQ_nexts aQ_heads aQ_names aQ_variables aQ_holes aQ_sizes aQ_places aQ_conclusions aQ_premises aQ_counts aQ_hitOf aQ_hitOne aQ_hitTwo aQ_hitTerms aQ_image aQ_bound aQ_waits aQ_waitsFor aQ_seen aQ_goals aQ_steps aQ_looked aQ_under aQ_taken aQ_news aQ_order aQ_there aQ_back Q_thrown_9 Q_all Q_statements Q_hitKind Q_hits Q_tries Q_takenAll Q_takenFirst Q_places) H → va_D A (wv_68 cI cJ cZ aQ aQ_kinds aQ_which aQ_firsts aQ_seconds aQ_thirds aQ_nexts aQ_heads aQ_names aQ_variables aQ_holes aQ_sizes aQ_places aQ_conclusions aQ_premises aQ_counts aQ_hitOf aQ_hitOne aQ_hitTwo aQ_hitTerms aQ_image aQ_bound aQ_waits aQ_waitsFor aQ_seen aQ_goals aQ_steps aQ_looked aQ_under aQ_taken aQ_news aQ_order aQ_there aQ_back Q_thrown_9 Q_all Q_statements Q_hitKind Q_hits Q_tries Q_takenAll Q_takenFirst Q_places) → va_S A s.heap H locs → ∀ (ls : Array Slot), lv_has ls 4 [(0, .ref aQ), (1, .int x1_9), (2, .int x2_9), (3, .int x3_9)] → f_Q_about_L9 Q_all Q_statements Q_hits Q_places n9 Q_thrown_9 x1_9 x2_9 x3_9 = some o → W p l e (headSpec (ws_Q_about) rm_Q_about).room s m ([.ref aQ, .int p0] : List Value).toArray below meth c H locs 0 0 (MQ below (WQ D vwCl (some (.int o.1)) (wv_68 cI cJ cZ aQ aQ_kinds aQ_which aQ_firsts aQ_seconds aQ_thirds aQ_nexts aQ_heads aQ_names aQ_variables aQ_holes aQ_sizes aQ_places aQ_conclusions aQ_premises aQ_counts aQ_hitOf aQ_hitOne aQ_hitTwo aQ_hitTerms aQ_image aQ_bound aQ_waits aQ_waitsFor aQ_seen aQ_goals aQ_steps aQ_looked aQ_under aQ_taken aQ_news aQ_order aQ_there aQ_back o.2 Q_all Q_statements Q_hitKind Q_hits Q_tries Q_takenAll Q_takenFirst Q_places) A) ([.ref aQ, .int p0] : List Value).toArray s 0 0 A) (F0 m 9 ls []) := by
    intro n9
    induction n9 with
    | zero =>
      intro Q_thrown_9 x1_9 x2_9 x3_9 H locs hP hD hS ls hl hf
      rw [f_Q_about_L9] at hf
      cases hf
    | succ n9 ih9 =>
      intro Q_thrown_9 x1_9 x2_9 x3_9 H locs hP hD hS ls hl hf
      rw [f_Q_about_L9] at hf
      refine lv_iload_n hx hb d_Q_about_9 rfl (lv_at hl 3 rfl) ?_
      refine lv_bipush (v := 30) hx hb d_Q_about_10 (by decide) ?_
      refine lv_icmp_ge (tgt := 39) hx hb d_Q_about_12 (by decide) (fun c1 => ?_) (fun c1 => ?_)
      · have hf := ite_t c1 hf
        refine lv_iload_n hx hb d_Q_about_39 rfl (lv_at hl 1 rfl) ?_
        by_cases c2 : x1_9 = 0
        · have hf := ite_t c2 hf
          refine lv_tableIn (tgt := 72) hx hb d_Q_about_40 (by rw [c2]; decide) (by rw [c2]; decide) (by rw [c2]; rfl) (by decide) ?_
          refine lv_aload_n hx hb d_Q_about_72 rfl (lv_at hl 0 rfl) ?_
          refine va_get (D := D) (ci := 7) (v := .int Q_all) (C := RR_Q) (T := FF_Q) (N := 41) hx hb hts kin_Q hown hK.1 hP 0 rfl rfl 8 (by decide) (hts _ k4_75) (fun _ h9 => h9) rfl d_Q_about_73 ?_
          obtain rfl := Option.some.inj hf
          exact W.iret (v := Q_all) hx hb hr (fun t ht hW => ⟨rfl, by rw [ht]; exact hP, hD, hS.F ht⟩) hS.2.2 d_Q_about_76
        have hf := ite_f c2 hf
        by_cases c3 : x1_9 = 1
        · have hf := ite_t c3 hf
          refine lv_tableIn (tgt := 77) hx hb d_Q_about_40 (by rw [c3]; decide) (by rw [c3]; decide) (by rw [c3]; rfl) (by decide) ?_
          refine lv_aload_n hx hb d_Q_about_77 rfl (lv_at hl 0 rfl) ?_
          refine va_get (D := D) (ci := 7) (v := .int Q_statements) (C := RR_Q) (T := FF_Q) (N := 41) hx hb hts kin_Q hown hK.1 hP 0 rfl rfl 17 (by decide) (hts _ k4_84) (fun _ h9 => h9) rfl d_Q_about_78 ?_
          obtain rfl := Option.some.inj hf
          exact W.iret (v := Q_statements) hx hb hr (fun t ht hW => ⟨rfl, by rw [ht]; exact hP, hD, hS.F ht⟩) hS.2.2 d_Q_about_81
        have hf := ite_f c3 hf
        by_cases c4 : x1_9 = 2
        · have hf := ite_t c4 hf
          refine lv_tableIn (tgt := 82) hx hb d_Q_about_40 (by rw [c4]; decide) (by rw [c4]; decide) (by rw [c4]; rfl) (by decide) ?_
          refine lv_iload_n hx hb d_Q_about_82 rfl (lv_at hl 2 rfl) ?_
          obtain rfl := Option.some.inj hf
          exact W.iret (v := x2_9) hx hb hr (fun t ht hW => ⟨rfl, by rw [ht]; exact hP, hD, hS.F ht⟩) hS.2.2 d_Q_about_83
        have hf := ite_f c4 hf
        by_cases c5 : x1_9 = 3
        · have hf := ite_t c5 hf
          refine lv_tableIn (tgt := 84) hx hb d_Q_about_40 (by rw [c5]; decide) (by rw [c5]; decide) (by rw [c5]; rfl) (by decide) ?_
          refine lv_aload_n hx hb d_Q_about_84 rfl (lv_at hl 0 rfl) ?_
          refine va_get (D := D) (ci := 7) (v := .int Q_hits) (C := RR_Q) (T := FF_Q) (N := 41) hx hb hts kin_Q hown hK.1 hP 0 rfl rfl 19 (by decide) (hts _ k4_86) (fun _ h9 => h9) rfl d_Q_about_85 ?_
          obtain rfl := Option.some.inj hf
          exact W.iret (v := Q_hits) hx hb hr (fun t ht hW => ⟨rfl, by rw [ht]; exact hP, hD, hS.F ht⟩) hS.2.2 d_Q_about_88
        have hf := ite_f c5 hf
        have n40_0 := lv_neT c2 (a := 0) (by decide)
        have n40_1 := lv_neT c3 (a := 1) (by decide)
        have n40_2 := lv_neT c4 (a := 2) (by decide)
        have n40_3 := lv_neT c5 (a := 3) (by decide)
        refine lv_tableOut (tgt := 89) hx hb d_Q_about_40 (by omega) (by decide) ?_
        refine lv_iconst (v := -1) hx hb d_Q_about_89 (by decide) ?_
        obtain rfl := Option.some.inj hf
        exact W.iret (v := (-1 : Int32)) hx hb hr (fun t ht hW => ⟨rfl, by rw [ht]; exact hP, hD, hS.F ht⟩) hS.2.2 d_Q_about_90
      · have hf := ite_f c1 hf
        refine lv_iload_n hx hb d_Q_about_15 rfl (lv_at hl 2 rfl) ?_
        refine lv_aload_n hx hb d_Q_about_16 rfl (lv_at hl 0 rfl) ?_
        refine va_get (D := D) (ci := 7) (v := .ref aQ_places) (C := RR_Q) (T := FF_Q) (N := 41) hx hb hts kin_Q hown hK.1 hP 0 rfl rfl 13 (by decide) (hts _ k4_80) (fun _ h9 => h9) rfl d_Q_about_17 ?_
        refine lv_iload_n hx hb d_Q_about_20 rfl (lv_at hl 3 rfl) ?_
        obtain ⟨h6, hf⟩ := of_gd hf
        refine va_iald hx hb hK.1 hP 1 0 rfl rfl (ixb_in h6) d_Q_about_21 ?_
        refine lv_iconst (v := -1) hx hb d_Q_about_22 (by decide) ?_
        refine lv_icmp_ne (tgt := 30) hx hb d_Q_about_23 (by decide) (fun c7 => ?_) (fun c7 => ?_)
        · have hf := ite_f c7 hf
          refine lv_iconst (v := 1) hx hb d_Q_about_30 (by decide) ?_
          refine lv_iadd hx hb d_Q_about_31 ?_
          refine lv_topi (fun x8 ex8 => ?_)
          have hf := of_nm ex8 hf
          refine lv_istore_n (lv' := [(2, .int x8), (0, .ref aQ), (1, .int x1_9), (3, .int x3_9)]) hx hb d_Q_about_32 rfl hl (by decide) rfl (fun ls hl => ?_)
          obtain ⟨x9, ex9⟩ : ∃ y : Int32, y = x3_9 + (1 : Int32) := ⟨_, rfl⟩
          refine lv_iinc (v := x9) (lv' := [(3, .int x9), (2, .int x8), (0, .ref aQ), (1, .int x1_9)]) hx hb d_Q_about_33 hl (k := 3) rfl (by rw [ex9]; rfl) (by decide) rfl (fun ls hl => ?_)
          have hf := of_nm ex9 hf
          refine lv_goto (tgt := 9) hx hb d_Q_about_36 (by decide) ?_
          exact ih9 _ _ _ _ _ _ hP hD hS _ (lv_sub hl [2, 3, 1, 0] rfl) hf
        · have hf := ite_t c7 hf
          refine lv_iconst (v := 0) hx hb d_Q_about_26 (by decide) ?_
          refine lv_goto (tgt := 31) hx hb d_Q_about_27 (by decide) ?_
          refine lv_iadd hx hb d_Q_about_31 ?_
          refine lv_topi (fun x10 ex10 => ?_)
          have hf := of_nm ex10 hf
          refine lv_istore_n (lv' := [(2, .int x10), (0, .ref aQ), (1, .int x1_9), (3, .int x3_9)]) hx hb d_Q_about_32 rfl hl (by decide) rfl (fun ls hl => ?_)
          obtain ⟨x11, ex11⟩ : ∃ y : Int32, y = x3_9 + (1 : Int32) := ⟨_, rfl⟩
          refine lv_iinc (v := x11) (lv' := [(3, .int x11), (2, .int x10), (0, .ref aQ), (1, .int x1_9)]) hx hb d_Q_about_33 hl (k := 3) rfl (by rw [ex11]; rfl) (by decide) rfl (fun ls hl => ?_)
          have hf := of_nm ex11 hf
          refine lv_goto (tgt := 9) hx hb d_Q_about_36 (by decide) ?_
          exact ih9 _ _ _ _ _ _ hP hD hS _ (lv_sub hl [2, 3, 1, 0] rfl) hf
  rw [f_Q_about] at hf
  refine lv_aload_n hx hb d_Q_about_0 rfl (lv_at hl 0 rfl) ?_
  refine lv_iconst (v := 0) hx hb d_Q_about_1 (by decide) ?_
  refine va_put (D := D) (ci := 7) (v := .int (0 : Int32)) (ty := .int) (C := RR_Q) (T := FF_Q) (N := 41) hx hb hts kin_Q TT_Q tok_Q nok_Q hown hK.1 hP hD hS 0 rfl rfl 0 (by decide) (hts _ k4_67) (fun _ h9 => h9) rfl (by decide +kernel) rfl rfl (Nat.le_of_ble_eq_true rfl) d_Q_about_2 (fun H locs hP hD hS => ?_)
  have hP : va_P D vwCl (wv_68 cI cJ cZ aQ aQ_kinds aQ_which aQ_firsts aQ_seconds aQ_thirds aQ_nexts aQ_heads aQ_names aQ_variables aQ_holes aQ_sizes aQ_places aQ_conclusions aQ_premises aQ_counts aQ_hitOf aQ_hitOne aQ_hitTwo aQ_hitTerms aQ_image aQ_bound aQ_waits aQ_waitsFor aQ_seen aQ_goals aQ_steps aQ_looked aQ_under aQ_taken aQ_news aQ_order aQ_there aQ_back (0 : Int32) Q_all Q_statements Q_hitKind Q_hits Q_tries Q_takenAll Q_takenFirst Q_places) H := hP
  have hD : va_D A (wv_68 cI cJ cZ aQ aQ_kinds aQ_which aQ_firsts aQ_seconds aQ_thirds aQ_nexts aQ_heads aQ_names aQ_variables aQ_holes aQ_sizes aQ_places aQ_conclusions aQ_premises aQ_counts aQ_hitOf aQ_hitOne aQ_hitTwo aQ_hitTerms aQ_image aQ_bound aQ_waits aQ_waitsFor aQ_seen aQ_goals aQ_steps aQ_looked aQ_under aQ_taken aQ_news aQ_order aQ_there aQ_back (0 : Int32) Q_all Q_statements Q_hitKind Q_hits Q_tries Q_takenAll Q_takenFirst Q_places) := hD
  refine lv_iconst (v := 0) hx hb d_Q_about_5 (by decide) ?_
  refine lv_istore_n (lv' := [(2, .int (0 : Int32)), (0, .ref aQ), (1, .int p0)]) hx hb d_Q_about_6 rfl hl (by decide) rfl (fun ls hl => ?_)
  refine lv_iconst (v := 0) hx hb d_Q_about_7 (by decide) ?_
  refine lv_istore_n (lv' := [(3, .int (0 : Int32)), (2, .int (0 : Int32)), (0, .ref aQ), (1, .int p0)]) hx hb d_Q_about_8 rfl hl (by decide) rfl (fun ls hl => ?_)
  exact hL9 FU _ _ _ _ _ _ hP hD hS _ (lv_sub hl [2, 3, 1, 0] rfl) hf
