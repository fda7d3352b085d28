abbrev b_Q_matches : ByteArray := prog_9_method_19_code
abbrev y_Q_matches : MethodName := ⟨"ShapeSearchModel", "matches", "(IIZ)Z"⟩
abbrev ws_Q_matches : List Cond := .code y_Q_matches b_Q_matches 8 (some .boolean) :: BG
theorem hd_Q_matches : y_Q_matches.cls ≠ "java/lang/invoke/MethodHandle" ∧ y_Q_matches.cls ≠ "java/lang/invoke/VarHandle" ∧ (parseMethodDescriptor y_Q_matches.desc).map (fun d => d.parameters.length) = some 3 := by decide +kernel
theorem d_Q_matches_0 : decode b_Q_matches 0 = .ok (.iconst 0, 1) := by decide +kernel
theorem d_Q_matches_1 : decode b_Q_matches 1 = .ok (.istore 4, 2) := by decide +kernel
theorem d_Q_matches_3 : decode b_Q_matches 3 = .ok (.iload 4, 2) := by decide +kernel
theorem d_Q_matches_5 : decode b_Q_matches 5 = .ok (.bipush 8, 2) := by decide +kernel
theorem d_Q_matches_7 : decode b_Q_matches 7 = .ok (.if_icmp .ge 17, 3) := by decide +kernel
theorem d_Q_matches_10 : decode b_Q_matches 10 = .ok (.aload_n 0, 1) := by decide +kernel
theorem d_Q_matches_11 : decode b_Q_matches 11 = .ok (.getfield 71, 3) := by decide +kernel
theorem d_Q_matches_14 : decode b_Q_matches 14 = .ok (.iload 4, 2) := by decide +kernel
theorem d_Q_matches_16 : decode b_Q_matches 16 = .ok (.iconst (-1), 1) := by decide +kernel
theorem d_Q_matches_17 : decode b_Q_matches 17 = .ok (.iastore, 1) := by decide +kernel
theorem d_Q_matches_18 : decode b_Q_matches 18 = .ok (.iinc 4 1, 3) := by decide +kernel
theorem d_Q_matches_21 : decode b_Q_matches 21 = .ok (.goto (-18), 3) := by decide +kernel
theorem d_Q_matches_24 : decode b_Q_matches 24 = .ok (.iconst 0, 1) := by decide +kernel
theorem d_Q_matches_25 : decode b_Q_matches 25 = .ok (.istore 4, 2) := by decide +kernel
theorem d_Q_matches_27 : decode b_Q_matches 27 = .ok (.iload 4, 2) := by decide +kernel
theorem d_Q_matches_29 : decode b_Q_matches 29 = .ok (.bipush 100, 2) := by decide +kernel
theorem d_Q_matches_31 : decode b_Q_matches 31 = .ok (.if_icmp .ge 17, 3) := by decide +kernel
theorem d_Q_matches_34 : decode b_Q_matches 34 = .ok (.aload_n 0, 1) := by decide +kernel
theorem d_Q_matches_35 : decode b_Q_matches 35 = .ok (.getfield 68, 3) := by decide +kernel
theorem d_Q_matches_38 : decode b_Q_matches 38 = .ok (.iload 4, 2) := by decide +kernel
theorem d_Q_matches_40 : decode b_Q_matches 40 = .ok (.iconst (-1), 1) := by decide +kernel
theorem d_Q_matches_41 : decode b_Q_matches 41 = .ok (.iastore, 1) := by decide +kernel
theorem d_Q_matches_42 : decode b_Q_matches 42 = .ok (.iinc 4 1, 3) := by decide +kernel
theorem d_Q_matches_45 : decode b_Q_matches 45 = .ok (.goto (-18), 3) := by decide +kernel
theorem d_Q_matches_48 : decode b_Q_matches 48 = .ok (.iconst 1, 1) := by decide +kernel
theorem d_Q_matches_49 : decode b_Q_matches 49 = .ok (.istore 4, 2) := by decide +kernel
theorem d_Q_matches_51 : decode b_Q_matches 51 = .ok (.aload_n 0, 1) := by decide +kernel
theorem d_Q_matches_52 : decode b_Q_matches 52 = .ok (.getfield 74, 3) := by decide +kernel
theorem d_Q_matches_55 : decode b_Q_matches 55 = .ok (.iconst 0, 1) := by decide +kernel
theorem d_Q_matches_56 : decode b_Q_matches 56 = .ok (.iload_n 1, 1) := by decide +kernel
theorem d_Q_matches_57 : decode b_Q_matches 57 = .ok (.iastore, 1) := by decide +kernel
theorem d_Q_matches_58 : decode b_Q_matches 58 = .ok (.aload_n 0, 1) := by decide +kernel
theorem d_Q_matches_59 : decode b_Q_matches 59 = .ok (.getfield 77, 3) := by decide +kernel
theorem d_Q_matches_62 : decode b_Q_matches 62 = .ok (.iconst 0, 1) := by decide +kernel
theorem d_Q_matches_63 : decode b_Q_matches 63 = .ok (.iload_n 2, 1) := by decide +kernel
theorem d_Q_matches_64 : decode b_Q_matches 64 = .ok (.iastore, 1) := by decide +kernel
theorem d_Q_matches_65 : decode b_Q_matches 65 = .ok (.iload 4, 2) := by decide +kernel
theorem d_Q_matches_67 : decode b_Q_matches 67 = .ok (.ifCond .le 218, 3) := by decide +kernel
theorem d_Q_matches_70 : decode b_Q_matches 70 = .ok (.iinc 4 (-1), 3) := by decide +kernel
theorem d_Q_matches_73 : decode b_Q_matches 73 = .ok (.aload_n 0, 1) := by decide +kernel
theorem d_Q_matches_74 : decode b_Q_matches 74 = .ok (.getfield 74, 3) := by decide +kernel
theorem d_Q_matches_77 : decode b_Q_matches 77 = .ok (.iload 4, 2) := by decide +kernel
theorem d_Q_matches_79 : decode b_Q_matches 79 = .ok (.iaload, 1) := by decide +kernel
theorem d_Q_matches_80 : decode b_Q_matches 80 = .ok (.istore 5, 2) := by decide +kernel
theorem d_Q_matches_82 : decode b_Q_matches 82 = .ok (.aload_n 0, 1) := by decide +kernel
theorem d_Q_matches_83 : decode b_Q_matches 83 = .ok (.getfield 77, 3) := by decide +kernel
theorem d_Q_matches_86 : decode b_Q_matches 86 = .ok (.iload 4, 2) := by decide +kernel
theorem d_Q_matches_88 : decode b_Q_matches 88 = .ok (.iaload, 1) := by decide +kernel
theorem d_Q_matches_89 : decode b_Q_matches 89 = .ok (.istore 6, 2) := by decide +kernel
theorem d_Q_matches_91 : decode b_Q_matches 91 = .ok (.iload_n 3, 1) := by decide +kernel
theorem d_Q_matches_92 : decode b_Q_matches 92 = .ok (.ifCond .eq 13, 3) := by decide +kernel
theorem d_Q_matches_95 : decode b_Q_matches 95 = .ok (.aload_n 0, 1) := by decide +kernel
theorem d_Q_matches_96 : decode b_Q_matches 96 = .ok (.getfield 38, 3) := by decide +kernel
theorem d_Q_matches_99 : decode b_Q_matches 99 = .ok (.iload 5, 2) := by decide +kernel
theorem d_Q_matches_101 : decode b_Q_matches 101 = .ok (.iaload, 1) := by decide +kernel
theorem d_Q_matches_102 : decode b_Q_matches 102 = .ok (.goto 10, 3) := by decide +kernel
theorem d_Q_matches_105 : decode b_Q_matches 105 = .ok (.aload_n 0, 1) := by decide +kernel
theorem d_Q_matches_106 : decode b_Q_matches 106 = .ok (.getfield 35, 3) := by decide +kernel
theorem d_Q_matches_109 : decode b_Q_matches 109 = .ok (.iload 5, 2) := by decide +kernel
theorem d_Q_matches_111 : decode b_Q_matches 111 = .ok (.iaload, 1) := by decide +kernel
theorem d_Q_matches_112 : decode b_Q_matches 112 = .ok (.ifCond .ne 12, 3) := by decide +kernel
theorem d_Q_matches_115 : decode b_Q_matches 115 = .ok (.iload 5, 2) := by decide +kernel
theorem d_Q_matches_117 : decode b_Q_matches 117 = .ok (.iload 6, 2) := by decide +kernel
theorem d_Q_matches_119 : decode b_Q_matches 119 = .ok (.if_icmp .eq 163, 3) := by decide +kernel
theorem d_Q_matches_122 : decode b_Q_matches 122 = .ok (.iconst 0, 1) := by decide +kernel
theorem d_Q_matches_123 : decode b_Q_matches 123 = .ok (.ireturn, 1) := by decide +kernel
theorem d_Q_matches_124 : decode b_Q_matches 124 = .ok (.aload_n 0, 1) := by decide +kernel
theorem d_Q_matches_125 : decode b_Q_matches 125 = .ok (.getfield 68, 3) := by decide +kernel
theorem d_Q_matches_128 : decode b_Q_matches 128 = .ok (.iload 5, 2) := by decide +kernel
theorem d_Q_matches_130 : decode b_Q_matches 130 = .ok (.iaload, 1) := by decide +kernel
theorem d_Q_matches_131 : decode b_Q_matches 131 = .ok (.iconst (-1), 1) := by decide +kernel
theorem d_Q_matches_132 : decode b_Q_matches 132 = .ok (.if_icmp .eq 17, 3) := by decide +kernel
theorem d_Q_matches_135 : decode b_Q_matches 135 = .ok (.aload_n 0, 1) := by decide +kernel
theorem d_Q_matches_136 : decode b_Q_matches 136 = .ok (.getfield 68, 3) := by decide +kernel
theorem d_Q_matches_139 : decode b_Q_matches 139 = .ok (.iload 5, 2) := by decide +kernel
theorem d_Q_matches_141 : decode b_Q_matches 141 = .ok (.iaload, 1) := by decide +kernel
theorem d_Q_matches_142 : decode b_Q_matches 142 = .ok (.iload 6, 2) := by decide +kernel
theorem d_Q_matches_144 : decode b_Q_matches 144 = .ok (.if_icmp .eq 138, 3) := by decide +kernel
theorem d_Q_matches_147 : decode b_Q_matches 147 = .ok (.iconst 0, 1) := by decide +kernel
theorem d_Q_matches_148 : decode b_Q_matches 148 = .ok (.ireturn, 1) := by decide +kernel
theorem d_Q_matches_149 : decode b_Q_matches 149 = .ok (.aload_n 0, 1) := by decide +kernel
theorem d_Q_matches_150 : decode b_Q_matches 150 = .ok (.getfield 8, 3) := by decide +kernel
theorem d_Q_matches_153 : decode b_Q_matches 153 = .ok (.iload 5, 2) := by decide +kernel
theorem d_Q_matches_155 : decode b_Q_matches 155 = .ok (.iaload, 1) := by decide +kernel
theorem d_Q_matches_156 : decode b_Q_matches 156 = .ok (.ifCond .ne 103, 3) := by decide +kernel
theorem d_Q_matches_159 : decode b_Q_matches 159 = .ok (.aload_n 0, 1) := by decide +kernel
theorem d_Q_matches_160 : decode b_Q_matches 160 = .ok (.getfield 8, 3) := by decide +kernel
theorem d_Q_matches_163 : decode b_Q_matches 163 = .ok (.iload 6, 2) := by decide +kernel
theorem d_Q_matches_165 : decode b_Q_matches 165 = .ok (.iaload, 1) := by decide +kernel
theorem d_Q_matches_166 : decode b_Q_matches 166 = .ok (.ifCond .ne 20, 3) := by decide +kernel
theorem d_Q_matches_169 : decode b_Q_matches 169 = .ok (.aload_n 0, 1) := by decide +kernel
theorem d_Q_matches_170 : decode b_Q_matches 170 = .ok (.getfield 14, 3) := by decide +kernel
theorem d_Q_matches_173 : decode b_Q_matches 173 = .ok (.iload 6, 2) := by decide +kernel
theorem d_Q_matches_175 : decode b_Q_matches 175 = .ok (.iaload, 1) := by decide +kernel
theorem d_Q_matches_176 : decode b_Q_matches 176 = .ok (.aload_n 0, 1) := by decide +kernel
theorem d_Q_matches_177 : decode b_Q_matches 177 = .ok (.getfield 14, 3) := by decide +kernel
theorem d_Q_matches_180 : decode b_Q_matches 180 = .ok (.iload 5, 2) := by decide +kernel
theorem d_Q_matches_182 : decode b_Q_matches 182 = .ok (.iaload, 1) := by decide +kernel
theorem d_Q_matches_183 : decode b_Q_matches 183 = .ok (.if_icmp .eq 5, 3) := by decide +kernel
theorem d_Q_matches_186 : decode b_Q_matches 186 = .ok (.iconst 0, 1) := by decide +kernel
theorem d_Q_matches_187 : decode b_Q_matches 187 = .ok (.ireturn, 1) := by decide +kernel
theorem d_Q_matches_188 : decode b_Q_matches 188 = .ok (.aload_n 0, 1) := by decide +kernel
theorem d_Q_matches_189 : decode b_Q_matches 189 = .ok (.getfield 68, 3) := by decide +kernel
theorem d_Q_matches_192 : decode b_Q_matches 192 = .ok (.iload 5, 2) := by decide +kernel
theorem d_Q_matches_194 : decode b_Q_matches 194 = .ok (.iload 6, 2) := by decide +kernel
theorem d_Q_matches_196 : decode b_Q_matches 196 = .ok (.iastore, 1) := by decide +kernel
theorem d_Q_matches_197 : decode b_Q_matches 197 = .ok (.iconst 0, 1) := by decide +kernel
theorem d_Q_matches_198 : decode b_Q_matches 198 = .ok (.istore 7, 2) := by decide +kernel
theorem d_Q_matches_200 : decode b_Q_matches 200 = .ok (.iload 7, 2) := by decide +kernel
theorem d_Q_matches_202 : decode b_Q_matches 202 = .ok (.aload_n 0, 1) := by decide +kernel
theorem d_Q_matches_203 : decode b_Q_matches 203 = .ok (.getfield 44, 3) := by decide +kernel
theorem d_Q_matches_206 : decode b_Q_matches 206 = .ok (.aload_n 0, 1) := by decide +kernel
theorem d_Q_matches_207 : decode b_Q_matches 207 = .ok (.getfield 14, 3) := by decide +kernel
theorem d_Q_matches_210 : decode b_Q_matches 210 = .ok (.iload 5, 2) := by decide +kernel
theorem d_Q_matches_212 : decode b_Q_matches 212 = .ok (.iaload, 1) := by decide +kernel
theorem d_Q_matches_213 : decode b_Q_matches 213 = .ok (.iaload, 1) := by decide +kernel
theorem d_Q_matches_214 : decode b_Q_matches 214 = .ok (.if_icmp .ge 42, 3) := by decide +kernel
theorem d_Q_matches_217 : decode b_Q_matches 217 = .ok (.aload_n 0, 1) := by decide +kernel
theorem d_Q_matches_218 : decode b_Q_matches 218 = .ok (.getfield 74, 3) := by decide +kernel
theorem d_Q_matches_221 : decode b_Q_matches 221 = .ok (.iload 4, 2) := by decide +kernel
theorem d_Q_matches_223 : decode b_Q_matches 223 = .ok (.aload_n 0, 1) := by decide +kernel
theorem d_Q_matches_224 : decode b_Q_matches 224 = .ok (.iload 5, 2) := by decide +kernel
theorem d_Q_matches_226 : decode b_Q_matches 226 = .ok (.iload 7, 2) := by decide +kernel
theorem d_Q_matches_228 : decode b_Q_matches 228 = .ok (.invokevirtual 129, 3) := by decide +kernel
theorem d_Q_matches_231 : decode b_Q_matches 231 = .ok (.iastore, 1) := by decide +kernel
theorem d_Q_matches_232 : decode b_Q_matches 232 = .ok (.aload_n 0, 1) := by decide +kernel
theorem d_Q_matches_233 : decode b_Q_matches 233 = .ok (.getfield 77, 3) := by decide +kernel
theorem d_Q_matches_236 : decode b_Q_matches 236 = .ok (.iload 4, 2) := by decide +kernel
theorem d_Q_matches_238 : decode b_Q_matches 238 = .ok (.aload_n 0, 1) := by decide +kernel
theorem d_Q_matches_239 : decode b_Q_matches 239 = .ok (.iload 6, 2) := by decide +kernel
theorem d_Q_matches_241 : decode b_Q_matches 241 = .ok (.iload 7, 2) := by decide +kernel
theorem d_Q_matches_243 : decode b_Q_matches 243 = .ok (.invokevirtual 129, 3) := by decide +kernel
theorem d_Q_matches_246 : decode b_Q_matches 246 = .ok (.iastore, 1) := by decide +kernel
theorem d_Q_matches_247 : decode b_Q_matches 247 = .ok (.iinc 4 1, 3) := by decide +kernel
theorem d_Q_matches_250 : decode b_Q_matches 250 = .ok (.iinc 7 1, 3) := by decide +kernel
theorem d_Q_matches_253 : decode b_Q_matches 253 = .ok (.goto (-53), 3) := by decide +kernel
theorem d_Q_matches_256 : decode b_Q_matches 256 = .ok (.goto 26, 3) := by decide +kernel
theorem d_Q_matches_259 : decode b_Q_matches 259 = .ok (.aload_n 0, 1) := by decide +kernel
theorem d_Q_matches_260 : decode b_Q_matches 260 = .ok (.getfield 68, 3) := by decide +kernel
theorem d_Q_matches_263 : decode b_Q_matches 263 = .ok (.iload 5, 2) := by decide +kernel
theorem d_Q_matches_265 : decode b_Q_matches 265 = .ok (.iload 6, 2) := by decide +kernel
theorem d_Q_matches_267 : decode b_Q_matches 267 = .ok (.iastore, 1) := by decide +kernel
theorem d_Q_matches_268 : decode b_Q_matches 268 = .ok (.aload_n 0, 1) := by decide +kernel
theorem d_Q_matches_269 : decode b_Q_matches 269 = .ok (.getfield 71, 3) := by decide +kernel
theorem d_Q_matches_272 : decode b_Q_matches 272 = .ok (.aload_n 0, 1) := by decide +kernel
theorem d_Q_matches_273 : decode b_Q_matches 273 = .ok (.getfield 14, 3) := by decide +kernel
theorem d_Q_matches_276 : decode b_Q_matches 276 = .ok (.iload 5, 2) := by decide +kernel
theorem d_Q_matches_278 : decode b_Q_matches 278 = .ok (.iaload, 1) := by decide +kernel
theorem d_Q_matches_279 : decode b_Q_matches 279 = .ok (.iload 6, 2) := by decide +kernel
theorem d_Q_matches_281 : decode b_Q_matches 281 = .ok (.iastore, 1) := by decide +kernel
theorem d_Q_matches_282 : decode b_Q_matches 282 = .ok (.goto (-217), 3) := by decide +kernel
theorem d_Q_matches_285 : decode b_Q_matches 285 = .ok (.iconst 1, 1) := by decide +kernel
theorem d_Q_matches_286 : decode b_Q_matches 286 = .ok (.ireturn, 1) := by decide +kernel
abbrev b_Q_firstMatch : ByteArray := prog_9_method_20_code
abbrev y_Q_firstMatch : MethodName := ⟨"ShapeSearchModel", "firstMatch", "(II)I"⟩
abbrev ws_Q_firstMatch : List Cond := .code y_Q_firstMatch b_Q_firstMatch 7 (some .int) :: BG
theorem hd_Q_firstMatch : y_Q_firstMatch.cls ≠ "java/lang/invoke/MethodHandle" ∧ y_Q_firstMatch.cls ≠ "java/lang/invoke/VarHandle" ∧ (parseMethodDescriptor y_Q_firstMatch.desc).map (fun d => d.parameters.length) = some 2 := by decide +kernel
theorem d_Q_firstMatch_0 : decode b_Q_firstMatch 0 = .ok (.iconst 1, 1) := by decide +kernel
theorem d_Q_firstMatch_1 : decode b_Q_firstMatch 1 = .ok (.istore_n 3, 1) := by decide +kernel
theorem d_Q_firstMatch_2 : decode b_Q_firstMatch 2 = .ok (.iconst 0, 1) := by decide +kernel
theorem d_Q_firstMatch_3 : decode b_Q_firstMatch 3 = .ok (.istore 4, 2) := by decide +kernel
theorem d_Q_firstMatch_5 : decode b_Q_firstMatch 5 = .ok (.aload_n 0, 1) := by decide +kernel
theorem d_Q_firstMatch_6 : decode b_Q_firstMatch 6 = .ok (.getfield 90, 3) := by decide +kernel
theorem d_Q_firstMatch_9 : decode b_Q_firstMatch 9 = .ok (.iconst 0, 1) := by decide +kernel
theorem d_Q_firstMatch_10 : decode b_Q_firstMatch 10 = .ok (.iload_n 2, 1) := by decide +kernel
theorem d_Q_firstMatch_11 : decode b_Q_firstMatch 11 = .ok (.iastore, 1) := by decide +kernel
theorem d_Q_firstMatch_12 : decode b_Q_firstMatch 12 = .ok (.iload_n 3, 1) := by decide +kernel
theorem d_Q_firstMatch_13 : decode b_Q_firstMatch 13 = .ok (.ifCond .le 93, 3) := by decide +kernel
theorem d_Q_firstMatch_16 : decode b_Q_firstMatch 16 = .ok (.iinc 3 (-1), 3) := by decide +kernel
theorem d_Q_firstMatch_19 : decode b_Q_firstMatch 19 = .ok (.aload_n 0, 1) := by decide +kernel
theorem d_Q_firstMatch_20 : decode b_Q_firstMatch 20 = .ok (.getfield 90, 3) := by decide +kernel
theorem d_Q_firstMatch_23 : decode b_Q_firstMatch 23 = .ok (.iload_n 3, 1) := by decide +kernel
theorem d_Q_firstMatch_24 : decode b_Q_firstMatch 24 = .ok (.iaload, 1) := by decide +kernel
theorem d_Q_firstMatch_25 : decode b_Q_firstMatch 25 = .ok (.istore 5, 2) := by decide +kernel
theorem d_Q_firstMatch_27 : decode b_Q_firstMatch 27 = .ok (.aload_n 0, 1) := by decide +kernel
theorem d_Q_firstMatch_28 : decode b_Q_firstMatch 28 = .ok (.getfield 80, 3) := by decide +kernel
theorem d_Q_firstMatch_31 : decode b_Q_firstMatch 31 = .ok (.iload 5, 2) := by decide +kernel
theorem d_Q_firstMatch_33 : decode b_Q_firstMatch 33 = .ok (.baload, 1) := by decide +kernel
theorem d_Q_firstMatch_34 : decode b_Q_firstMatch 34 = .ok (.ifCond .eq 6, 3) := by decide +kernel
theorem d_Q_firstMatch_37 : decode b_Q_firstMatch 37 = .ok (.goto (-25), 3) := by decide +kernel
theorem d_Q_firstMatch_40 : decode b_Q_firstMatch 40 = .ok (.aload_n 0, 1) := by decide +kernel
theorem d_Q_firstMatch_41 : decode b_Q_firstMatch 41 = .ok (.getfield 80, 3) := by decide +kernel
theorem d_Q_firstMatch_44 : decode b_Q_firstMatch 44 = .ok (.iload 5, 2) := by decide +kernel
theorem d_Q_firstMatch_46 : decode b_Q_firstMatch 46 = .ok (.iconst 1, 1) := by decide +kernel
theorem d_Q_firstMatch_47 : decode b_Q_firstMatch 47 = .ok (.bastore, 1) := by decide +kernel
theorem d_Q_firstMatch_48 : decode b_Q_firstMatch 48 = .ok (.aload_n 0, 1) := by decide +kernel
theorem d_Q_firstMatch_49 : decode b_Q_firstMatch 49 = .ok (.iload_n 1, 1) := by decide +kernel
theorem d_Q_firstMatch_50 : decode b_Q_firstMatch 50 = .ok (.iload 5, 2) := by decide +kernel
theorem d_Q_firstMatch_52 : decode b_Q_firstMatch 52 = .ok (.iconst 1, 1) := by decide +kernel
theorem d_Q_firstMatch_53 : decode b_Q_firstMatch 53 = .ok (.invokevirtual 160, 3) := by decide +kernel
theorem d_Q_firstMatch_56 : decode b_Q_firstMatch 56 = .ok (.ifCond .eq 6, 3) := by decide +kernel
theorem d_Q_firstMatch_59 : decode b_Q_firstMatch 59 = .ok (.iload 5, 2) := by decide +kernel
theorem d_Q_firstMatch_61 : decode b_Q_firstMatch 61 = .ok (.ireturn, 1) := by decide +kernel
theorem d_Q_firstMatch_62 : decode b_Q_firstMatch 62 = .ok (.iconst 2, 1) := by decide +kernel
theorem d_Q_firstMatch_63 : decode b_Q_firstMatch 63 = .ok (.istore 6, 2) := by decide +kernel
theorem d_Q_firstMatch_65 : decode b_Q_firstMatch 65 = .ok (.iload 6, 2) := by decide +kernel
theorem d_Q_firstMatch_67 : decode b_Q_firstMatch 67 = .ok (.ifCond .lt 36, 3) := by decide +kernel
theorem d_Q_firstMatch_70 : decode b_Q_firstMatch 70 = .ok (.aload_n 0, 1) := by decide +kernel
theorem d_Q_firstMatch_71 : decode b_Q_firstMatch 71 = .ok (.iload 5, 2) := by decide +kernel
theorem d_Q_firstMatch_73 : decode b_Q_firstMatch 73 = .ok (.iload 6, 2) := by decide +kernel
theorem d_Q_firstMatch_75 : decode b_Q_firstMatch 75 = .ok (.invokevirtual 129, 3) := by decide +kernel
theorem d_Q_firstMatch_78 : decode b_Q_firstMatch 78 = .ok (.istore 4, 2) := by decide +kernel
theorem d_Q_firstMatch_80 : decode b_Q_firstMatch 80 = .ok (.iload 4, 2) := by decide +kernel
theorem d_Q_firstMatch_82 : decode b_Q_firstMatch 82 = .ok (.iconst (-1), 1) := by decide +kernel
theorem d_Q_firstMatch_83 : decode b_Q_firstMatch 83 = .ok (.if_icmp .eq 14, 3) := by decide +kernel
theorem d_Q_firstMatch_86 : decode b_Q_firstMatch 86 = .ok (.aload_n 0, 1) := by decide +kernel
theorem d_Q_firstMatch_87 : decode b_Q_firstMatch 87 = .ok (.getfield 90, 3) := by decide +kernel
theorem d_Q_firstMatch_90 : decode b_Q_firstMatch 90 = .ok (.iload_n 3, 1) := by decide +kernel
theorem d_Q_firstMatch_91 : decode b_Q_firstMatch 91 = .ok (.iload 4, 2) := by decide +kernel
theorem d_Q_firstMatch_93 : decode b_Q_firstMatch 93 = .ok (.iastore, 1) := by decide +kernel
theorem d_Q_firstMatch_94 : decode b_Q_firstMatch 94 = .ok (.iinc 3 1, 3) := by decide +kernel
theorem d_Q_firstMatch_97 : decode b_Q_firstMatch 97 = .ok (.iinc 6 (-1), 3) := by decide +kernel
theorem d_Q_firstMatch_100 : decode b_Q_firstMatch 100 = .ok (.goto (-35), 3) := by decide +kernel
theorem d_Q_firstMatch_103 : decode b_Q_firstMatch 103 = .ok (.goto (-91), 3) := by decide +kernel
theorem d_Q_firstMatch_106 : decode b_Q_firstMatch 106 = .ok (.iconst (-1), 1) := by decide +kernel
theorem d_Q_firstMatch_107 : decode b_Q_firstMatch 107 = .ok (.ireturn, 1) := by decide +kernel
abbrev b_Q_hit_III : ByteArray := prog_9_method_22_code
abbrev y_Q_hit_III : MethodName := ⟨"ShapeSearchModel", "hit", "(III)V"⟩
abbrev ws_Q_hit_III : List Cond := .code y_Q_hit_III b_Q_hit_III 5 (none : Option Jvm.ClassFile.FieldType) :: BG
theorem hd_Q_hit_III : y_Q_hit_III.cls ≠ "java/lang/invoke/MethodHandle" ∧ y_Q_hit_III.cls ≠ "java/lang/invoke/VarHandle" ∧ (parseMethodDescriptor y_Q_hit_III.desc).map (fun d => d.parameters.length) = some 3 := by decide +kernel
theorem d_Q_hit_III_0 : decode b_Q_hit_III 0 = .ok (.aload_n 0, 1) := by decide +kernel
theorem d_Q_hit_III_1 : decode b_Q_hit_III 1 = .ok (.getfield 56, 3) := by decide +kernel
theorem d_Q_hit_III_4 : decode b_Q_hit_III 4 = .ok (.aload_n 0, 1) := by decide +kernel
theorem d_Q_hit_III_5 : decode b_Q_hit_III 5 = .ok (.getfield 151, 3) := by decide +kernel
theorem d_Q_hit_III_8 : decode b_Q_hit_III 8 = .ok (.iload_n 1, 1) := by decide +kernel
theorem d_Q_hit_III_9 : decode b_Q_hit_III 9 = .ok (.iastore, 1) := by decide +kernel
theorem d_Q_hit_III_10 : decode b_Q_hit_III 10 = .ok (.aload_n 0, 1) := by decide +kernel
theorem d_Q_hit_III_11 : decode b_Q_hit_III 11 = .ok (.getfield 59, 3) := by decide +kernel
theorem d_Q_hit_III_14 : decode b_Q_hit_III 14 = .ok (.aload_n 0, 1) := by decide +kernel
theorem d_Q_hit_III_15 : decode b_Q_hit_III 15 = .ok (.getfield 151, 3) := by decide +kernel
theorem d_Q_hit_III_18 : decode b_Q_hit_III 18 = .ok (.iload_n 2, 1) := by decide +kernel
theorem d_Q_hit_III_19 : decode b_Q_hit_III 19 = .ok (.iastore, 1) := by decide +kernel
theorem d_Q_hit_III_20 : decode b_Q_hit_III 20 = .ok (.aload_n 0, 1) := by decide +kernel
theorem d_Q_hit_III_21 : decode b_Q_hit_III 21 = .ok (.getfield 62, 3) := by decide +kernel
theorem d_Q_hit_III_24 : decode b_Q_hit_III 24 = .ok (.aload_n 0, 1) := by decide +kernel
theorem d_Q_hit_III_25 : decode b_Q_hit_III 25 = .ok (.getfield 151, 3) := by decide +kernel
theorem d_Q_hit_III_28 : decode b_Q_hit_III 28 = .ok (.iload_n 3, 1) := by decide +kernel
theorem d_Q_hit_III_29 : decode b_Q_hit_III 29 = .ok (.iastore, 1) := by decide +kernel
theorem d_Q_hit_III_30 : decode b_Q_hit_III 30 = .ok (.iconst 0, 1) := by decide +kernel
theorem d_Q_hit_III_31 : decode b_Q_hit_III 31 = .ok (.istore 4, 2) := by decide +kernel
theorem d_Q_hit_III_33 : decode b_Q_hit_III 33 = .ok (.iload 4, 2) := by decide +kernel
theorem d_Q_hit_III_35 : decode b_Q_hit_III 35 = .ok (.bipush 8, 2) := by decide +kernel
theorem d_Q_hit_III_37 : decode b_Q_hit_III 37 = .ok (.if_icmp .ge 31, 3) := by decide +kernel
theorem d_Q_hit_III_40 : decode b_Q_hit_III 40 = .ok (.aload_n 0, 1) := by decide +kernel
theorem d_Q_hit_III_41 : decode b_Q_hit_III 41 = .ok (.getfield 65, 3) := by decide +kernel
theorem d_Q_hit_III_44 : decode b_Q_hit_III 44 = .ok (.bipush 8, 2) := by decide +kernel
theorem d_Q_hit_III_46 : decode b_Q_hit_III 46 = .ok (.aload_n 0, 1) := by decide +kernel
theorem d_Q_hit_III_47 : decode b_Q_hit_III 47 = .ok (.getfield 151, 3) := by decide +kernel
theorem d_Q_hit_III_50 : decode b_Q_hit_III 50 = .ok (.imul, 1) := by decide +kernel
theorem d_Q_hit_III_51 : decode b_Q_hit_III 51 = .ok (.iload 4, 2) := by decide +kernel
theorem d_Q_hit_III_53 : decode b_Q_hit_III 53 = .ok (.iadd, 1) := by decide +kernel
theorem d_Q_hit_III_54 : decode b_Q_hit_III 54 = .ok (.aload_n 0, 1) := by decide +kernel
theorem d_Q_hit_III_55 : decode b_Q_hit_III 55 = .ok (.getfield 71, 3) := by decide +kernel
theorem d_Q_hit_III_58 : decode b_Q_hit_III 58 = .ok (.iload 4, 2) := by decide +kernel
theorem d_Q_hit_III_60 : decode b_Q_hit_III 60 = .ok (.iaload, 1) := by decide +kernel
theorem d_Q_hit_III_61 : decode b_Q_hit_III 61 = .ok (.iastore, 1) := by decide +kernel
theorem d_Q_hit_III_62 : decode b_Q_hit_III 62 = .ok (.iinc 4 1, 3) := by decide +kernel
theorem d_Q_hit_III_65 : decode b_Q_hit_III 65 = .ok (.goto (-32), 3) := by decide +kernel
theorem d_Q_hit_III_68 : decode b_Q_hit_III 68 = .ok (.aload_n 0, 1) := by decide +kernel
theorem d_Q_hit_III_69 : decode b_Q_hit_III 69 = .ok (.dup, 1) := by decide +kernel
theorem d_Q_hit_III_70 : decode b_Q_hit_III 70 = .ok (.getfield 151, 3) := by decide +kernel
theorem d_Q_hit_III_73 : decode b_Q_hit_III 73 = .ok (.iconst 1, 1) := by decide +kernel
theorem d_Q_hit_III_74 : decode b_Q_hit_III 74 = .ok (.iadd, 1) := by decide +kernel
theorem d_Q_hit_III_75 : decode b_Q_hit_III 75 = .ok (.putfield 151, 3) := by decide +kernel
theorem d_Q_hit_III_78 : decode b_Q_hit_III 78 = .ok (.return_, 1) := by decide +kernel
abbrev b_Q_find : ByteArray := prog_9_method_21_code
abbrev y_Q_find : MethodName := ⟨"ShapeSearchModel", "find", "(I)I"⟩
abbrev ws_Q_find : List Cond := .code y_Q_find b_Q_find 5 (some .int) :: BG
theorem hd_Q_find : y_Q_find.cls ≠ "java/lang/invoke/MethodHandle" ∧ y_Q_find.cls ≠ "java/lang/invoke/VarHandle" ∧ (parseMethodDescriptor y_Q_find.desc).map (fun d => d.parameters.length) = some 1 := by decide +kernel
theorem d_Q_find_0 : decode b_Q_find 0 = .ok (.aload_n 0, 1) := by decide +kernel
theorem d_Q_find_1 : decode b_Q_find 1 = .ok (.aload_n 0, 1) := by decide +kernel
theorem d_Q_find_2 : decode b_Q_find 2 = .ok (.iload_n 1, 1) := by decide +kernel
theorem d_Q_find_3 : decode b_Q_find 3 = .ok (.invokevirtual 134, 3) := by decide +kernel
theorem d_Q_find_6 : decode b_Q_find 6 = .ok (.ifCond .ne 7, 3) := by decide +kernel
theorem d_Q_find_9 : decode b_Q_find 9 = .ok (.iconst 1, 1) := by decide +kernel
theorem d_Q_find_10 : decode b_Q_find 10 = .ok (.goto 4, 3) := by decide +kernel
theorem d_Q_find_13 : decode b_Q_find 13 = .ok (.iconst 0, 1) := by decide +kernel
theorem d_Q_find_14 : decode b_Q_find 14 = .ok (.invokevirtual 138, 3) := by decide +kernel
theorem d_Q_find_17 : decode b_Q_find 17 = .ok (.ifCond .eq 5, 3) := by decide +kernel
theorem d_Q_find_20 : decode b_Q_find 20 = .ok (.iconst 0, 1) := by decide +kernel
theorem d_Q_find_21 : decode b_Q_find 21 = .ok (.ireturn, 1) := by decide +kernel
theorem d_Q_find_22 : decode b_Q_find 22 = .ok (.aload_n 0, 1) := by decide +kernel
theorem d_Q_find_23 : decode b_Q_find 23 = .ok (.iconst 1, 1) := by decide +kernel
theorem d_Q_find_24 : decode b_Q_find 24 = .ok (.putfield 154, 3) := by decide +kernel
theorem d_Q_find_27 : decode b_Q_find 27 = .ok (.aload_n 0, 1) := by decide +kernel
theorem d_Q_find_28 : decode b_Q_find 28 = .ok (.iconst 0, 1) := by decide +kernel
theorem d_Q_find_29 : decode b_Q_find 29 = .ok (.putfield 151, 3) := by decide +kernel
theorem d_Q_find_32 : decode b_Q_find 32 = .ok (.iconst 0, 1) := by decide +kernel
theorem d_Q_find_33 : decode b_Q_find 33 = .ok (.istore_n 2, 1) := by decide +kernel
theorem d_Q_find_34 : decode b_Q_find 34 = .ok (.iload_n 2, 1) := by decide +kernel
theorem d_Q_find_35 : decode b_Q_find 35 = .ok (.aload_n 0, 1) := by decide +kernel
theorem d_Q_find_36 : decode b_Q_find 36 = .ok (.getfield 148, 3) := by decide +kernel
theorem d_Q_find_39 : decode b_Q_find 39 = .ok (.if_icmp .ge 96, 3) := by decide +kernel
theorem d_Q_find_42 : decode b_Q_find 42 = .ok (.iconst 0, 1) := by decide +kernel
theorem d_Q_find_43 : decode b_Q_find 43 = .ok (.istore_n 3, 1) := by decide +kernel
theorem d_Q_find_44 : decode b_Q_find 44 = .ok (.iload_n 3, 1) := by decide +kernel
theorem d_Q_find_45 : decode b_Q_find 45 = .ok (.bipush 100, 2) := by decide +kernel
theorem d_Q_find_47 : decode b_Q_find 47 = .ok (.if_icmp .ge 16, 3) := by decide +kernel
theorem d_Q_find_50 : decode b_Q_find 50 = .ok (.aload_n 0, 1) := by decide +kernel
theorem d_Q_find_51 : decode b_Q_find 51 = .ok (.getfield 80, 3) := by decide +kernel
theorem d_Q_find_54 : decode b_Q_find 54 = .ok (.iload_n 3, 1) := by decide +kernel
theorem d_Q_find_55 : decode b_Q_find 55 = .ok (.iconst 0, 1) := by decide +kernel
theorem d_Q_find_56 : decode b_Q_find 56 = .ok (.bastore, 1) := by decide +kernel
theorem d_Q_find_57 : decode b_Q_find 57 = .ok (.iinc 3 1, 3) := by decide +kernel
theorem d_Q_find_60 : decode b_Q_find 60 = .ok (.goto (-16), 3) := by decide +kernel
theorem d_Q_find_63 : decode b_Q_find 63 = .ok (.iconst (-1), 1) := by decide +kernel
theorem d_Q_find_64 : decode b_Q_find 64 = .ok (.istore_n 3, 1) := by decide +kernel
theorem d_Q_find_65 : decode b_Q_find 65 = .ok (.aload_n 0, 1) := by decide +kernel
theorem d_Q_find_66 : decode b_Q_find 66 = .ok (.iload_n 1, 1) := by decide +kernel
theorem d_Q_find_67 : decode b_Q_find 67 = .ok (.aload_n 0, 1) := by decide +kernel
theorem d_Q_find_68 : decode b_Q_find 68 = .ok (.getfield 47, 3) := by decide +kernel
theorem d_Q_find_71 : decode b_Q_find 71 = .ok (.iload_n 2, 1) := by decide +kernel
theorem d_Q_find_72 : decode b_Q_find 72 = .ok (.iaload, 1) := by decide +kernel
theorem d_Q_find_73 : decode b_Q_find 73 = .ok (.invokevirtual 164, 3) := by decide +kernel
theorem d_Q_find_76 : decode b_Q_find 76 = .ok (.istore 4, 2) := by decide +kernel
theorem d_Q_find_78 : decode b_Q_find 78 = .ok (.iload 4, 2) := by decide +kernel
theorem d_Q_find_80 : decode b_Q_find 80 = .ok (.iconst (-1), 1) := by decide +kernel
theorem d_Q_find_81 : decode b_Q_find 81 = .ok (.if_icmp .ne 34, 3) := by decide +kernel
theorem d_Q_find_84 : decode b_Q_find 84 = .ok (.iload_n 3, 1) := by decide +kernel
theorem d_Q_find_85 : decode b_Q_find 85 = .ok (.iconst 1, 1) := by decide +kernel
theorem d_Q_find_86 : decode b_Q_find 86 = .ok (.iadd, 1) := by decide +kernel
theorem d_Q_find_87 : decode b_Q_find 87 = .ok (.aload_n 0, 1) := by decide +kernel
theorem d_Q_find_88 : decode b_Q_find 88 = .ok (.getfield 53, 3) := by decide +kernel
theorem d_Q_find_91 : decode b_Q_find 91 = .ok (.iload_n 2, 1) := by decide +kernel
theorem d_Q_find_92 : decode b_Q_find 92 = .ok (.iaload, 1) := by decide +kernel
theorem d_Q_find_93 : decode b_Q_find 93 = .ok (.if_icmp .ge 22, 3) := by decide +kernel
theorem d_Q_find_96 : decode b_Q_find 96 = .ok (.iinc 3 1, 3) := by decide +kernel
theorem d_Q_find_99 : decode b_Q_find 99 = .ok (.aload_n 0, 1) := by decide +kernel
theorem d_Q_find_100 : decode b_Q_find 100 = .ok (.iload_n 1, 1) := by decide +kernel
theorem d_Q_find_101 : decode b_Q_find 101 = .ok (.aload_n 0, 1) := by decide +kernel
theorem d_Q_find_102 : decode b_Q_find 102 = .ok (.iload_n 2, 1) := by decide +kernel
theorem d_Q_find_103 : decode b_Q_find 103 = .ok (.iload_n 3, 1) := by decide +kernel
theorem d_Q_find_104 : decode b_Q_find 104 = .ok (.invokevirtual 157, 3) := by decide +kernel
theorem d_Q_find_107 : decode b_Q_find 107 = .ok (.invokevirtual 164, 3) := by decide +kernel
theorem d_Q_find_110 : decode b_Q_find 110 = .ok (.istore 4, 2) := by decide +kernel
theorem d_Q_find_112 : decode b_Q_find 112 = .ok (.goto (-34), 3) := by decide +kernel
theorem d_Q_find_115 : decode b_Q_find 115 = .ok (.iload 4, 2) := by decide +kernel
theorem d_Q_find_117 : decode b_Q_find 117 = .ok (.iconst (-1), 1) := by decide +kernel
theorem d_Q_find_118 : decode b_Q_find 118 = .ok (.if_icmp .eq 11, 3) := by decide +kernel
theorem d_Q_find_121 : decode b_Q_find 121 = .ok (.aload_n 0, 1) := by decide +kernel
theorem d_Q_find_122 : decode b_Q_find 122 = .ok (.iload_n 2, 1) := by decide +kernel
theorem d_Q_find_123 : decode b_Q_find 123 = .ok (.iload_n 3, 1) := by decide +kernel
theorem d_Q_find_124 : decode b_Q_find 124 = .ok (.iload 4, 2) := by decide +kernel
theorem d_Q_find_126 : decode b_Q_find 126 = .ok (.invokevirtual 167, 3) := by decide +kernel
theorem d_Q_find_129 : decode b_Q_find 129 = .ok (.iinc 2 1, 3) := by decide +kernel
theorem d_Q_find_132 : decode b_Q_find 132 = .ok (.goto (-98), 3) := by decide +kernel
theorem d_Q_find_135 : decode b_Q_find 135 = .ok (.aload_n 0, 1) := by decide +kernel
theorem d_Q_find_136 : decode b_Q_find 136 = .ok (.getfield 151, 3) := by decide +kernel
theorem d_Q_find_139 : decode b_Q_find 139 = .ok (.ireturn, 1) := by decide +kernel
abbrev b_Q_wrongGoal : ByteArray := prog_9_method_23_code
abbrev y_Q_wrongGoal : MethodName := ⟨"ShapeSearchModel", "wrongGoal", "(I)I"⟩
abbrev ws_Q_wrongGoal : List Cond := .code y_Q_wrongGoal b_Q_wrongGoal 2 (some .int) :: BG
theorem hd_Q_wrongGoal : y_Q_wrongGoal.cls ≠ "java/lang/invoke/MethodHandle" ∧ y_Q_wrongGoal.cls ≠ "java/lang/invoke/VarHandle" ∧ (parseMethodDescriptor y_Q_wrongGoal.desc).map (fun d => d.parameters.length) = some 1 := by decide +kernel
theorem d_Q_wrongGoal_0 : decode b_Q_wrongGoal 0 = .ok (.aload_n 0, 1) := by decide +kernel
theorem d_Q_wrongGoal_1 : decode b_Q_wrongGoal 1 = .ok (.iload_n 1, 1) := by decide +kernel
theorem d_Q_wrongGoal_2 : decode b_Q_wrongGoal 2 = .ok (.invokevirtual 134, 3) := by decide +kernel
theorem d_Q_wrongGoal_5 : decode b_Q_wrongGoal 5 = .ok (.ifCond .ne 7, 3) := by decide +kernel
theorem d_Q_wrongGoal_8 : decode b_Q_wrongGoal 8 = .ok (.iconst 1, 1) := by decide +kernel
theorem d_Q_wrongGoal_9 : decode b_Q_wrongGoal 9 = .ok (.goto 17, 3) := by decide +kernel
theorem d_Q_wrongGoal_12 : decode b_Q_wrongGoal 12 = .ok (.aload_n 0, 1) := by decide +kernel
theorem d_Q_wrongGoal_13 : decode b_Q_wrongGoal 13 = .ok (.getfield 38, 3) := by decide +kernel
theorem d_Q_wrongGoal_16 : decode b_Q_wrongGoal 16 = .ok (.iload_n 1, 1) := by decide +kernel
theorem d_Q_wrongGoal_17 : decode b_Q_wrongGoal 17 = .ok (.iaload, 1) := by decide +kernel
theorem d_Q_wrongGoal_18 : decode b_Q_wrongGoal 18 = .ok (.ifCond .eq 7, 3) := by decide +kernel
theorem d_Q_wrongGoal_21 : decode b_Q_wrongGoal 21 = .ok (.iconst 2, 1) := by decide +kernel
theorem d_Q_wrongGoal_22 : decode b_Q_wrongGoal 22 = .ok (.goto 4, 3) := by decide +kernel
theorem d_Q_wrongGoal_25 : decode b_Q_wrongGoal 25 = .ok (.iconst 0, 1) := by decide +kernel
theorem d_Q_wrongGoal_26 : decode b_Q_wrongGoal 26 = .ok (.ireturn, 1) := by decide +kernel
abbrev b_Q_fit : ByteArray := prog_9_method_24_code
abbrev y_Q_fit : MethodName := ⟨"ShapeSearchModel", "fit", "(I)I"⟩
abbrev ws_Q_fit : List Cond := .code y_Q_fit b_Q_fit 4 (some .int) :: BG
theorem hd_Q_fit : y_Q_fit.cls ≠ "java/lang/invoke/MethodHandle" ∧ y_Q_fit.cls ≠ "java/lang/invoke/VarHandle" ∧ (parseMethodDescriptor y_Q_fit.desc).map (fun d => d.parameters.length) = some 1 := by decide +kernel
theorem d_Q_fit_0 : decode b_Q_fit 0 = .ok (.aload_n 0, 1) := by decide +kernel
theorem d_Q_fit_1 : decode b_Q_fit 1 = .ok (.aload_n 0, 1) := by decide +kernel
theorem d_Q_fit_2 : decode b_Q_fit 2 = .ok (.iload_n 1, 1) := by decide +kernel
theorem d_Q_fit_3 : decode b_Q_fit 3 = .ok (.invokevirtual 171, 3) := by decide +kernel
theorem d_Q_fit_6 : decode b_Q_fit 6 = .ok (.invokevirtual 138, 3) := by decide +kernel
theorem d_Q_fit_9 : decode b_Q_fit 9 = .ok (.ifCond .eq 5, 3) := by decide +kernel
theorem d_Q_fit_12 : decode b_Q_fit 12 = .ok (.iconst 0, 1) := by decide +kernel
theorem d_Q_fit_13 : decode b_Q_fit 13 = .ok (.ireturn, 1) := by decide +kernel
theorem d_Q_fit_14 : decode b_Q_fit 14 = .ok (.aload_n 0, 1) := by decide +kernel
theorem d_Q_fit_15 : decode b_Q_fit 15 = .ok (.iconst 2, 1) := by decide +kernel
theorem d_Q_fit_16 : decode b_Q_fit 16 = .ok (.putfield 154, 3) := by decide +kernel
theorem d_Q_fit_19 : decode b_Q_fit 19 = .ok (.aload_n 0, 1) := by decide +kernel
theorem d_Q_fit_20 : decode b_Q_fit 20 = .ok (.iconst 0, 1) := by decide +kernel
theorem d_Q_fit_21 : decode b_Q_fit 21 = .ok (.putfield 151, 3) := by decide +kernel
theorem d_Q_fit_24 : decode b_Q_fit 24 = .ok (.iconst 0, 1) := by decide +kernel
theorem d_Q_fit_25 : decode b_Q_fit 25 = .ok (.istore_n 2, 1) := by decide +kernel
theorem d_Q_fit_26 : decode b_Q_fit 26 = .ok (.iload_n 2, 1) := by decide +kernel
theorem d_Q_fit_27 : decode b_Q_fit 27 = .ok (.iconst 4, 1) := by decide +kernel
theorem d_Q_fit_28 : decode b_Q_fit 28 = .ok (.if_icmp .gt 64, 3) := by decide +kernel
theorem d_Q_fit_31 : decode b_Q_fit 31 = .ok (.iconst 0, 1) := by decide +kernel
theorem d_Q_fit_32 : decode b_Q_fit 32 = .ok (.istore_n 3, 1) := by decide +kernel
theorem d_Q_fit_33 : decode b_Q_fit 33 = .ok (.iload_n 3, 1) := by decide +kernel
theorem d_Q_fit_34 : decode b_Q_fit 34 = .ok (.aload_n 0, 1) := by decide +kernel
theorem d_Q_fit_35 : decode b_Q_fit 35 = .ok (.getfield 148, 3) := by decide +kernel
theorem d_Q_fit_38 : decode b_Q_fit 38 = .ok (.if_icmp .ge 48, 3) := by decide +kernel
theorem d_Q_fit_41 : decode b_Q_fit 41 = .ok (.aload_n 0, 1) := by decide +kernel
theorem d_Q_fit_42 : decode b_Q_fit 42 = .ok (.getfield 53, 3) := by decide +kernel
theorem d_Q_fit_45 : decode b_Q_fit 45 = .ok (.iload_n 3, 1) := by decide +kernel
theorem d_Q_fit_46 : decode b_Q_fit 46 = .ok (.iaload, 1) := by decide +kernel
theorem d_Q_fit_47 : decode b_Q_fit 47 = .ok (.iload_n 2, 1) := by decide +kernel
theorem d_Q_fit_48 : decode b_Q_fit 48 = .ok (.if_icmp .ne 32, 3) := by decide +kernel
theorem d_Q_fit_51 : decode b_Q_fit 51 = .ok (.aload_n 0, 1) := by decide +kernel
theorem d_Q_fit_52 : decode b_Q_fit 52 = .ok (.aload_n 0, 1) := by decide +kernel
theorem d_Q_fit_53 : decode b_Q_fit 53 = .ok (.getfield 47, 3) := by decide +kernel
theorem d_Q_fit_56 : decode b_Q_fit 56 = .ok (.iload_n 3, 1) := by decide +kernel
theorem d_Q_fit_57 : decode b_Q_fit 57 = .ok (.iaload, 1) := by decide +kernel
theorem d_Q_fit_58 : decode b_Q_fit 58 = .ok (.iload_n 1, 1) := by decide +kernel
theorem d_Q_fit_59 : decode b_Q_fit 59 = .ok (.iconst 0, 1) := by decide +kernel
theorem d_Q_fit_60 : decode b_Q_fit 60 = .ok (.invokevirtual 160, 3) := by decide +kernel
theorem d_Q_fit_63 : decode b_Q_fit 63 = .ok (.ifCond .eq 17, 3) := by decide +kernel
theorem d_Q_fit_66 : decode b_Q_fit 66 = .ok (.aload_n 0, 1) := by decide +kernel
theorem d_Q_fit_67 : decode b_Q_fit 67 = .ok (.iload_n 3, 1) := by decide +kernel
theorem d_Q_fit_68 : decode b_Q_fit 68 = .ok (.aload_n 0, 1) := by decide +kernel
theorem d_Q_fit_69 : decode b_Q_fit 69 = .ok (.iload_n 3, 1) := by decide +kernel
theorem d_Q_fit_70 : decode b_Q_fit 70 = .ok (.invokevirtual 175, 3) := by decide +kernel
theorem d_Q_fit_73 : decode b_Q_fit 73 = .ok (.invokestatic 178, 3) := by decide +kernel
theorem d_Q_fit_76 : decode b_Q_fit 76 = .ok (.iload_n 2, 1) := by decide +kernel
theorem d_Q_fit_77 : decode b_Q_fit 77 = .ok (.invokevirtual 167, 3) := by decide +kernel
theorem d_Q_fit_80 : decode b_Q_fit 80 = .ok (.iinc 3 1, 3) := by decide +kernel
theorem d_Q_fit_83 : decode b_Q_fit 83 = .ok (.goto (-50), 3) := by decide +kernel
theorem d_Q_fit_86 : decode b_Q_fit 86 = .ok (.iinc 2 1, 3) := by decide +kernel
theorem d_Q_fit_89 : decode b_Q_fit 89 = .ok (.goto (-63), 3) := by decide +kernel
theorem d_Q_fit_92 : decode b_Q_fit 92 = .ok (.aload_n 0, 1) := by decide +kernel
theorem d_Q_fit_93 : decode b_Q_fit 93 = .ok (.getfield 151, 3) := by decide +kernel
theorem d_Q_fit_96 : decode b_Q_fit 96 = .ok (.ireturn, 1) := by decide +kernel
abbrev b_Q_namesOf : ByteArray := prog_9_method_25_code
abbrev y_Q_namesOf : MethodName := ⟨"ShapeSearchModel", "namesOf", "(I)I"⟩
abbrev ws_Q_namesOf : List Cond := .code y_Q_namesOf b_Q_namesOf 4 (some .int) :: BG
theorem hd_Q_namesOf : y_Q_namesOf.cls ≠ "java/lang/invoke/MethodHandle" ∧ y_Q_namesOf.cls ≠ "java/lang/invoke/VarHandle" ∧ (parseMethodDescriptor y_Q_namesOf.desc).map (fun d => d.parameters.length) = some 1 := by decide +kernel
theorem d_Q_namesOf_0 : decode b_Q_namesOf 0 = .ok (.aload_n 0, 1) := by decide +kernel
theorem d_Q_namesOf_1 : decode b_Q_namesOf 1 = .ok (.getfield 32, 3) := by decide +kernel
theorem d_Q_namesOf_4 : decode b_Q_namesOf 4 = .ok (.aload_n 0, 1) := by decide +kernel
theorem d_Q_namesOf_5 : decode b_Q_namesOf 5 = .ok (.getfield 47, 3) := by decide +kernel
theorem d_Q_namesOf_8 : decode b_Q_namesOf 8 = .ok (.iload_n 1, 1) := by decide +kernel
theorem d_Q_namesOf_9 : decode b_Q_namesOf 9 = .ok (.iaload, 1) := by decide +kernel
theorem d_Q_namesOf_10 : decode b_Q_namesOf 10 = .ok (.iaload, 1) := by decide +kernel
theorem d_Q_namesOf_11 : decode b_Q_namesOf 11 = .ok (.istore_n 2, 1) := by decide +kernel
theorem d_Q_namesOf_12 : decode b_Q_namesOf 12 = .ok (.iconst 0, 1) := by decide +kernel
theorem d_Q_namesOf_13 : decode b_Q_namesOf 13 = .ok (.istore_n 3, 1) := by decide +kernel
theorem d_Q_namesOf_14 : decode b_Q_namesOf 14 = .ok (.iload_n 3, 1) := by decide +kernel
theorem d_Q_namesOf_15 : decode b_Q_namesOf 15 = .ok (.aload_n 0, 1) := by decide +kernel
theorem d_Q_namesOf_16 : decode b_Q_namesOf 16 = .ok (.getfield 53, 3) := by decide +kernel
theorem d_Q_namesOf_19 : decode b_Q_namesOf 19 = .ok (.iload_n 1, 1) := by decide +kernel
theorem d_Q_namesOf_20 : decode b_Q_namesOf 20 = .ok (.iaload, 1) := by decide +kernel
theorem d_Q_namesOf_21 : decode b_Q_namesOf 21 = .ok (.if_icmp .ge 23, 3) := by decide +kernel
theorem d_Q_namesOf_24 : decode b_Q_namesOf 24 = .ok (.iload_n 2, 1) := by decide +kernel
theorem d_Q_namesOf_25 : decode b_Q_namesOf 25 = .ok (.aload_n 0, 1) := by decide +kernel
theorem d_Q_namesOf_26 : decode b_Q_namesOf 26 = .ok (.getfield 32, 3) := by decide +kernel
theorem d_Q_namesOf_29 : decode b_Q_namesOf 29 = .ok (.aload_n 0, 1) := by decide +kernel
theorem d_Q_namesOf_30 : decode b_Q_namesOf 30 = .ok (.iload_n 1, 1) := by decide +kernel
theorem d_Q_namesOf_31 : decode b_Q_namesOf 31 = .ok (.iload_n 3, 1) := by decide +kernel
theorem d_Q_namesOf_32 : decode b_Q_namesOf 32 = .ok (.invokevirtual 157, 3) := by decide +kernel
theorem d_Q_namesOf_35 : decode b_Q_namesOf 35 = .ok (.iaload, 1) := by decide +kernel
theorem d_Q_namesOf_36 : decode b_Q_namesOf 36 = .ok (.ior, 1) := by decide +kernel
theorem d_Q_namesOf_37 : decode b_Q_namesOf 37 = .ok (.istore_n 2, 1) := by decide +kernel
theorem d_Q_namesOf_38 : decode b_Q_namesOf 38 = .ok (.iinc 3 1, 3) := by decide +kernel
theorem d_Q_namesOf_41 : decode b_Q_namesOf 41 = .ok (.goto (-27), 3) := by decide +kernel
theorem d_Q_namesOf_44 : decode b_Q_namesOf 44 = .ok (.iload_n 2, 1) := by decide +kernel
theorem d_Q_namesOf_45 : decode b_Q_namesOf 45 = .ok (.ireturn, 1) := by decide +kernel
abbrev b_Q_rank : ByteArray := prog_9_method_26_code
abbrev y_Q_rank : MethodName := ⟨"ShapeSearchModel", "rank", "(I)I"⟩
abbrev ws_Q_rank : List Cond := .code y_Q_rank b_Q_rank 6 (some .int) :: BG
theorem hd_Q_rank : y_Q_rank.cls ≠ "java/lang/invoke/MethodHandle" ∧ y_Q_rank.cls ≠ "java/lang/invoke/VarHandle" ∧ (parseMethodDescriptor y_Q_rank.desc).map (fun d => d.parameters.length) = some 1 := by decide +kernel
theorem d_Q_rank_0 : decode b_Q_rank 0 = .ok (.aload_n 0, 1) := by decide +kernel
theorem d_Q_rank_1 : decode b_Q_rank 1 = .ok (.aload_n 0, 1) := by decide +kernel
theorem d_Q_rank_2 : decode b_Q_rank 2 = .ok (.iload_n 1, 1) := by decide +kernel
theorem d_Q_rank_3 : decode b_Q_rank 3 = .ok (.invokevirtual 171, 3) := by decide +kernel
theorem d_Q_rank_6 : decode b_Q_rank 6 = .ok (.invokevirtual 138, 3) := by decide +kernel
theorem d_Q_rank_9 : decode b_Q_rank 9 = .ok (.ifCond .eq 5, 3) := by decide +kernel
theorem d_Q_rank_12 : decode b_Q_rank 12 = .ok (.iconst 0, 1) := by decide +kernel
theorem d_Q_rank_13 : decode b_Q_rank 13 = .ok (.ireturn, 1) := by decide +kernel
theorem d_Q_rank_14 : decode b_Q_rank 14 = .ok (.aload_n 0, 1) := by decide +kernel
theorem d_Q_rank_15 : decode b_Q_rank 15 = .ok (.iconst 3, 1) := by decide +kernel
theorem d_Q_rank_16 : decode b_Q_rank 16 = .ok (.putfield 154, 3) := by decide +kernel
theorem d_Q_rank_19 : decode b_Q_rank 19 = .ok (.aload_n 0, 1) := by decide +kernel
theorem d_Q_rank_20 : decode b_Q_rank 20 = .ok (.iconst 0, 1) := by decide +kernel
theorem d_Q_rank_21 : decode b_Q_rank 21 = .ok (.putfield 151, 3) := by decide +kernel
theorem d_Q_rank_24 : decode b_Q_rank 24 = .ok (.iconst 0, 1) := by decide +kernel
theorem d_Q_rank_25 : decode b_Q_rank 25 = .ok (.istore_n 2, 1) := by decide +kernel
theorem d_Q_rank_26 : decode b_Q_rank 26 = .ok (.iload_n 2, 1) := by decide +kernel
theorem d_Q_rank_27 : decode b_Q_rank 27 = .ok (.aload_n 0, 1) := by decide +kernel
theorem d_Q_rank_28 : decode b_Q_rank 28 = .ok (.getfield 148, 3) := by decide +kernel
theorem d_Q_rank_31 : decode b_Q_rank 31 = .ok (.if_icmp .ge 181, 3) := by decide +kernel
theorem d_Q_rank_34 : decode b_Q_rank 34 = .ok (.aload_n 0, 1) := by decide +kernel
theorem d_Q_rank_35 : decode b_Q_rank 35 = .ok (.iload_n 2, 1) := by decide +kernel
theorem d_Q_rank_36 : decode b_Q_rank 36 = .ok (.invokevirtual 181, 3) := by decide +kernel
theorem d_Q_rank_39 : decode b_Q_rank 39 = .ok (.aload_n 0, 1) := by decide +kernel
theorem d_Q_rank_40 : decode b_Q_rank 40 = .ok (.getfield 32, 3) := by decide +kernel
theorem d_Q_rank_43 : decode b_Q_rank 43 = .ok (.iload_n 1, 1) := by decide +kernel
theorem d_Q_rank_44 : decode b_Q_rank 44 = .ok (.iaload, 1) := by decide +kernel
theorem d_Q_rank_45 : decode b_Q_rank 45 = .ok (.iand, 1) := by decide +kernel
theorem d_Q_rank_46 : decode b_Q_rank 46 = .ok (.invokestatic 178, 3) := by decide +kernel
theorem d_Q_rank_49 : decode b_Q_rank 49 = .ok (.istore_n 3, 1) := by decide +kernel
theorem d_Q_rank_50 : decode b_Q_rank 50 = .ok (.aload_n 0, 1) := by decide +kernel
theorem d_Q_rank_51 : decode b_Q_rank 51 = .ok (.iload_n 2, 1) := by decide +kernel
theorem d_Q_rank_52 : decode b_Q_rank 52 = .ok (.invokevirtual 181, 3) := by decide +kernel
theorem d_Q_rank_55 : decode b_Q_rank 55 = .ok (.aload_n 0, 1) := by decide +kernel
theorem d_Q_rank_56 : decode b_Q_rank 56 = .ok (.getfield 32, 3) := by decide +kernel
theorem d_Q_rank_59 : decode b_Q_rank 59 = .ok (.iload_n 1, 1) := by decide +kernel
theorem d_Q_rank_60 : decode b_Q_rank 60 = .ok (.iaload, 1) := by decide +kernel
theorem d_Q_rank_61 : decode b_Q_rank 61 = .ok (.ior, 1) := by decide +kernel
theorem d_Q_rank_62 : decode b_Q_rank 62 = .ok (.invokestatic 178, 3) := by decide +kernel
theorem d_Q_rank_65 : decode b_Q_rank 65 = .ok (.istore 4, 2) := by decide +kernel
theorem d_Q_rank_67 : decode b_Q_rank 67 = .ok (.iload 4, 2) := by decide +kernel
theorem d_Q_rank_69 : decode b_Q_rank 69 = .ok (.ifCond .ne 7, 3) := by decide +kernel
theorem d_Q_rank_72 : decode b_Q_rank 72 = .ok (.iconst 1, 1) := by decide +kernel
theorem d_Q_rank_73 : decode b_Q_rank 73 = .ok (.goto 5, 3) := by decide +kernel
theorem d_Q_rank_76 : decode b_Q_rank 76 = .ok (.iload 4, 2) := by decide +kernel
theorem d_Q_rank_78 : decode b_Q_rank 78 = .ok (.istore 4, 2) := by decide +kernel
theorem d_Q_rank_80 : decode b_Q_rank 80 = .ok (.aload_n 0, 1) := by decide +kernel
theorem d_Q_rank_81 : decode b_Q_rank 81 = .ok (.getfield 151, 3) := by decide +kernel
theorem d_Q_rank_84 : decode b_Q_rank 84 = .ok (.istore 5, 2) := by decide +kernel
theorem d_Q_rank_86 : decode b_Q_rank 86 = .ok (.iload 5, 2) := by decide +kernel
theorem d_Q_rank_88 : decode b_Q_rank 88 = .ok (.ifCond .le 83, 3) := by decide +kernel
theorem d_Q_rank_91 : decode b_Q_rank 91 = .ok (.iload_n 3, 1) := by decide +kernel
theorem d_Q_rank_92 : decode b_Q_rank 92 = .ok (.aload_n 0, 1) := by decide +kernel
theorem d_Q_rank_93 : decode b_Q_rank 93 = .ok (.getfield 62, 3) := by decide +kernel
theorem d_Q_rank_96 : decode b_Q_rank 96 = .ok (.iload 5, 2) := by decide +kernel
theorem d_Q_rank_98 : decode b_Q_rank 98 = .ok (.iconst 1, 1) := by decide +kernel
theorem d_Q_rank_99 : decode b_Q_rank 99 = .ok (.isub, 1) := by decide +kernel
theorem d_Q_rank_100 : decode b_Q_rank 100 = .ok (.iaload, 1) := by decide +kernel
theorem d_Q_rank_101 : decode b_Q_rank 101 = .ok (.imul, 1) := by decide +kernel
theorem d_Q_rank_102 : decode b_Q_rank 102 = .ok (.aload_n 0, 1) := by decide +kernel
theorem d_Q_rank_103 : decode b_Q_rank 103 = .ok (.getfield 59, 3) := by decide +kernel
theorem d_Q_rank_106 : decode b_Q_rank 106 = .ok (.iload 5, 2) := by decide +kernel
theorem d_Q_rank_108 : decode b_Q_rank 108 = .ok (.iconst 1, 1) := by decide +kernel
theorem d_Q_rank_109 : decode b_Q_rank 109 = .ok (.isub, 1) := by decide +kernel
theorem d_Q_rank_110 : decode b_Q_rank 110 = .ok (.iaload, 1) := by decide +kernel
theorem d_Q_rank_111 : decode b_Q_rank 111 = .ok (.iload 4, 2) := by decide +kernel
theorem d_Q_rank_113 : decode b_Q_rank 113 = .ok (.imul, 1) := by decide +kernel
theorem d_Q_rank_114 : decode b_Q_rank 114 = .ok (.if_icmp .le 57, 3) := by decide +kernel
theorem d_Q_rank_117 : decode b_Q_rank 117 = .ok (.aload_n 0, 1) := by decide +kernel
theorem d_Q_rank_118 : decode b_Q_rank 118 = .ok (.getfield 56, 3) := by decide +kernel
theorem d_Q_rank_121 : decode b_Q_rank 121 = .ok (.iload 5, 2) := by decide +kernel
theorem d_Q_rank_123 : decode b_Q_rank 123 = .ok (.aload_n 0, 1) := by decide +kernel
theorem d_Q_rank_124 : decode b_Q_rank 124 = .ok (.getfield 56, 3) := by decide +kernel
theorem d_Q_rank_127 : decode b_Q_rank 127 = .ok (.iload 5, 2) := by decide +kernel
theorem d_Q_rank_129 : decode b_Q_rank 129 = .ok (.iconst 1, 1) := by decide +kernel
theorem d_Q_rank_130 : decode b_Q_rank 130 = .ok (.isub, 1) := by decide +kernel
theorem d_Q_rank_131 : decode b_Q_rank 131 = .ok (.iaload, 1) := by decide +kernel
theorem d_Q_rank_132 : decode b_Q_rank 132 = .ok (.iastore, 1) := by decide +kernel
theorem d_Q_rank_133 : decode b_Q_rank 133 = .ok (.aload_n 0, 1) := by decide +kernel
theorem d_Q_rank_134 : decode b_Q_rank 134 = .ok (.getfield 59, 3) := by decide +kernel
theorem d_Q_rank_137 : decode b_Q_rank 137 = .ok (.iload 5, 2) := by decide +kernel
theorem d_Q_rank_139 : decode b_Q_rank 139 = .ok (.aload_n 0, 1) := by decide +kernel
theorem d_Q_rank_140 : decode b_Q_rank 140 = .ok (.getfield 59, 3) := by decide +kernel
theorem d_Q_rank_143 : decode b_Q_rank 143 = .ok (.iload 5, 2) := by decide +kernel
theorem d_Q_rank_145 : decode b_Q_rank 145 = .ok (.iconst 1, 1) := by decide +kernel
theorem d_Q_rank_146 : decode b_Q_rank 146 = .ok (.isub, 1) := by decide +kernel
theorem d_Q_rank_147 : decode b_Q_rank 147 = .ok (.iaload, 1) := by decide +kernel
theorem d_Q_rank_148 : decode b_Q_rank 148 = .ok (.iastore, 1) := by decide +kernel
theorem d_Q_rank_149 : decode b_Q_rank 149 = .ok (.aload_n 0, 1) := by decide +kernel
theorem d_Q_rank_150 : decode b_Q_rank 150 = .ok (.getfield 62, 3) := by decide +kernel
theorem d_Q_rank_153 : decode b_Q_rank 153 = .ok (.iload 5, 2) := by decide +kernel
theorem d_Q_rank_155 : decode b_Q_rank 155 = .ok (.aload_n 0, 1) := by decide +kernel
theorem d_Q_rank_156 : decode b_Q_rank 156 = .ok (.getfield 62, 3) := by decide +kernel
theorem d_Q_rank_159 : decode b_Q_rank 159 = .ok (.iload 5, 2) := by decide +kernel
theorem d_Q_rank_161 : decode b_Q_rank 161 = .ok (.iconst 1, 1) := by decide +kernel
theorem d_Q_rank_162 : decode b_Q_rank 162 = .ok (.isub, 1) := by decide +kernel
theorem d_Q_rank_163 : decode b_Q_rank 163 = .ok (.iaload, 1) := by decide +kernel
theorem d_Q_rank_164 : decode b_Q_rank 164 = .ok (.iastore, 1) := by decide +kernel
theorem d_Q_rank_165 : decode b_Q_rank 165 = .ok (.iinc 5 (-1), 3) := by decide +kernel
theorem d_Q_rank_168 : decode b_Q_rank 168 = .ok (.goto (-82), 3) := by decide +kernel
theorem d_Q_rank_171 : decode b_Q_rank 171 = .ok (.aload_n 0, 1) := by decide +kernel
theorem d_Q_rank_172 : decode b_Q_rank 172 = .ok (.getfield 56, 3) := by decide +kernel
theorem d_Q_rank_175 : decode b_Q_rank 175 = .ok (.iload 5, 2) := by decide +kernel
theorem d_Q_rank_177 : decode b_Q_rank 177 = .ok (.iload_n 2, 1) := by decide +kernel
theorem d_Q_rank_178 : decode b_Q_rank 178 = .ok (.iastore, 1) := by decide +kernel
theorem d_Q_rank_179 : decode b_Q_rank 179 = .ok (.aload_n 0, 1) := by decide +kernel
theorem d_Q_rank_180 : decode b_Q_rank 180 = .ok (.getfield 59, 3) := by decide +kernel
theorem d_Q_rank_183 : decode b_Q_rank 183 = .ok (.iload 5, 2) := by decide +kernel
theorem d_Q_rank_185 : decode b_Q_rank 185 = .ok (.iload_n 3, 1) := by decide +kernel
theorem d_Q_rank_186 : decode b_Q_rank 186 = .ok (.iastore, 1) := by decide +kernel
theorem d_Q_rank_187 : decode b_Q_rank 187 = .ok (.aload_n 0, 1) := by decide +kernel
theorem d_Q_rank_188 : decode b_Q_rank 188 = .ok (.getfield 62, 3) := by decide +kernel
theorem d_Q_rank_191 : decode b_Q_rank 191 = .ok (.iload 5, 2) := by decide +kernel
theorem d_Q_rank_193 : decode b_Q_rank 193 = .ok (.iload 4, 2) := by decide +kernel
theorem d_Q_rank_195 : decode b_Q_rank 195 = .ok (.iastore, 1) := by decide +kernel
theorem d_Q_rank_196 : decode b_Q_rank 196 = .ok (.aload_n 0, 1) := by decide +kernel
theorem d_Q_rank_197 : decode b_Q_rank 197 = .ok (.dup, 1) := by decide +kernel
theorem d_Q_rank_198 : decode b_Q_rank 198 = .ok (.getfield 151, 3) := by decide +kernel
theorem d_Q_rank_201 : decode b_Q_rank 201 = .ok (.iconst 1, 1) := by decide +kernel
theorem d_Q_rank_202 : decode b_Q_rank 202 = .ok (.iadd, 1) := by decide +kernel
theorem d_Q_rank_203 : decode b_Q_rank 203 = .ok (.putfield 151, 3) := by decide +kernel
theorem d_Q_rank_206 : decode b_Q_rank 206 = .ok (.iinc 2 1, 3) := by decide +kernel
theorem d_Q_rank_209 : decode b_Q_rank 209 = .ok (.goto (-183), 3) := by decide +kernel
theorem d_Q_rank_212 : decode b_Q_rank 212 = .ok (.aload_n 0, 1) := by decide +kernel
theorem d_Q_rank_213 : decode b_Q_rank 213 = .ok (.getfield 151, 3) := by decide +kernel
theorem d_Q_rank_216 : decode b_Q_rank 216 = .ok (.ireturn, 1) := by decide +kernel
abbrev b_Q_hit_II : ByteArray := prog_9_method_27_code
abbrev y_Q_hit_II : MethodName := ⟨"ShapeSearchModel", "hit", "(II)I"⟩
abbrev ws_Q_hit_II : List Cond := .code y_Q_hit_II b_Q_hit_II 4 (some .int) :: BG
theorem hd_Q_hit_II : y_Q_hit_II.cls ≠ "java/lang/invoke/MethodHandle" ∧ y_Q_hit_II.cls ≠ "java/lang/invoke/VarHandle" ∧ (parseMethodDescriptor y_Q_hit_II.desc).map (fun d => d.parameters.length) = some 2 := by decide +kernel
theorem d_Q_hit_II_0 : decode b_Q_hit_II 0 = .ok (.aload_n 0, 1) := by decide +kernel
theorem d_Q_hit_II_1 : decode b_Q_hit_II 1 = .ok (.iconst 0, 1) := by decide +kernel
theorem d_Q_hit_II_2 : decode b_Q_hit_II 2 = .ok (.putfield 115, 3) := by decide +kernel
theorem d_Q_hit_II_5 : decode b_Q_hit_II 5 = .ok (.iload_n 1, 1) := by decide +kernel
theorem d_Q_hit_II_6 : decode b_Q_hit_II 6 = .ok (.ifCond .lt 15, 3) := by decide +kernel
theorem d_Q_hit_II_9 : decode b_Q_hit_II 9 = .ok (.iload_n 1, 1) := by decide +kernel
theorem d_Q_hit_II_10 : decode b_Q_hit_II 10 = .ok (.aload_n 0, 1) := by decide +kernel
theorem d_Q_hit_II_11 : decode b_Q_hit_II 11 = .ok (.getfield 151, 3) := by decide +kernel
theorem d_Q_hit_II_14 : decode b_Q_hit_II 14 = .ok (.if_icmp .ge 7, 3) := by decide +kernel
theorem d_Q_hit_II_17 : decode b_Q_hit_II 17 = .ok (.iload_n 2, 1) := by decide +kernel
theorem d_Q_hit_II_18 : decode b_Q_hit_II 18 = .ok (.ifCond .ge 5, 3) := by decide +kernel
theorem d_Q_hit_II_21 : decode b_Q_hit_II 21 = .ok (.iconst (-1), 1) := by decide +kernel
theorem d_Q_hit_II_22 : decode b_Q_hit_II 22 = .ok (.ireturn, 1) := by decide +kernel
theorem d_Q_hit_II_23 : decode b_Q_hit_II 23 = .ok (.iload_n 2, 1) := by decide +kernel
theorem d_Q_hit_II_24 : decode b_Q_hit_II 24 = .ok (.iconst 3, 1) := by decide +kernel
theorem d_Q_hit_II_25 : decode b_Q_hit_II 25 = .ok (.if_icmp .ge 37, 3) := by decide +kernel
theorem d_Q_hit_II_28 : decode b_Q_hit_II 28 = .ok (.iload_n 2, 1) := by decide +kernel
theorem d_Q_hit_II_29 : decode b_Q_hit_II 29 = .ok (.ifCond .ne 12, 3) := by decide +kernel
theorem d_Q_hit_II_32 : decode b_Q_hit_II 32 = .ok (.aload_n 0, 1) := by decide +kernel
theorem d_Q_hit_II_33 : decode b_Q_hit_II 33 = .ok (.getfield 56, 3) := by decide +kernel
theorem d_Q_hit_II_36 : decode b_Q_hit_II 36 = .ok (.iload_n 1, 1) := by decide +kernel
theorem d_Q_hit_II_37 : decode b_Q_hit_II 37 = .ok (.iaload, 1) := by decide +kernel
theorem d_Q_hit_II_38 : decode b_Q_hit_II 38 = .ok (.goto 23, 3) := by decide +kernel
theorem d_Q_hit_II_41 : decode b_Q_hit_II 41 = .ok (.iload_n 2, 1) := by decide +kernel
theorem d_Q_hit_II_42 : decode b_Q_hit_II 42 = .ok (.iconst 1, 1) := by decide +kernel
theorem d_Q_hit_II_43 : decode b_Q_hit_II 43 = .ok (.if_icmp .ne 12, 3) := by decide +kernel
theorem d_Q_hit_II_46 : decode b_Q_hit_II 46 = .ok (.aload_n 0, 1) := by decide +kernel
theorem d_Q_hit_II_47 : decode b_Q_hit_II 47 = .ok (.getfield 59, 3) := by decide +kernel
theorem d_Q_hit_II_50 : decode b_Q_hit_II 50 = .ok (.iload_n 1, 1) := by decide +kernel
theorem d_Q_hit_II_51 : decode b_Q_hit_II 51 = .ok (.iaload, 1) := by decide +kernel
theorem d_Q_hit_II_52 : decode b_Q_hit_II 52 = .ok (.goto 9, 3) := by decide +kernel
theorem d_Q_hit_II_55 : decode b_Q_hit_II 55 = .ok (.aload_n 0, 1) := by decide +kernel
theorem d_Q_hit_II_56 : decode b_Q_hit_II 56 = .ok (.getfield 62, 3) := by decide +kernel
theorem d_Q_hit_II_59 : decode b_Q_hit_II 59 = .ok (.iload_n 1, 1) := by decide +kernel
theorem d_Q_hit_II_60 : decode b_Q_hit_II 60 = .ok (.iaload, 1) := by decide +kernel
theorem d_Q_hit_II_61 : decode b_Q_hit_II 61 = .ok (.ireturn, 1) := by decide +kernel
theorem d_Q_hit_II_62 : decode b_Q_hit_II 62 = .ok (.aload_n 0, 1) := by decide +kernel
theorem d_Q_hit_II_63 : decode b_Q_hit_II 63 = .ok (.getfield 154, 3) := by decide +kernel
theorem d_Q_hit_II_66 : decode b_Q_hit_II 66 = .ok (.iconst 1, 1) := by decide +kernel
theorem d_Q_hit_II_67 : decode b_Q_hit_II 67 = .ok (.if_icmp .ne 7, 3) := by decide +kernel
theorem d_Q_hit_II_70 : decode b_Q_hit_II 70 = .ok (.iconst 4, 1) := by decide +kernel
theorem d_Q_hit_II_71 : decode b_Q_hit_II 71 = .ok (.goto 17, 3) := by decide +kernel
theorem d_Q_hit_II_74 : decode b_Q_hit_II 74 = .ok (.aload_n 0, 1) := by decide +kernel
theorem d_Q_hit_II_75 : decode b_Q_hit_II 75 = .ok (.getfield 154, 3) := by decide +kernel
theorem d_Q_hit_II_78 : decode b_Q_hit_II 78 = .ok (.iconst 2, 1) := by decide +kernel
theorem d_Q_hit_II_79 : decode b_Q_hit_II 79 = .ok (.if_icmp .ne 8, 3) := by decide +kernel
theorem d_Q_hit_II_82 : decode b_Q_hit_II 82 = .ok (.bipush 8, 2) := by decide +kernel
theorem d_Q_hit_II_84 : decode b_Q_hit_II 84 = .ok (.goto 4, 3) := by decide +kernel
theorem d_Q_hit_II_87 : decode b_Q_hit_II 87 = .ok (.iconst 0, 1) := by decide +kernel
theorem d_Q_hit_II_88 : decode b_Q_hit_II 88 = .ok (.istore_n 3, 1) := by decide +kernel
theorem d_Q_hit_II_89 : decode b_Q_hit_II 89 = .ok (.iload_n 2, 1) := by decide +kernel
theorem d_Q_hit_II_90 : decode b_Q_hit_II 90 = .ok (.iconst 4, 1) := by decide +kernel
theorem d_Q_hit_II_91 : decode b_Q_hit_II 91 = .ok (.if_icmp .lt 10, 3) := by decide +kernel
theorem d_Q_hit_II_94 : decode b_Q_hit_II 94 = .ok (.iload_n 2, 1) := by decide +kernel
theorem d_Q_hit_II_95 : decode b_Q_hit_II 95 = .ok (.iconst 4, 1) := by decide +kernel
theorem d_Q_hit_II_96 : decode b_Q_hit_II 96 = .ok (.iload_n 3, 1) := by decide +kernel
theorem d_Q_hit_II_97 : decode b_Q_hit_II 97 = .ok (.iadd, 1) := by decide +kernel
theorem d_Q_hit_II_98 : decode b_Q_hit_II 98 = .ok (.if_icmp .lt 7, 3) := by decide +kernel
theorem d_Q_hit_II_101 : decode b_Q_hit_II 101 = .ok (.iconst (-1), 1) := by decide +kernel
theorem d_Q_hit_II_102 : decode b_Q_hit_II 102 = .ok (.goto 16, 3) := by decide +kernel
theorem d_Q_hit_II_105 : decode b_Q_hit_II 105 = .ok (.aload_n 0, 1) := by decide +kernel
theorem d_Q_hit_II_106 : decode b_Q_hit_II 106 = .ok (.getfield 65, 3) := by decide +kernel
theorem d_Q_hit_II_109 : decode b_Q_hit_II 109 = .ok (.bipush 8, 2) := by decide +kernel
theorem d_Q_hit_II_111 : decode b_Q_hit_II 111 = .ok (.iload_n 1, 1) := by decide +kernel
theorem d_Q_hit_II_112 : decode b_Q_hit_II 112 = .ok (.imul, 1) := by decide +kernel
theorem d_Q_hit_II_113 : decode b_Q_hit_II 113 = .ok (.iload_n 2, 1) := by decide +kernel
theorem d_Q_hit_II_114 : decode b_Q_hit_II 114 = .ok (.iadd, 1) := by decide +kernel
theorem d_Q_hit_II_115 : decode b_Q_hit_II 115 = .ok (.iconst 4, 1) := by decide +kernel
theorem d_Q_hit_II_116 : decode b_Q_hit_II 116 = .ok (.isub, 1) := by decide +kernel
theorem d_Q_hit_II_117 : decode b_Q_hit_II 117 = .ok (.iaload, 1) := by decide +kernel
theorem d_Q_hit_II_118 : decode b_Q_hit_II 118 = .ok (.ireturn, 1) := by decide +kernel
theorem k4_92 : Cond.fieldLink "ShapeSearchModel" 71 "ShapeSearchModel" "bound" "[I" ∈ BG := List.mem_filter.mpr ⟨in_4 (List.mem_of_getElem? (i := 92) rfl), rfl⟩
theorem k4_93 : Cond.fieldLink "ShapeSearchModel" 74 "ShapeSearchModel" "waits" "[I" ∈ BG := List.mem_filter.mpr ⟨in_4 (List.mem_of_getElem? (i := 93) rfl), rfl⟩
theorem k4_94 : Cond.fieldLink "ShapeSearchModel" 77 "ShapeSearchModel" "waitsFor" "[I" ∈ BG := List.mem_filter.mpr ⟨in_4 (List.mem_of_getElem? (i := 94) rfl), rfl⟩
theorem k4_91 : Cond.fieldLink "ShapeSearchModel" 68 "ShapeSearchModel" "image" "[I" ∈ BG := List.mem_filter.mpr ⟨in_4 (List.mem_of_getElem? (i := 91) rfl), rfl⟩
theorem k4_98 : Cond.fieldLink "ShapeSearchModel" 90 "ShapeSearchModel" "looked" "[I" ∈ BG := List.mem_filter.mpr ⟨in_4 (List.mem_of_getElem? (i := 98) rfl), rfl⟩
theorem k4_95 : Cond.fieldLink "ShapeSearchModel" 80 "ShapeSearchModel" "seen" "[Z" ∈ BG := List.mem_filter.mpr ⟨in_4 (List.mem_of_getElem? (i := 95) rfl), rfl⟩
theorem k5_11 : Cond.methodLink "ShapeSearchModel" 160 ⟨"ShapeSearchModel", "matches", "(IIZ)Z"⟩ ∈ BG := List.mem_filter.mpr ⟨in_5 (List.mem_of_getElem? (i := 11) rfl), rfl⟩
theorem k5_14 : Cond.code ⟨"ShapeSearchModel", "matches", "(IIZ)Z"⟩ prog_9_method_19_code 8 (some .boolean) ∈ BG := List.mem_filter.mpr ⟨in_5 (List.mem_of_getElem? (i := 14) rfl), rfl⟩
theorem k5_13 : Cond.instanceMethod ⟨"ShapeSearchModel", "matches", "(IIZ)Z"⟩ ∈ BG := List.mem_filter.mpr ⟨in_5 (List.mem_of_getElem? (i := 13) rfl), rfl⟩
theorem k4_87 : Cond.fieldLink "ShapeSearchModel" 56 "ShapeSearchModel" "hitOf" "[I" ∈ BG := List.mem_filter.mpr ⟨in_4 (List.mem_of_getElem? (i := 87) rfl), rfl⟩
theorem k4_88 : Cond.fieldLink "ShapeSearchModel" 59 "ShapeSearchModel" "hitOne" "[I" ∈ BG := List.mem_filter.mpr ⟨in_4 (List.mem_of_getElem? (i := 88) rfl), rfl⟩
theorem k4_89 : Cond.fieldLink "ShapeSearchModel" 62 "ShapeSearchModel" "hitTwo" "[I" ∈ BG := List.mem_filter.mpr ⟨in_4 (List.mem_of_getElem? (i := 89) rfl), rfl⟩
theorem k4_90 : Cond.fieldLink "ShapeSearchModel" 65 "ShapeSearchModel" "hitTerms" "[I" ∈ BG := List.mem_filter.mpr ⟨in_4 (List.mem_of_getElem? (i := 90) rfl), rfl⟩
theorem k5_7 : Cond.methodLink "ShapeSearchModel" 164 ⟨"ShapeSearchModel", "firstMatch", "(II)I"⟩ ∈ BG := List.mem_filter.mpr ⟨in_5 (List.mem_of_getElem? (i := 7) rfl), rfl⟩
theorem k5_10 : Cond.code ⟨"ShapeSearchModel", "firstMatch", "(II)I"⟩ prog_9_method_20_code 7 (some .int) ∈ BG := List.mem_filter.mpr ⟨in_5 (List.mem_of_getElem? (i := 10) rfl), rfl⟩
theorem k5_9 : Cond.instanceMethod ⟨"ShapeSearchModel", "firstMatch", "(II)I"⟩ ∈ BG := List.mem_filter.mpr ⟨in_5 (List.mem_of_getElem? (i := 9) rfl), rfl⟩
theorem k5_19 : Cond.methodLink "ShapeSearchModel" 167 ⟨"ShapeSearchModel", "hit", "(III)V"⟩ ∈ BG := List.mem_filter.mpr ⟨in_5 (List.mem_of_getElem? (i := 19) rfl), rfl⟩
theorem k5_22 : Cond.code ⟨"ShapeSearchModel", "hit", "(III)V"⟩ prog_9_method_22_code 5 (none : Option Jvm.ClassFile.FieldType) ∈ BG := List.mem_filter.mpr ⟨in_5 (List.mem_of_getElem? (i := 22) rfl), rfl⟩
theorem k5_21 : Cond.instanceMethod ⟨"ShapeSearchModel", "hit", "(III)V"⟩ ∈ BG := List.mem_filter.mpr ⟨in_5 (List.mem_of_getElem? (i := 21) rfl), rfl⟩
theorem k5_27 : Cond.methodLink "ShapeSearchModel" 171 ⟨"ShapeSearchModel", "wrongGoal", "(I)I"⟩ ∈ BG := List.mem_filter.mpr ⟨in_5 (List.mem_of_getElem? (i := 27) rfl), rfl⟩
theorem k5_30 : Cond.code ⟨"ShapeSearchModel", "wrongGoal", "(I)I"⟩ prog_9_method_23_code 2 (some .int) ∈ BG := List.mem_filter.mpr ⟨in_5 (List.mem_of_getElem? (i := 30) rfl), rfl⟩
theorem k5_29 : Cond.instanceMethod ⟨"ShapeSearchModel", "wrongGoal", "(I)I"⟩ ∈ BG := List.mem_filter.mpr ⟨in_5 (List.mem_of_getElem? (i := 29) rfl), rfl⟩
theorem k5_31 : Cond.methodLink "ShapeSearchModel" 175 ⟨"ShapeSearchModel", "open", "(I)I"⟩ ∈ BG := List.mem_filter.mpr ⟨in_5 (List.mem_of_getElem? (i := 31) rfl), rfl⟩
theorem k5_34 : Cond.code ⟨"ShapeSearchModel", "open", "(I)I"⟩ prog_9_method_17_code 4 (some .int) ∈ BG := List.mem_filter.mpr ⟨in_5 (List.mem_of_getElem? (i := 34) rfl), rfl⟩
theorem k5_33 : Cond.instanceMethod ⟨"ShapeSearchModel", "open", "(I)I"⟩ ∈ BG := List.mem_filter.mpr ⟨in_5 (List.mem_of_getElem? (i := 33) rfl), rfl⟩
theorem k5_35 : Cond.methodLink "ShapeSearchModel" 178 ⟨"ShapeSearchModel", "many", "(I)I"⟩ ∈ BG := List.mem_filter.mpr ⟨in_5 (List.mem_of_getElem? (i := 35) rfl), rfl⟩
theorem k5_37 : Cond.code ⟨"ShapeSearchModel", "many", "(I)I"⟩ prog_9_method_18_code 3 (some .int) ∈ BG := List.mem_filter.mpr ⟨in_5 (List.mem_of_getElem? (i := 37) rfl), rfl⟩
theorem k5_36 : Cond.static ⟨"ShapeSearchModel", "many", "(I)I"⟩ ∈ BG := List.mem_filter.mpr ⟨in_5 (List.mem_of_getElem? (i := 36) rfl), rfl⟩
theorem k5_42 : Cond.methodLink "ShapeSearchModel" 181 ⟨"ShapeSearchModel", "namesOf", "(I)I"⟩ ∈ BG := List.mem_filter.mpr ⟨in_5 (List.mem_of_getElem? (i := 42) rfl), rfl⟩
theorem k5_45 : Cond.code ⟨"ShapeSearchModel", "namesOf", "(I)I"⟩ prog_9_method_25_code 4 (some .int) ∈ BG := List.mem_filter.mpr ⟨in_5 (List.mem_of_getElem? (i := 45) rfl), rfl⟩
theorem k5_44 : Cond.instanceMethod ⟨"ShapeSearchModel", "namesOf", "(I)I"⟩ ∈ BG := List.mem_filter.mpr ⟨in_5 (List.mem_of_getElem? (i := 44) rfl), rfl⟩
abbrev wv_49 (cI cJ cZ : ClassId) (aQ aQ_kinds aQ_which aQ_firsts aQ_seconds aQ_thirds aQ_nexts aQ_heads aQ_names aQ_variables aQ_holes aQ_sizes aQ_places aQ_conclusions aQ_premises aQ_counts aQ_hitOf aQ_hitOne aQ_hitTwo aQ_hitTerms aQ_image aQ_bound aQ_waits aQ_waitsFor aQ_seen aQ_goals aQ_steps aQ_looked aQ_under aQ_taken aQ_news aQ_order aQ_there aQ_back : Nat) (Q_thrown : Int32) (Q_all : Int32) (Q_statements : Int32) (Q_hitKind : Int32) (Q_hits : Int32) (Q_tries : Int32) (Q_takenAll : Int32) (Q_takenFirst : Int32) (Q_kinds : (Nat → Int32)) (Q_which : (Nat → Int32)) (Q_firsts : (Nat → Int32)) (Q_seconds : (Nat → Int32)) (Q_thirds : (Nat → Int32)) (Q_variables : (Nat → Int32)) (Q_holes : (Nat → Int32)) (Q_places : (Nat → Int32)) (Q_image : (Nat → Int32)) (Q_bound : (Nat → Int32)) (Q_waits : (Nat → Int32)) (Q_waitsFor : (Nat → Int32)) : va_W := [(aQ, .inr (7, [.int Q_thrown, .ref aQ_kinds, .ref aQ_which, .ref aQ_firsts, .ref aQ_seconds, .ref aQ_thirds, .ref aQ_nexts, .ref aQ_heads, .int Q_all, .ref aQ_names, .ref aQ_variables, .ref aQ_holes, .ref aQ_sizes, .ref aQ_places, .ref aQ_conclusions, .ref aQ_premises, .ref aQ_counts, .int Q_statements, .int Q_hitKind, .int Q_hits, .ref aQ_hitOf, .ref aQ_hitOne, .ref aQ_hitTwo, .ref aQ_hitTerms, .ref aQ_image, .ref aQ_bound, .ref aQ_waits, .ref aQ_waitsFor, .ref aQ_seen, .ref aQ_goals, .ref aQ_steps, .ref aQ_looked, .ref aQ_under, .ref aQ_taken, .ref aQ_news, .ref aQ_order, .int Q_tries, .int Q_takenAll, .int Q_takenFirst, .ref aQ_there, .ref aQ_back])), (aQ_kinds, .inl (cI, 101100, .inl Q_kinds)), (aQ_which, .inl (cI, 101100, .inl Q_which)), (aQ_firsts, .inl (cI, 101100, .inl Q_firsts)), (aQ_seconds, .inl (cI, 101100, .inl Q_seconds)), (aQ_thirds, .inl (cI, 101100, .inl Q_thirds)), (aQ_variables, .inl (cI, 100, .inl Q_variables)), (aQ_holes, .inl (cI, 100, .inl Q_holes)), (aQ_places, .inl (cI, 30, .inl Q_places)), (aQ_image, .inl (cI, 100, .inl Q_image)), (aQ_bound, .inl (cI, 8, .inl Q_bound)), (aQ_waits, .inl (cI, 400, .inl Q_waits)), (aQ_waitsFor, .inl (cI, 400, .inl Q_waitsFor))]
abbrev wv_50 (cI cJ cZ : ClassId) (aQ aQ_kinds aQ_which aQ_firsts aQ_seconds aQ_thirds aQ_nexts aQ_heads aQ_names aQ_variables aQ_holes aQ_sizes aQ_places aQ_conclusions aQ_premises aQ_counts aQ_hitOf aQ_hitOne aQ_hitTwo aQ_hitTerms aQ_image aQ_bound aQ_waits aQ_waitsFor aQ_seen aQ_goals aQ_steps aQ_looked aQ_under aQ_taken aQ_news aQ_order aQ_there aQ_back : Nat) (Q_thrown : Int32) (Q_all : Int32) (Q_statements : Int32) (Q_hitKind : Int32) (Q_hits : Int32) (Q_tries : Int32) (Q_takenAll : Int32) (Q_takenFirst : Int32) (Q_kinds : (Nat → Int32)) (Q_which : (Nat → Int32)) (Q_firsts : (Nat → Int32)) (Q_seconds : (Nat → Int32)) (Q_thirds : (Nat → Int32)) (Q_variables : (Nat → Int32)) (Q_holes : (Nat → Int32)) (Q_places : (Nat → Int32)) (Q_image : (Nat → Int32)) (Q_bound : (Nat → Int32)) (Q_waits : (Nat → Int32)) (Q_waitsFor : (Nat → Int32)) (Q_seen : (Nat → Int32)) (Q_looked : (Nat → Int32)) : va_W := [(aQ, .inr (7, [.int Q_thrown, .ref aQ_kinds, .ref aQ_which, .ref aQ_firsts, .ref aQ_seconds, .ref aQ_thirds, .ref aQ_nexts, .ref aQ_heads, .int Q_all, .ref aQ_names, .ref aQ_variables, .ref aQ_holes, .ref aQ_sizes, .ref aQ_places, .ref aQ_conclusions, .ref aQ_premises, .ref aQ_counts, .int Q_statements, .int Q_hitKind, .int Q_hits, .ref aQ_hitOf, .ref aQ_hitOne, .ref aQ_hitTwo, .ref aQ_hitTerms, .ref aQ_image, .ref aQ_bound, .ref aQ_waits, .ref aQ_waitsFor, .ref aQ_seen, .ref aQ_goals, .ref aQ_steps, .ref aQ_looked, .ref aQ_under, .ref aQ_taken, .ref aQ_news, .ref aQ_order, .int Q_tries, .int Q_takenAll, .int Q_takenFirst, .ref aQ_there, .ref aQ_back])), (aQ_kinds, .inl (cI, 101100, .inl Q_kinds)), (aQ_which, .inl (cI, 101100, .inl Q_which)), (aQ_firsts, .inl (cI, 101100, .inl Q_firsts)), (aQ_seconds, .inl (cI, 101100, .inl Q_seconds)), (aQ_thirds, .inl (cI, 101100, .inl Q_thirds)), (aQ_variables, .inl (cI, 100, .inl Q_variables)), (aQ_holes, .inl (cI, 100, .inl Q_holes)), (aQ_places, .inl (cI, 30, .inl Q_places)), (aQ_image, .inl (cI, 100, .inl Q_image)), (aQ_bound, .inl (cI, 8, .inl Q_bound)), (aQ_waits, .inl (cI, 400, .inl Q_waits)), (aQ_waitsFor, .inl (cI, 400, .inl Q_waitsFor)), (aQ_seen, .inl (cZ, 100, .inl Q_seen)), (aQ_looked, .inl (cI, 1002, .inl Q_looked))]
abbrev wv_51 (cI cJ cZ : ClassId) (aQ aQ_kinds aQ_which aQ_firsts aQ_seconds aQ_thirds aQ_nexts aQ_heads aQ_names aQ_variables aQ_holes aQ_sizes aQ_places aQ_conclusions aQ_premises aQ_counts aQ_hitOf aQ_hitOne aQ_hitTwo aQ_hitTerms aQ_image aQ_bound aQ_waits aQ_waitsFor aQ_seen aQ_goals aQ_steps aQ_looked aQ_under aQ_taken aQ_news aQ_order aQ_there aQ_back : Nat) (Q_thrown : Int32) (Q_all : Int32) (Q_statements : Int32) (Q_hitKind : Int32) (Q_hits : Int32) (Q_tries : Int32) (Q_takenAll : Int32) (Q_takenFirst : Int32) (Q_hitOf : (Nat → Int32)) (Q_hitOne : (Nat → Int32)) (Q_hitTwo : (Nat → Int32)) (Q_hitTerms : (Nat → Int32)) (Q_bound : (Nat → Int32)) : va_W := [(aQ, .inr (7, [.int Q_thrown, .ref aQ_kinds, .ref aQ_which, .ref aQ_firsts, .ref aQ_seconds, .ref aQ_thirds, .ref aQ_nexts, .ref aQ_heads, .int Q_all, .ref aQ_names, .ref aQ_variables, .ref aQ_holes, .ref aQ_sizes, .ref aQ_places, .ref aQ_conclusions, .ref aQ_premises, .ref aQ_counts, .int Q_statements, .int Q_hitKind, .int Q_hits, .ref aQ_hitOf, .ref aQ_hitOne, .ref aQ_hitTwo, .ref aQ_hitTerms, .ref aQ_image, .ref aQ_bound, .ref aQ_waits, .ref aQ_waitsFor, .ref aQ_seen, .ref aQ_goals, .ref aQ_steps, .ref aQ_looked, .ref aQ_under, .ref aQ_taken, .ref aQ_news, .ref aQ_order, .int Q_tries, .int Q_takenAll, .int Q_takenFirst, .ref aQ_there, .ref aQ_back])), (aQ_hitOf, .inl (cI, 30, .inl Q_hitOf)), (aQ_hitOne, .inl (cI, 30, .inl Q_hitOne)), (aQ_hitTwo, .inl (cI, 30, .inl Q_hitTwo)), (aQ_hitTerms, .inl (cI, 240, .inl Q_hitTerms)), (aQ_bound, .inl (cI, 8, .inl Q_bound))]
abbrev wv_52 (cI cJ cZ : ClassId) (aQ aQ_kinds aQ_which aQ_firsts aQ_seconds aQ_thirds aQ_nexts aQ_heads aQ_names aQ_variables aQ_holes aQ_sizes aQ_places aQ_conclusions aQ_premises aQ_counts aQ_hitOf aQ_hitOne aQ_hitTwo aQ_hitTerms aQ_image aQ_bound aQ_waits aQ_waitsFor aQ_seen aQ_goals aQ_steps aQ_looked aQ_under aQ_taken aQ_news aQ_order aQ_there aQ_back : Nat) (Q_thrown : Int32) (Q_all : Int32) (Q_statements : Int32) (Q_hitKind : Int32) (Q_hits : Int32) (Q_tries : Int32) (Q_takenAll : Int32) (Q_takenFirst : Int32) (Q_kinds : (Nat → Int32)) (Q_which : (Nat → Int32)) (Q_firsts : (Nat → Int32)) (Q_seconds : (Nat → Int32)) (Q_thirds : (Nat → Int32)) (Q_variables : (Nat → Int32)) (Q_holes : (Nat → Int32)) (Q_places : (Nat → Int32)) (Q_conclusions : (Nat → Int32)) (Q_premises : (Nat → Int32)) (Q_counts : (Nat → Int32)) (Q_hitOf : (Nat → Int32)) (Q_hitOne : (Nat → Int32)) (Q_hitTwo : (Nat → Int32)) (Q_hitTerms : (Nat → Int32)) (Q_image : (Nat → Int32)) (Q_bound : (Nat → Int32)) (Q_waits : (Nat → Int32)) (Q_waitsFor : (Nat → Int32)) (Q_seen : (Nat → Int32)) (Q_looked : (Nat → Int32)) : va_W := [(aQ, .inr (7, [.int Q_thrown, .ref aQ_kinds, .ref aQ_which, .ref aQ_firsts, .ref aQ_seconds, .ref aQ_thirds, .ref aQ_nexts, .ref aQ_heads, .int Q_all, .ref aQ_names, .ref aQ_variables, .ref aQ_holes, .ref aQ_sizes, .ref aQ_places, .ref aQ_conclusions, .ref aQ_premises, .ref aQ_counts, .int Q_statements, .int Q_hitKind, .int Q_hits, .ref aQ_hitOf, .ref aQ_hitOne, .ref aQ_hitTwo, .ref aQ_hitTerms, .ref aQ_image, .ref aQ_bound, .ref aQ_waits, .ref aQ_waitsFor, .ref aQ_seen, .ref aQ_goals, .ref aQ_steps, .ref aQ_looked, .ref aQ_under, .ref aQ_taken, .ref aQ_news, .ref aQ_order, .int Q_tries, .int Q_takenAll, .int Q_takenFirst, .ref aQ_there, .ref aQ_back])), (aQ_kinds, .inl (cI, 101100, .inl Q_kinds)), (aQ_which, .inl (cI, 101100, .inl Q_which)), (aQ_firsts, .inl (cI, 101100, .inl Q_firsts)), (aQ_seconds, .inl (cI, 101100, .inl Q_seconds)), (aQ_thirds, .inl (cI, 101100, .inl Q_thirds)), (aQ_variables, .inl (cI, 100, .inl Q_variables)), (aQ_holes, .inl (cI, 100, .inl Q_holes)), (aQ_places, .inl (cI, 30, .inl Q_places)), (aQ_conclusions, .inl (cI, 30, .inl Q_conclusions)), (aQ_premises, .inl (cI, 120, .inl Q_premises)), (aQ_counts, .inl (cI, 30, .inl Q_counts)), (aQ_hitOf, .inl (cI, 30, .inl Q_hitOf)), (aQ_hitOne, .inl (cI, 30, .inl Q_hitOne)), (aQ_hitTwo, .inl (cI, 30, .inl Q_hitTwo)), (aQ_hitTerms, .inl (cI, 240, .inl Q_hitTerms)), (aQ_image, .inl (cI, 100, .inl Q_image)), (aQ_bound, .inl (cI, 8, .inl Q_bound)), (aQ_waits, .inl (cI, 400, .inl Q_waits)), (aQ_waitsFor, .inl (cI, 400, .inl Q_waitsFor)), (aQ_seen, .inl (cZ, 100, .inl Q_seen)), (aQ_looked, .inl (cI, 1002, .inl Q_looked))]
abbrev wv_53 (cI cJ cZ : ClassId) (aQ aQ_kinds aQ_which aQ_firsts aQ_seconds aQ_thirds aQ_nexts aQ_heads aQ_names aQ_variables aQ_holes aQ_sizes aQ_places aQ_conclusions aQ_premises aQ_counts aQ_hitOf aQ_hitOne aQ_hitTwo aQ_hitTerms aQ_image aQ_bound aQ_waits aQ_waitsFor aQ_seen aQ_goals aQ_steps aQ_looked aQ_under aQ_taken aQ_news aQ_order aQ_there aQ_back : Nat) (Q_thrown : Int32) (Q_all : Int32) (Q_statements : Int32) (Q_hitKind : Int32) (Q_hits : Int32) (Q_tries : Int32) (Q_takenAll : Int32) (Q_takenFirst : Int32) (Q_holes : (Nat → Int32)) : va_W := [(aQ, .inr (7, [.int Q_thrown, .ref aQ_kinds, .ref aQ_which, .ref aQ_firsts, .ref aQ_seconds, .ref aQ_thirds, .ref aQ_nexts, .ref aQ_heads, .int Q_all, .ref aQ_names, .ref aQ_variables, .ref aQ_holes, .ref aQ_sizes, .ref aQ_places, .ref aQ_conclusions, .ref aQ_premises, .ref aQ_counts, .int Q_statements, .int Q_hitKind, .int Q_hits, .ref aQ_hitOf, .ref aQ_hitOne, .ref aQ_hitTwo, .ref aQ_hitTerms, .ref aQ_image, .ref aQ_bound, .ref aQ_waits, .ref aQ_waitsFor, .ref aQ_seen, .ref aQ_goals, .ref aQ_steps, .ref aQ_looked, .ref aQ_under, .ref aQ_taken, .ref aQ_news, .ref aQ_order, .int Q_tries, .int Q_takenAll, .int Q_takenFirst, .ref aQ_there, .ref aQ_back])), (aQ_holes, .inl (cI, 100, .inl Q_holes))]
abbrev wv_54 (cI cJ cZ : ClassId) (aQ aQ_kinds aQ_which aQ_firsts aQ_seconds aQ_thirds aQ_nexts aQ_heads aQ_names aQ_variables aQ_holes aQ_sizes aQ_places aQ_conclusions aQ_premises aQ_counts aQ_hitOf aQ_hitOne aQ_hitTwo aQ_hitTerms aQ_image aQ_bound aQ_waits aQ_waitsFor aQ_seen aQ_goals aQ_steps aQ_looked aQ_under aQ_taken aQ_news aQ_order aQ_there aQ_back : Nat) (Q_thrown : Int32) (Q_all : Int32) (Q_statements : Int32) (Q_hitKind : Int32) (Q_hits : Int32) (Q_tries : Int32) (Q_takenAll : Int32) (Q_takenFirst : Int32) (Q_kinds : (Nat → Int32)) (Q_which : (Nat → Int32)) (Q_firsts : (Nat → Int32)) (Q_seconds : (Nat → Int32)) (Q_thirds : (Nat → Int32)) (Q_variables : (Nat → Int32)) (Q_holes : (Nat → Int32)) (Q_places : (Nat → Int32)) (Q_conclusions : (Nat → Int32)) (Q_premises : (Nat → Int32)) (Q_counts : (Nat → Int32)) (Q_hitOf : (Nat → Int32)) (Q_hitOne : (Nat → Int32)) (Q_hitTwo : (Nat → Int32)) (Q_hitTerms : (Nat → Int32)) (Q_image : (Nat → Int32)) (Q_bound : (Nat → Int32)) (Q_waits : (Nat → Int32)) (Q_waitsFor : (Nat → Int32)) : va_W := [(aQ, .inr (7, [.int Q_thrown, .ref aQ_kinds, .ref aQ_which, .ref aQ_firsts, .ref aQ_seconds, .ref aQ_thirds, .ref aQ_nexts, .ref aQ_heads, .int Q_all, .ref aQ_names, .ref aQ_variables, .ref aQ_holes, .ref aQ_sizes, .ref aQ_places, .ref aQ_conclusions, .ref aQ_premises, .ref aQ_counts, .int Q_statements, .int Q_hitKind, .int Q_hits, .ref aQ_hitOf, .ref aQ_hitOne, .ref aQ_hitTwo, .ref aQ_hitTerms, .ref aQ_image, .ref aQ_bound, .ref aQ_waits, .ref aQ_waitsFor, .ref aQ_seen, .ref aQ_goals, .ref aQ_steps, .ref aQ_looked, .ref aQ_under, .ref aQ_taken, .ref aQ_news, .ref aQ_order, .int Q_tries, .int Q_takenAll, .int Q_takenFirst, .ref aQ_there, .ref aQ_back])), (aQ_kinds, .inl (cI, 101100, .inl Q_kinds)), (aQ_which, .inl (cI, 101100, .inl Q_which)), (aQ_firsts, .inl (cI, 101100, .inl Q_firsts)), (aQ_seconds, .inl (cI, 101100, .inl Q_seconds)), (aQ_thirds, .inl (cI, 101100, .inl Q_thirds)), (aQ_variables, .inl (cI, 100, .inl Q_variables)), (aQ_holes, .inl (cI, 100, .inl Q_holes)), (aQ_places, .inl (cI, 30, .inl Q_places)), (aQ_conclusions, .inl (cI, 30, .inl Q_conclusions)), (aQ_premises, .inl (cI, 120, .inl Q_premises)), (aQ_counts, .inl (cI, 30, .inl Q_counts)), (aQ_hitOf, .inl (cI, 30, .inl Q_hitOf)), (aQ_hitOne, .inl (cI, 30, .inl Q_hitOne)), (aQ_hitTwo, .inl (cI, 30, .inl Q_hitTwo)), (aQ_hitTerms, .inl (cI, 240, .inl Q_hitTerms)), (aQ_image, .inl (cI, 100, .inl Q_image)), (aQ_bound, .inl (cI, 8, .inl Q_bound)), (aQ_waits, .inl (cI, 400, .inl Q_waits)), (aQ_waitsFor, .inl (cI, 400, .inl Q_waitsFor))]
abbrev wv_55 (cI cJ cZ : ClassId) (aQ aQ_kinds aQ_which aQ_firsts aQ_seconds aQ_thirds aQ_nexts aQ_heads aQ_names aQ_variables aQ_holes aQ_sizes aQ_places aQ_conclusions aQ_premises aQ_counts aQ_hitOf aQ_hitOne aQ_hitTwo aQ_hitTerms aQ_image aQ_bound aQ_waits aQ_waitsFor aQ_seen aQ_goals aQ_steps aQ_looked aQ_under aQ_taken aQ_news aQ_order aQ_there aQ_back : Nat) (Q_thrown : Int32) (Q_all : Int32) (Q_statements : Int32) (Q_hitKind : Int32) (Q_hits : Int32) (Q_tries : Int32) (Q_takenAll : Int32) (Q_takenFirst : Int32) (Q_names : (Nat → Int32)) (Q_conclusions : (Nat → Int32)) (Q_premises : (Nat → Int32)) (Q_counts : (Nat → Int32)) : va_W := [(aQ, .inr (7, [.int Q_thrown, .ref aQ_kinds, .ref aQ_which, .ref aQ_firsts, .ref aQ_seconds, .ref aQ_thirds, .ref aQ_nexts, .ref aQ_heads, .int Q_all, .ref aQ_names, .ref aQ_variables, .ref aQ_holes, .ref aQ_sizes, .ref aQ_places, .ref aQ_conclusions, .ref aQ_premises, .ref aQ_counts, .int Q_statements, .int Q_hitKind, .int Q_hits, .ref aQ_hitOf, .ref aQ_hitOne, .ref aQ_hitTwo, .ref aQ_hitTerms, .ref aQ_image, .ref aQ_bound, .ref aQ_waits, .ref aQ_waitsFor, .ref aQ_seen, .ref aQ_goals, .ref aQ_steps, .ref aQ_looked, .ref aQ_under, .ref aQ_taken, .ref aQ_news, .ref aQ_order, .int Q_tries, .int Q_takenAll, .int Q_takenFirst, .ref aQ_there, .ref aQ_back])), (aQ_names, .inl (cI, 100, .inl Q_names)), (aQ_conclusions, .inl (cI, 30, .inl Q_conclusions)), (aQ_premises, .inl (cI, 120, .inl Q_premises)), (aQ_counts, .inl (cI, 30, .inl Q_counts))]
abbrev wv_56 (cI cJ cZ : ClassId) (aQ aQ_kinds aQ_which aQ_firsts aQ_seconds aQ_thirds aQ_nexts aQ_heads aQ_names aQ_variables aQ_holes aQ_sizes aQ_places aQ_conclusions aQ_premises aQ_counts aQ_hitOf aQ_hitOne aQ_hitTwo aQ_hitTerms aQ_image aQ_bound aQ_waits aQ_waitsFor aQ_seen aQ_goals aQ_steps aQ_looked aQ_under aQ_taken aQ_news aQ_order aQ_there aQ_back : Nat) (Q_thrown : Int32) (Q_all : Int32) (Q_statements : Int32) (Q_hitKind : Int32) (Q_hits : Int32) (Q_tries : Int32) (Q_takenAll : Int32) (Q_takenFirst : Int32) (Q_names : (Nat → Int32)) (Q_holes : (Nat → Int32)) (Q_conclusions : (Nat → Int32)) (Q_premises : (Nat → Int32)) (Q_counts : (Nat → Int32)) (Q_hitOf : (Nat → Int32)) (Q_hitOne : (Nat → Int32)) (Q_hitTwo : (Nat → Int32)) : va_W := [(aQ, .inr (7, [.int Q_thrown, .ref aQ_kinds, .ref aQ_which, .ref aQ_firsts, .ref aQ_seconds, .ref aQ_thirds, .ref aQ_nexts, .ref aQ_heads, .int Q_all, .ref aQ_names, .ref aQ_variables, .ref aQ_holes, .ref aQ_sizes, .ref aQ_places, .ref aQ_conclusions, .ref aQ_premises, .ref aQ_counts, .int Q_statements, .int Q_hitKind, .int Q_hits, .ref aQ_hitOf, .ref aQ_hitOne, .ref aQ_hitTwo, .ref aQ_hitTerms, .ref aQ_image, .ref aQ_bound, .ref aQ_waits, .ref aQ_waitsFor, .ref aQ_seen, .ref aQ_goals, .ref aQ_steps, .ref aQ_looked, .ref aQ_under, .ref aQ_taken, .ref aQ_news, .ref aQ_order, .int Q_tries, .int Q_takenAll, .int Q_takenFirst, .ref aQ_there, .ref aQ_back])), (aQ_names, .inl (cI, 100, .inl Q_names)), (aQ_holes, .inl (cI, 100, .inl Q_holes)), (aQ_conclusions, .inl (cI, 30, .inl Q_conclusions)), (aQ_premises, .inl (cI, 120, .inl Q_premises)), (aQ_counts, .inl (cI, 30, .inl Q_counts)), (aQ_hitOf, .inl (cI, 30, .inl Q_hitOf)), (aQ_hitOne, .inl (cI, 30, .inl Q_hitOne)), (aQ_hitTwo, .inl (cI, 30, .inl Q_hitTwo))]
abbrev wv_57 (cI cJ cZ : ClassId) (aQ aQ_kinds aQ_which aQ_firsts aQ_seconds aQ_thirds aQ_nexts aQ_heads aQ_names aQ_variables aQ_holes aQ_sizes aQ_places aQ_conclusions aQ_premises aQ_counts aQ_hitOf aQ_hitOne aQ_hitTwo aQ_hitTerms aQ_image aQ_bound aQ_waits aQ_waitsFor aQ_seen aQ_goals aQ_steps aQ_looked aQ_under aQ_taken aQ_news aQ_order aQ_there aQ_back : Nat) (Q_thrown : Int32) (Q_all : Int32) (Q_statements : Int32) (Q_hitKind : Int32) (Q_hits : Int32) (Q_tries : Int32) (Q_takenAll : Int32) (Q_takenFirst : Int32) (Q_hitOf : (Nat → Int32)) (Q_hitOne : (Nat → Int32)) (Q_hitTwo : (Nat → Int32)) (Q_hitTerms : (Nat → Int32)) : va_W := [(aQ, .inr (7, [.int Q_thrown, .ref aQ_kinds, .ref aQ_which, .ref aQ_firsts, .ref aQ_seconds, .ref aQ_thirds, .ref aQ_nexts, .ref aQ_heads, .int Q_all, .ref aQ_names, .ref aQ_variables, .ref aQ_holes, .ref aQ_sizes, .ref aQ_places, .ref aQ_conclusions, .ref aQ_premises, .ref aQ_counts, .int Q_statements, .int Q_hitKind, .int Q_hits, .ref aQ_hitOf, .ref aQ_hitOne, .ref aQ_hitTwo, .ref aQ_hitTerms, .ref aQ_image, .ref aQ_bound, .ref aQ_waits, .ref aQ_waitsFor, .ref aQ_seen, .ref aQ_goals, .ref aQ_steps, .ref aQ_looked, .ref aQ_under, .ref aQ_taken, .ref aQ_news, .ref aQ_order, .int Q_tries, .int Q_takenAll, .int Q_takenFirst, .ref aQ_there, .ref aQ_back])), (aQ_hitOf, .inl (cI, 30, .inl Q_hitOf)), (aQ_hitOne, .inl (cI, 30, .inl Q_hitOne)), (aQ_hitTwo, .inl (cI, 30, .inl Q_hitTwo)), (aQ_hitTerms, .inl (cI, 240, .inl Q_hitTerms))]
def f_Q_matches_L200 (Q_kinds : (Nat → Int32)) (Q_which : (Nat → Int32)) (Q_firsts : (Nat → Int32)) (Q_seconds : (Nat → Int32)) (Q_thirds : (Nat → Int32)) (Q_variables : (Nat → Int32)) (Q_holes : (Nat → Int32)) (Q_places : (Nat → Int32)) (K65 : (Nat → Int32) → (Nat → Int32) → (Nat → Int32) → (Nat → Int32) → Int32 → Int32 → Option (Int32 × (Nat → Int32) × (Nat → Int32) × (Nat → Int32) × (Nat → Int32))) : Nat → (Nat → Int32) → (Nat → Int32) → (Nat → Int32) → (Nat → Int32) → Int32 → Int32 → Int32 → Int32 → Int32 → Option (Int32 × (Nat → Int32) × (Nat → Int32) × (Nat → Int32) × (Nat → Int32))
  | 0, _, _, _, _, _, _, _, _, _ => none
  | n + 1, Q_image_200, Q_bound_200, Q_waits_200, Q_waitsFor_200, x3_200, x4_200, x5_200, x6_200, x7_200 =>
    gd (ixb x5_200 101100) <|
    gd (ixb (Q_which x5_200.toNatClampNeg) 30) <|
    if (Q_places (Q_which x5_200.toNatClampNeg).toNatClampNeg) ≤ x7_200 then
      K65 Q_image_200 Q_bound_200 Q_waits_200 Q_waitsFor_200 x3_200 x4_200
    else
      (f_Q_part Q_firsts Q_seconds Q_thirds x5_200 x7_200).bind fun r45 =>
      gd (ixb x4_200 400) <| nm (upd Q_waits_200 x4_200.toNatClampNeg r45) fun g47 =>
      (f_Q_part Q_firsts Q_seconds Q_thirds x6_200 x7_200).bind fun r48 =>
      gd (ixb x4_200 400) <| nm (upd Q_waitsFor_200 x4_200.toNatClampNeg r48) fun g50 =>
      nm (x4_200 + (1 : Int32)) fun x51 =>
      nm (x7_200 + (1 : Int32)) fun x52 =>
      (f_Q_matches_L200 Q_kinds Q_which Q_firsts Q_seconds Q_thirds Q_variables Q_holes Q_places K65 n) Q_image_200 Q_bound_200 g47 g50 x3_200 x51 x5_200 x6_200 x52
def f_Q_matches_B112 (Q_kinds : (Nat → Int32)) (Q_which : (Nat → Int32)) (Q_firsts : (Nat → Int32)) (Q_seconds : (Nat → Int32)) (Q_thirds : (Nat → Int32)) (Q_variables : (Nat → Int32)) (Q_holes : (Nat → Int32)) (Q_places : (Nat → Int32)) (K65 : (Nat → Int32) → (Nat → Int32) → (Nat → Int32) → (Nat → Int32) → Int32 → Int32 → Option (Int32 × (Nat → Int32) × (Nat → Int32) × (Nat → Int32) × (Nat → Int32))) (Q_image_112 : (Nat → Int32)) (Q_bound_112 : (Nat → Int32)) (Q_waits_112 : (Nat → Int32)) (Q_waitsFor_112 : (Nat → Int32)) (x3_112 : Int32) (x4_112 : Int32) (x5_112 : Int32) (x6_112 : Int32) (s0_112 : Int32) : Option (Int32 × (Nat → Int32) × (Nat → Int32) × (Nat → Int32) × (Nat → Int32)) :=
  if s0_112 = 0 then
    if x5_112 = x6_112 then
      K65 Q_image_112 Q_bound_112 Q_waits_112 Q_waitsFor_112 x3_112 x4_112
    else
      some ((0 : Int32), Q_image_112, Q_bound_112, Q_waits_112, Q_waitsFor_112)
  else
    gd (ixb x5_112 100) <|
    if (Q_image_112 x5_112.toNatClampNeg) = (-1 : Int32) then
      gd (ixb x5_112 101100) <|
      if (Q_kinds x5_112.toNatClampNeg) = 0 then
        gd (ixb x6_112 101100) <|
        if (Q_kinds x6_112.toNatClampNeg) = 0 then
          gd (ixb x6_112 101100) <|
          gd (ixb x5_112 101100) <|
          if (Q_which x6_112.toNatClampNeg) = (Q_which x5_112.toNatClampNeg) then
            gd (ixb x5_112 100) <| nm (upd Q_image_112 x5_112.toNatClampNeg x6_112) fun g38 =>
            f_Q_matches_L200 Q_kinds Q_which Q_firsts Q_seconds Q_thirds Q_variables Q_holes Q_places K65 FU g38 Q_bound_112 Q_waits_112 Q_waitsFor_112 x3_112 x4_112 x5_112 x6_112 (0 : Int32)
          else
            some ((0 : Int32), Q_image_112, Q_bound_112, Q_waits_112, Q_waitsFor_112)
        else
          some ((0 : Int32), Q_image_112, Q_bound_112, Q_waits_112, Q_waitsFor_112)
      else
        gd (ixb x5_112 100) <| nm (upd Q_image_112 x5_112.toNatClampNeg x6_112) fun g28 =>
        gd (ixb x5_112 101100) <|
        gd (ixb (Q_which x5_112.toNatClampNeg) 8) <| nm (upd Q_bound_112 (Q_which x5_112.toNatClampNeg).toNatClampNeg x6_112) fun g31 =>
        K65 g28 g31 Q_waits_112 Q_waitsFor_112 x3_112 x4_112
    else
      gd (ixb x5_112 100) <|
      if (Q_image_112 x5_112.toNatClampNeg) = x6_112 then
        K65 Q_image_112 Q_bound_112 Q_waits_112 Q_waitsFor_112 x3_112 x4_112
      else
        some ((0 : Int32), Q_image_112, Q_bound_112, Q_waits_112, Q_waitsFor_112)
def f_Q_matches_L65 (Q_kinds : (Nat → Int32)) (Q_which : (Nat → Int32)) (Q_firsts : (Nat → Int32)) (Q_seconds : (Nat → Int32)) (Q_thirds : (Nat → Int32)) (Q_variables : (Nat → Int32)) (Q_holes : (Nat → Int32)) (Q_places : (Nat → Int32)) : Nat → (Nat → Int32) → (Nat → Int32) → (Nat → Int32) → (Nat → Int32) → Int32 → Int32 → Option (Int32 × (Nat → Int32) × (Nat → Int32) × (Nat → Int32) × (Nat → Int32))
  | 0, _, _, _, _, _, _ => none
  | n + 1, Q_image_65, Q_bound_65, Q_waits_65, Q_waitsFor_65, x3_65, x4_65 =>
    if x4_65 ≤ 0 then
      some ((1 : Int32), Q_image_65, Q_bound_65, Q_waits_65, Q_waitsFor_65)
    else
      nm (x4_65 + (-1 : Int32)) fun x14 =>
      gd (ixb x14 400) <|
      nm (Q_waits_65 x14.toNatClampNeg) fun x16 =>
      gd (ixb x14 400) <|
      nm (Q_waitsFor_65 x14.toNatClampNeg) fun x18 =>
      if x3_65 = 0 then
        gd (ixb x16 100) <|
        f_Q_matches_B112 Q_kinds Q_which Q_firsts Q_seconds Q_thirds Q_variables Q_holes Q_places (f_Q_matches_L65 Q_kinds Q_which Q_firsts Q_seconds Q_thirds Q_variables Q_holes Q_places n) Q_image_65 Q_bound_65 Q_waits_65 Q_waitsFor_65 x3_65 x14 x16 x18 (Q_variables x16.toNatClampNeg)
      else
        gd (ixb x16 100) <|
        f_Q_matches_B112 Q_kinds Q_which Q_firsts Q_seconds Q_thirds Q_variables Q_holes Q_places (f_Q_matches_L65 Q_kinds Q_which Q_firsts Q_seconds Q_thirds Q_variables Q_holes Q_places n) Q_image_65 Q_bound_65 Q_waits_65 Q_waitsFor_65 x3_65 x14 x16 x18 (Q_holes x16.toNatClampNeg)
def f_Q_matches_L27 (Q_kinds : (Nat → Int32)) (Q_which : (Nat → Int32)) (Q_firsts : (Nat → Int32)) (Q_seconds : (Nat → Int32)) (Q_thirds : (Nat → Int32)) (Q_variables : (Nat → Int32)) (Q_holes : (Nat → Int32)) (Q_places : (Nat → Int32)) : Nat → (Nat → Int32) → (Nat → Int32) → (Nat → Int32) → (Nat → Int32) → Int32 → Int32 → Int32 → Int32 → Option (Int32 × (Nat → Int32) × (Nat → Int32) × (Nat → Int32) × (Nat → Int32))
  | 0, _, _, _, _, _, _, _, _ => none
  | n + 1, Q_image_27, Q_bound_27, Q_waits_27, Q_waitsFor_27, x1_27, x2_27, x3_27, x4_27 =>
    if (100 : Int32) ≤ x4_27 then
      gd (ixb (0 : Int32) 400) <| nm (upd Q_waits_27 (0 : Int32).toNatClampNeg x1_27) fun g7 =>
      gd (ixb (0 : Int32) 400) <| nm (upd Q_waitsFor_27 (0 : Int32).toNatClampNeg x2_27) fun g9 =>
      f_Q_matches_L65 Q_kinds Q_which Q_firsts Q_seconds Q_thirds Q_variables Q_holes Q_places FU Q_image_27 Q_bound_27 g7 g9 x3_27 (1 : Int32)
    else
      gd (ixb x4_27 100) <| nm (upd Q_image_27 x4_27.toNatClampNeg (-1 : Int32)) fun g11 =>
      nm (x4_27 + (1 : Int32)) fun x12 =>
      (f_Q_matches_L27 Q_kinds Q_which Q_firsts Q_seconds Q_thirds Q_variables Q_holes Q_places n) g11 Q_bound_27 Q_waits_27 Q_waitsFor_27 x1_27 x2_27 x3_27 x12
def f_Q_matches_L3 (Q_kinds : (Nat → Int32)) (Q_which : (Nat → Int32)) (Q_firsts : (Nat → Int32)) (Q_seconds : (Nat → Int32)) (Q_thirds : (Nat → Int32)) (Q_variables : (Nat → Int32)) (Q_holes : (Nat → Int32)) (Q_places : (Nat → Int32)) : Nat → (Nat → Int32) → (Nat → Int32) → (Nat → Int32) → (Nat → Int32) → Int32 → Int32 → Int32 → Int32 → Option (Int32 × (Nat → Int32) × (Nat → Int32) × (Nat → Int32) × (Nat → Int32))
  | 0, _, _, _, _, _, _, _, _ => none
  | n + 1, Q_image_3, Q_bound_3, Q_waits_3, Q_waitsFor_3, x1_3, x2_3, x3_3, x4_3 =>
    if (8 : Int32) ≤ x4_3 then
      f_Q_matches_L27 Q_kinds Q_which Q_firsts Q_seconds Q_thirds Q_variables Q_holes Q_places FU Q_image_3 Q_bound_3 Q_waits_3 Q_waitsFor_3 x1_3 x2_3 x3_3 (0 : Int32)
    else
      gd (ixb x4_3 8) <| nm (upd Q_bound_3 x4_3.toNatClampNeg (-1 : Int32)) fun g3 =>
      nm (x4_3 + (1 : Int32)) fun x4 =>
      (f_Q_matches_L3 Q_kinds Q_which Q_firsts Q_seconds Q_thirds Q_variables Q_holes Q_places n) Q_image_3 g3 Q_waits_3 Q_waitsFor_3 x1_3 x2_3 x3_3 x4
def f_Q_matches (Q_kinds : (Nat → Int32)) (Q_which : (Nat → Int32)) (Q_firsts : (Nat → Int32)) (Q_seconds : (Nat → Int32)) (Q_thirds : (Nat → Int32)) (Q_variables : (Nat → Int32)) (Q_holes : (Nat → Int32)) (Q_places : (Nat → Int32)) (Q_image : (Nat → Int32)) (Q_bound : (Nat → Int32)) (Q_waits : (Nat → Int32)) (Q_waitsFor : (Nat → Int32)) (p0 : Int32) (p1 : Int32) (p2 : Int32) : Option (Int32 × (Nat → Int32) × (Nat → Int32) × (Nat → Int32) × (Nat → Int32)) :=
  f_Q_matches_L3 Q_kinds Q_which Q_firsts Q_seconds Q_thirds Q_variables Q_holes Q_places FU Q_image Q_bound Q_waits Q_waitsFor p0 p1 p2 (0 : Int32)
abbrev rm_Q_matches : Room := { frames := 1, cells := 0, slots := 0, locals := 22 }
set_option maxHeartbeats 4000000 in
set_option maxRecDepth 100000 in
theorem c_Q_matches (l : Launch) (D : va_G) (cI cJ cZ : ClassId) (aQ aQ_kinds aQ_which aQ_firsts aQ_seconds aQ_thirds aQ_nexts aQ_heads aQ_names aQ_variables aQ_holes aQ_sizes aQ_places aQ_conclusions aQ_premises aQ_counts aQ_hitOf aQ_hitOne aQ_hitTwo aQ_hitTerms aQ_image aQ_bound aQ_waits aQ_waitsFor aQ_seen aQ_goals aQ_steps aQ_looked aQ_under aQ_taken aQ_news aQ_order aQ_there aQ_back : Nat) (sz : Nat) (Q_thrown : Int32) (Q_all : Int32) (Q_statements : Int32) (Q_hitKind : Int32) (Q_hits : Int32) (Q_tries : Int32) (Q_takenAll : Int32) (Q_takenFirst : Int32) (Q_kinds : (Nat → Int32)) (Q_which : (Nat → Int32)) (Q_firsts : (Nat → Int32)) (Q_seconds : (Nat → Int32)) (Q_thirds : (Nat → Int32)) (Q_variables : (Nat → Int32)) (Q_holes : (Nat → Int32)) (Q_places : (Nat → Int32)) (Q_image : (Nat → Int32)) (Q_bound : (Nat → Int32)) (Q_waits : (Nat → Int32)) (Q_waitsFor : (Nat → Int32)) (p0 : Int32) (p1 : Int32) (p2 : Int32) (o : Int32 × (Nat → Int32) × (Nat → Int32) × (Nat → Int32) × (Nat → Int32)) (hf : f_Q_matches Q_kinds Q_which Q_firsts Q_seconds Q_thirds Q_variables Q_holes Q_places Q_image Q_bound Q_waits Q_waitsFor p0 p1 p2 = some o) : Met l y_Q_matches (ws_Q_matches) rm_Q_matches (WPc D vwCl cI cJ cZ [.ref aQ, .int p0, .int p1, .int p2] (wv_49 cI cJ cZ aQ aQ_kinds aQ_which aQ_firsts aQ_seconds aQ_thirds aQ_nexts aQ_heads aQ_names aQ_variables aQ_holes aQ_sizes aQ_places aQ_conclusions aQ_premises aQ_counts aQ_hitOf aQ_hitOne aQ_hitTwo aQ_hitTerms aQ_image aQ_bound aQ_waits aQ_waitsFor aQ_seen aQ_goals aQ_steps aQ_looked aQ_under aQ_taken aQ_news aQ_order aQ_there aQ_back Q_thrown Q_all Q_statements Q_hitKind Q_hits Q_tries Q_takenAll Q_takenFirst Q_kinds Q_which Q_firsts Q_seconds Q_thirds Q_variables Q_holes Q_places Q_image Q_bound Q_waits Q_waitsFor) sz) (WQ D vwCl (some (.int o.1)) (wv_49 cI cJ cZ aQ aQ_kinds aQ_which aQ_firsts aQ_seconds aQ_thirds aQ_nexts aQ_heads aQ_names aQ_variables aQ_holes aQ_sizes aQ_places aQ_conclusions aQ_premises aQ_counts aQ_hitOf aQ_hitOne aQ_hitTwo aQ_hitTerms aQ_image aQ_bound aQ_waits aQ_waitsFor aQ_seen aQ_goals aQ_steps aQ_looked aQ_under aQ_taken aQ_news aQ_order aQ_there aQ_back Q_thrown Q_all Q_statements Q_hitKind Q_hits Q_tries Q_takenAll Q_takenFirst Q_kinds Q_which Q_firsts Q_seconds Q_thirds Q_variables Q_holes Q_places o.2.1 o.2.2.1 o.2.2.2.1 o.2.2.2.2) (va_A (wv_49 cI cJ cZ aQ aQ_kinds aQ_which aQ_firsts aQ_seconds aQ_thirds aQ_nexts aQ_heads aQ_names aQ_variables aQ_holes aQ_sizes aQ_places aQ_conclusions aQ_premises aQ_counts aQ_hitOf aQ_hitOne aQ_hitTwo aQ_hitTerms aQ_image aQ_bound aQ_waits aQ_waitsFor aQ_seen aQ_goals aQ_steps aQ_looked aQ_under aQ_taken aQ_news aQ_order aQ_there aQ_back Q_thrown Q_all Q_statements Q_hitKind Q_hits Q_tries Q_takenAll Q_takenFirst Q_kinds Q_which Q_firsts Q_seconds Q_thirds Q_variables Q_holes Q_places Q_image Q_bound Q_waits Q_waitsFor) sz)) 0 0 (va_A (wv_49 cI cJ cZ aQ aQ_kinds aQ_which aQ_firsts aQ_seconds aQ_thirds aQ_nexts aQ_heads aQ_names aQ_variables aQ_holes aQ_sizes aQ_places aQ_conclusions aQ_premises aQ_counts aQ_hitOf aQ_hitOne aQ_hitTwo aQ_hitTerms aQ_image aQ_bound aQ_waits aQ_waitsFor aQ_seen aQ_goals aQ_steps aQ_looked aQ_under aQ_taken aQ_news aQ_order aQ_there aQ_back Q_thrown Q_all Q_statements Q_hitKind Q_hits Q_tries Q_takenAll Q_takenFirst Q_kinds Q_which Q_firsts Q_seconds Q_thirds Q_variables Q_holes Q_places Q_image Q_bound Q_waits Q_waitsFor) sz) := by
  refine Met.ofW (cc := b_Q_matches) (maxL := 8) (ret := (some .boolean)) (by decide) rfl ?_
  intro p e s m args below meth c s₁ B hml hv
  obtain ⟨rfl, rfl, hP, hK, hD0⟩ := hv
  have hx := B.exec
  have hb := B.bytes
  have hr := B.returns
  have hts : ∀ w ∈ BG, w.before _ s = true := fun w h => atoms_spec (ws := (ws_Q_matches)) B.pre w (List.mem_cons_of_mem _ h)
  have hown : s.vm.findClass RR_Q = some m.cls := findClass_of_methodNamed B.named
  have hlocks := B.notSynchronized
  have hD := hD0.self (sz := s.heap.size)
  have hA : ∀ q : Nat, s.heap.size ≤ q → va_A (wv_49 cI cJ cZ aQ aQ_kinds aQ_which aQ_firsts aQ_seconds aQ_thirds aQ_nexts aQ_heads aQ_names aQ_variables aQ_holes aQ_sizes aQ_places aQ_conclusions aQ_premises aQ_counts aQ_hitOf aQ_hitOne aQ_hitTwo aQ_hitTerms aQ_image aQ_bound aQ_waits aQ_waitsFor aQ_seen aQ_goals aQ_steps aQ_looked aQ_under aQ_taken aQ_news aQ_order aQ_there aQ_back Q_thrown Q_all Q_statements Q_hitKind Q_hits Q_tries Q_takenAll Q_takenFirst Q_kinds Q_which Q_firsts Q_seconds Q_thirds Q_variables Q_holes Q_places Q_image Q_bound Q_waits Q_waitsFor) s.heap.size q := fun q h => Or.inr h
  have hS : va_S (va_A (wv_49 cI cJ cZ aQ aQ_kinds aQ_which aQ_firsts aQ_seconds aQ_thirds aQ_nexts aQ_heads aQ_names aQ_variables aQ_holes aQ_sizes aQ_places aQ_conclusions aQ_premises aQ_counts aQ_hitOf aQ_hitOne aQ_hitTwo aQ_hitTerms aQ_image aQ_bound aQ_waits aQ_waitsFor aQ_seen aQ_goals aQ_steps aQ_looked aQ_under aQ_taken aQ_news aQ_order aQ_there aQ_back Q_thrown Q_all Q_statements Q_hitKind Q_hits Q_tries Q_takenAll Q_takenFirst Q_kinds Q_which Q_firsts Q_seconds Q_thirds Q_variables Q_holes Q_places Q_image Q_bound Q_waits Q_waitsFor) s.heap.size) s.heap s.heap [] := va_S.rf
  generalize va_A (wv_49 cI cJ cZ aQ aQ_kinds aQ_which aQ_firsts aQ_seconds aQ_thirds aQ_nexts aQ_heads aQ_names aQ_variables aQ_holes aQ_sizes aQ_places aQ_conclusions aQ_premises aQ_counts aQ_hitOf aQ_hitOne aQ_hitTwo aQ_hitTerms aQ_image aQ_bound aQ_waits aQ_waitsFor aQ_seen aQ_goals aQ_steps aQ_looked aQ_under aQ_taken aQ_news aQ_order aQ_there aQ_back Q_thrown Q_all Q_statements Q_hitKind Q_hits Q_tries Q_takenAll Q_takenFirst Q_kinds Q_which Q_firsts Q_seconds Q_thirds Q_variables Q_holes Q_places Q_image Q_bound Q_waits Q_waitsFor) s.heap.size = A at hD hA hS ⊢
  have hl := lv_entry ([.ref aQ, .int p0, .int p1, .int p2]) (n := 8) (Nat.le_of_ble_eq_true rfl)
  rw [lg_entry_eq]
  generalize (lg_sl ([.ref aQ, .int p0, .int p1, .int p2]) ++ List.replicate (8 - (lg_sl ([.ref aQ, .int p0, .int p1, .int p2])).length) Slot.unset).toArray = ls at hl ⊢
  have hl : lv_has ls 8 [(0, .ref aQ), (1, .int p0), (2, .int p1), (3, .int p2)] := hl
  have hL65 : ∀ (n65 : Nat), ∀ (Q_image_65 : (Nat → Int32)) (Q_bound_65 : (Nat → Int32)) (Q_waits_65 : (Nat → Int32)) (Q_waitsFor_65 : (Nat → Int32)) (x3_65 : Int32) (x4_65 : Int32), ∀ (H : Heap) (locs : List Loc), va_P D vwCl (wv_49 cI cJ cZ aQ aQ_kinds aQ_which aQ_firsts aQ_seconds aQ_thirds aQ_nexts aQ_heads aQ_names aQ_variables aQ_holes aQ_sizes aQ_places aQ_conclusions aQ_premises aQ_counts aQ_hitOf aQ_hitOne aQ_hitTwo aQ_hitTerms aQ_image aQ_bound aQ_waits aQ_waitsFor aQ_seen aQ_goals aQ_steps aQ_looked aQ_under aQ_taken aQ_news aQ_order aQ_there aQ_back Q_thrown Q_all Q_statements Q_hitKind Q_hits Q_tries Q_takenAll Q_takenFirst Q_kinds Q_which Q_firsts Q_seconds Q_thirds Q_variables Q_holes Q_places Q_image_65 Q_bound_65 Q_waits_65 Q_waitsFor_65) H → va_D A (wv_49 cI cJ cZ aQ aQ_kinds aQ_which aQ_firsts aQ_seconds aQ_thirds aQ_nexts aQ_heads aQ_names aQ_variables aQ_holes aQ_sizes aQ_places aQ_conclusions aQ_premises aQ_counts aQ_hitOf aQ_hitOne aQ_hitTwo aQ_hitTerms aQ_image aQ_bound aQ_waits aQ_waitsFor aQ_seen aQ_goals aQ_steps aQ_looked aQ_under aQ_taken aQ_news aQ_order aQ_there aQ_back Q_thrown Q_all Q_statements Q_hitKind Q_hits Q_tries Q_takenAll Q_takenFirst Q_kinds Q_which Q_firsts Q_seconds Q_thirds Q_variables Q_holes Q_places Q_image_65 Q_bound_65 Q_waits_65 Q_waitsFor_65) → va_S A s.heap H locs → ∀ (ls : Array Slot), lv_has ls 8 [(0, .ref aQ), (3, .int x3_65), (4, .int x4_65)] → f_Q_matches_L65 Q_kinds Q_which Q_firsts Q_seconds Q_thirds Q_variables Q_holes Q_places n65 Q_image_65 Q_bound_65 Q_waits_65 Q_waitsFor_65 x3_65 x4_65 = some o → W p l e (headSpec (ws_Q_matches) rm_Q_matches).room s m ([.ref aQ, .int p0, .int p1, .int p2] : List Value).toArray below meth c H locs 0 0 (MQ below (WQ D vwCl (some (.int o.1)) (wv_49 cI cJ cZ aQ aQ_kinds aQ_which aQ_firsts aQ_seconds aQ_thirds aQ_nexts aQ_heads aQ_names aQ_variables aQ_holes aQ_sizes aQ_places aQ_conclusions aQ_premises aQ_counts aQ_hitOf aQ_hitOne aQ_hitTwo aQ_hitTerms aQ_image aQ_bound aQ_waits aQ_waitsFor aQ_seen aQ_goals aQ_steps aQ_looked aQ_under aQ_taken aQ_news aQ_order aQ_there aQ_back Q_thrown Q_all Q_statements Q_hitKind Q_hits Q_tries Q_takenAll Q_takenFirst Q_kinds Q_which Q_firsts Q_seconds Q_thirds Q_variables Q_holes Q_places o.2.1 o.2.2.1 o.2.2.2.1 o.2.2.2.2) A) ([.ref aQ, .int p0, .int p1, .int p2] : List Value).toArray s 0 0 A) (F0 m 65 ls []) := by
    intro n65
    induction n65 with
    | zero =>
      intro Q_image_65 Q_bound_65 Q_waits_65 Q_waitsFor_65 x3_65 x4_65 H locs hP hD hS ls hl hf
      rw [f_Q_matches_L65] at hf
      cases hf
    | succ n65 ih65 =>
      have hL200 : ∀ (n200 : Nat), ∀ (Q_image_200 : (Nat → Int32)) (Q_bound_200 : (Nat → Int32)) (Q_waits_200 : (Nat → Int32)) (Q_waitsFor_200 : (Nat → Int32)) (x3_200 : Int32) (x4_200 : Int32) (x5_200 : Int32) (x6_200 : Int32) (x7_200 : Int32), ∀ (H : Heap) (locs : List Loc), va_P D vwCl (wv_49 cI cJ cZ aQ aQ_kinds aQ_which aQ_firsts aQ_seconds aQ_thirds aQ_nexts aQ_heads aQ_names aQ_variables aQ_holes aQ_sizes aQ_places aQ_conclusions aQ_premises aQ_counts aQ_hitOf aQ_hitOne aQ_hitTwo aQ_hitTerms aQ_image aQ_bound aQ_waits aQ_waitsFor aQ_seen aQ_goals aQ_steps aQ_looked aQ_under aQ_taken aQ_news aQ_order aQ_there aQ_back Q_thrown Q_all Q_statements Q_hitKind Q_hits Q_tries Q_takenAll Q_takenFirst Q_kinds Q_which Q_firsts Q_seconds Q_thirds Q_variables Q_holes Q_places Q_image_200 Q_bound_200 Q_waits_200 Q_waitsFor_200) H → va_D A (wv_49 cI cJ cZ aQ aQ_kinds aQ_which aQ_firsts aQ_seconds aQ_thirds aQ_nexts aQ_heads aQ_names aQ_variables aQ_holes aQ_sizes aQ_places aQ_conclusions aQ_premises aQ_counts aQ_hitOf aQ_hitOne aQ_hitTwo aQ_hitTerms aQ_image aQ_bound aQ_waits aQ_waitsFor aQ_seen aQ_goals aQ_steps aQ_looked aQ_under aQ_taken aQ_news aQ_order aQ_there aQ_back Q_thrown Q_all Q_statements Q_hitKind Q_hits Q_tries Q_takenAll Q_takenFirst Q_kinds Q_which Q_firsts Q_seconds Q_thirds Q_variables Q_holes Q_places Q_image_200 Q_bound_200 Q_waits_200 Q_waitsFor_200) → va_S A s.heap H locs → ∀ (ls : Array Slot), lv_has ls 8 [(0, .ref aQ), (3, .int x3_200), (4, .int x4_200), (5, .int x5_200), (6, .int x6_200), (7, .int x7_200)] → f_Q_matches_L200 Q_kinds Q_which Q_firsts Q_seconds Q_thirds Q_variables Q_holes Q_places (f_Q_matches_L65 Q_kinds Q_which Q_firsts Q_seconds Q_thirds Q_variables Q_holes Q_places n65) n200 Q_image_200 Q_bound_200 Q_waits_200 Q_waitsFor_200 x3_200 x4_200 x5_200 x6_200 x7_200 = some o → W p l e (headSpec (ws_Q_matches) rm_Q_matches).room s m ([.ref aQ, .int p0, .int p1, .int p2] : List Value).toArray below meth c H locs 0 0 (MQ below (WQ D vwCl (some (.int o.1)) (wv_49 cI cJ cZ aQ aQ_kinds aQ_which aQ_firsts aQ_seconds aQ_thirds aQ_nexts aQ_heads aQ_names aQ_variables aQ_holes aQ_sizes aQ_places aQ_conclusions aQ_premises aQ_counts aQ_hitOf aQ_hitOne aQ_hitTwo aQ_hitTerms aQ_image aQ_bound aQ_waits aQ_waitsFor aQ_seen aQ_goals aQ_steps aQ_looked aQ_under aQ_taken aQ_news aQ_order aQ_there aQ_back Q_thrown Q_all Q_statements Q_hitKind Q_hits Q_tries Q_takenAll Q_takenFirst Q_kinds Q_which Q_firsts Q_seconds Q_thirds Q_variables Q_holes Q_places o.2.1 o.2.2.1 o.2.2.2.1 o.2.2.2.2) A) ([.ref aQ, .int p0, .int p1, .int p2] : List Value).toArray s 0 0 A) (F0 m 200 ls []) := by
        intro n200
        induction n200 with
        | zero =>
          intro Q_image_200 Q_bound_200 Q_waits_200 Q_waitsFor_200 x3_200 x4_200 x5_200 x6_200 x7_200 H locs hP hD hS ls hl hf
          rw [f_Q_matches_L200] at hf
          cases hf
        | succ n200 ih200 =>
          intro Q_image_200 Q_bound_200 Q_waits_200 Q_waitsFor_200 x3_200 x4_200 x5_200 x6_200 x7_200 H locs hP hD hS ls hl hf
          rw [f_Q_matches_L200] at hf
          refine lv_iload hx hb d_Q_matches_200 (lv_at hl 5 rfl) ?_
          refine lv_aload_n hx hb d_Q_matches_202 rfl (lv_at hl 0 rfl) ?_
          refine va_get (D := D) (ci := 7) (v := .ref aQ_places) (C := RR_Q) (T := FF_Q) (N := 41) hx hb hts kin_Q hown hK.1 hP 0 rfl rfl 13 (by decide) (hts _ k4_80) (fun _ h9 => h9) rfl d_Q_matches_203 ?_
          refine lv_aload_n hx hb d_Q_matches_206 rfl (lv_at hl 0 rfl) ?_
          refine va_get (D := D) (ci := 7) (v := .ref aQ_which) (C := RR_Q) (T := FF_Q) (N := 41) hx hb hts kin_Q hown hK.1 hP 0 rfl rfl 2 (by decide) (hts _ k4_69) (fun _ h9 => h9) rfl d_Q_matches_207 ?_
          refine lv_iload hx hb d_Q_matches_210 (lv_at hl 3 rfl) ?_
          obtain ⟨h42, hf⟩ := of_gd hf
          refine va_iald hx hb hK.1 hP 2 0 rfl rfl (ixb_in h42) d_Q_matches_212 ?_
          obtain ⟨h43, hf⟩ := of_gd hf
          refine va_iald hx hb hK.1 hP 8 0 rfl rfl (ixb_in h43) d_Q_matches_213 ?_
          refine lv_icmp_ge (tgt := 256) hx hb d_Q_matches_214 (by decide) (fun c44 => ?_) (fun c44 => ?_)
          · have hf := ite_t c44 hf
            refine lv_goto (tgt := 282) hx hb d_Q_matches_256 (by decide) ?_
            refine lv_goto (tgt := 65) hx hb d_Q_matches_282 (by decide) ?_
            exact ih65 _ _ _ _ _ _ _ _ hP hD hS _ (lv_sub hl [0, 1, 2] rfl) hf
          · have hf := ite_f c44 hf
            refine lv_aload_n hx hb d_Q_matches_217 rfl (lv_at hl 0 rfl) ?_
            refine va_get (D := D) (ci := 7) (v := .ref aQ_waits) (C := RR_Q) (T := FF_Q) (N := 41) hx hb hts kin_Q hown hK.1 hP 0 rfl rfl 26 (by decide) (hts _ k4_93) (fun _ h9 => h9) rfl d_Q_matches_218 ?_
            refine lv_iload hx hb d_Q_matches_221 (lv_at hl 2 rfl) ?_
            refine lv_aload_n hx hb d_Q_matches_223 rfl (lv_at hl 0 rfl) ?_
            refine lv_iload hx hb d_Q_matches_224 (lv_at hl 3 rfl) ?_
            refine lv_iload hx hb d_Q_matches_226 (lv_at hl 5 rfl) ?_
            obtain ⟨r45, hr45, hf⟩ := of_bd hf
            refine rd_call (va_runV (As := [.int x5_200, .int x7_200]) (rest := [.int x4_200, .ref aQ_waits]) ⟨hx, hb, hml, hown, hts⟩ (c_Q_part l D cI cJ cZ aQ aQ_kinds aQ_which aQ_firsts aQ_seconds aQ_thirds aQ_nexts aQ_heads aQ_names aQ_variables aQ_holes aQ_sizes aQ_places aQ_conclusions aQ_premises aQ_counts aQ_hitOf aQ_hitOne aQ_hitTwo aQ_hitTerms aQ_image aQ_bound aQ_waits aQ_waitsFor aQ_seen aQ_goals aQ_steps aQ_looked aQ_under aQ_taken aQ_news aQ_order aQ_there aQ_back Q_thrown Q_all Q_statements Q_hitKind Q_hits Q_tries Q_takenAll Q_takenFirst Q_firsts Q_seconds Q_thirds x5_200 x7_200 r45 hr45) (bigV 2 hts k4_218 k4_220 ks_Q_part k1_9 k4_221 rfl rfl hd_Q_part ⟨Nat.le_of_ble_eq_true rfl, Nat.le_of_ble_eq_true rfl⟩) (rd_preV hK hP [0, 3, 4, 5] rfl 0 rfl rfl rfl) rfl rfl hl.1 rfl (lv_room (Nat.le_of_ble_eq_true rfl)) d_Q_matches_228 ⟨Nat.le_of_ble_eq_true rfl, Nat.le_of_ble_eq_true rfl⟩) ?_
            obtain ⟨h46, hf⟩ := of_gd hf
            obtain ⟨g47, eg47⟩ : ∃ y : Nat → Int32, y = upd Q_waits_200 x4_200.toNatClampNeg r45 := ⟨_, rfl⟩
            have hf := of_nm eg47 hf
            refine va_iast hx hb hK.1 hP hD hS 11 0 rfl rfl (ixb_in h46) d_Q_matches_231 (fun H locs hP hD hS => ?_)
            rw [← eg47] at hP hD
            have hP : va_P D vwCl (wv_49 cI cJ cZ aQ aQ_kinds aQ_which aQ_firsts aQ_seconds aQ_thirds aQ_nexts aQ_heads aQ_names aQ_variables aQ_holes aQ_sizes aQ_places aQ_conclusions aQ_premises aQ_counts aQ_hitOf aQ_hitOne aQ_hitTwo aQ_hitTerms aQ_image aQ_bound aQ_waits aQ_waitsFor aQ_seen aQ_goals aQ_steps aQ_looked aQ_under aQ_taken aQ_news aQ_order aQ_there aQ_back Q_thrown Q_all Q_statements Q_hitKind Q_hits Q_tries Q_takenAll Q_takenFirst Q_kinds Q_which Q_firsts Q_seconds Q_thirds Q_variables Q_holes Q_places Q_image_200 Q_bound_200 g47 Q_waitsFor_200) H := hP
            have hD : va_D A (wv_49 cI cJ cZ aQ aQ_kinds aQ_which aQ_firsts aQ_seconds aQ_thirds aQ_nexts aQ_heads aQ_names aQ_variables aQ_holes aQ_sizes aQ_places aQ_conclusions aQ_premises aQ_counts aQ_hitOf aQ_hitOne aQ_hitTwo aQ_hitTerms aQ_image aQ_bound aQ_waits aQ_waitsFor aQ_seen aQ_goals aQ_steps aQ_looked aQ_under aQ_taken aQ_news aQ_order aQ_there aQ_back Q_thrown Q_all Q_statements Q_hitKind Q_hits Q_tries Q_takenAll Q_takenFirst Q_kinds Q_which Q_firsts Q_seconds Q_thirds Q_variables Q_holes Q_places Q_image_200 Q_bound_200 g47 Q_waitsFor_200) := hD
            refine lv_aload_n hx hb d_Q_matches_232 rfl (lv_at hl 0 rfl) ?_
            refine va_get (D := D) (ci := 7) (v := .ref aQ_waitsFor) (C := RR_Q) (T := FF_Q) (N := 41) hx hb hts kin_Q hown hK.1 hP 0 rfl rfl 27 (by decide) (hts _ k4_94) (fun _ h9 => h9) rfl d_Q_matches_233 ?_
            refine lv_iload hx hb d_Q_matches_236 (lv_at hl 2 rfl) ?_
            refine lv_aload_n hx hb d_Q_matches_238 rfl (lv_at hl 0 rfl) ?_
            refine lv_iload hx hb d_Q_matches_239 (lv_at hl 4 rfl) ?_
            refine lv_iload hx hb d_Q_matches_241 (lv_at hl 5 rfl) ?_
            obtain ⟨r48, hr48, hf⟩ := of_bd hf
            refine rd_call (va_runV (As := [.int x6_200, .int x7_200]) (rest := [.int x4_200, .ref aQ_waitsFor]) ⟨hx, hb, hml, hown, hts⟩ (c_Q_part l D cI cJ cZ aQ aQ_kinds aQ_which aQ_firsts aQ_seconds aQ_thirds aQ_nexts aQ_heads aQ_names aQ_variables aQ_holes aQ_sizes aQ_places aQ_conclusions aQ_premises aQ_counts aQ_hitOf aQ_hitOne aQ_hitTwo aQ_hitTerms aQ_image aQ_bound aQ_waits aQ_waitsFor aQ_seen aQ_goals aQ_steps aQ_looked aQ_under aQ_taken aQ_news aQ_order aQ_there aQ_back Q_thrown Q_all Q_statements Q_hitKind Q_hits Q_tries Q_takenAll Q_takenFirst Q_firsts Q_seconds Q_thirds x6_200 x7_200 r48 hr48) (bigV 2 hts k4_218 k4_220 ks_Q_part k1_9 k4_221 rfl rfl hd_Q_part ⟨Nat.le_of_ble_eq_true rfl, Nat.le_of_ble_eq_true rfl⟩) (rd_preV hK hP [0, 3, 4, 5] rfl 0 rfl rfl rfl) rfl rfl hl.1 rfl (lv_room (Nat.le_of_ble_eq_true rfl)) d_Q_matches_243 ⟨Nat.le_of_ble_eq_true rfl, Nat.le_of_ble_eq_true rfl⟩) ?_
            obtain ⟨h49, hf⟩ := of_gd hf
            obtain ⟨g50, eg50⟩ : ∃ y : Nat → Int32, y = upd Q_waitsFor_200 x4_200.toNatClampNeg r48 := ⟨_, rfl⟩
            have hf := of_nm eg50 hf
            refine va_iast hx hb hK.1 hP hD hS 12 0 rfl rfl (ixb_in h49) d_Q_matches_246 (fun H locs hP hD hS => ?_)
            rw [← eg50] at hP hD
            have hP : va_P D vwCl (wv_49 cI cJ cZ aQ aQ_kinds aQ_which aQ_firsts aQ_seconds aQ_thirds aQ_nexts aQ_heads aQ_names aQ_variables aQ_holes aQ_sizes aQ_places aQ_conclusions aQ_premises aQ_counts aQ_hitOf aQ_hitOne aQ_hitTwo aQ_hitTerms aQ_image aQ_bound aQ_waits aQ_waitsFor aQ_seen aQ_goals aQ_steps aQ_looked aQ_under aQ_taken aQ_news aQ_order aQ_there aQ_back Q_thrown Q_all Q_statements Q_hitKind Q_hits Q_tries Q_takenAll Q_takenFirst Q_kinds Q_which Q_firsts Q_seconds Q_thirds Q_variables Q_holes Q_places Q_image_200 Q_bound_200 g47 g50) H := hP
            have hD : va_D A (wv_49 cI cJ cZ aQ aQ_kinds aQ_which aQ_firsts aQ_seconds aQ_thirds aQ_nexts aQ_heads aQ_names aQ_variables aQ_holes aQ_sizes aQ_places aQ_conclusions aQ_premises aQ_counts aQ_hitOf aQ_hitOne aQ_hitTwo aQ_hitTerms aQ_image aQ_bound aQ_waits aQ_waitsFor aQ_seen aQ_goals aQ_steps aQ_looked aQ_under aQ_taken aQ_news aQ_order aQ_there aQ_back Q_thrown Q_all Q_statements Q_hitKind Q_hits Q_tries Q_takenAll Q_takenFirst Q_kinds Q_which Q_firsts Q_seconds Q_thirds Q_variables Q_holes Q_places Q_image_200 Q_bound_200 g47 g50) := hD
            obtain ⟨x51, ex51⟩ : ∃ y : Int32, y = x4_200 + (1 : Int32) := ⟨_, rfl⟩
            refine lv_iinc (v := x51) (lv' := [(4, .int x51), (0, .ref aQ), (3, .int x3_200), (5, .int x5_200), (6, .int x6_200), (7, .int x7_200)]) hx hb d_Q_matches_247 hl (k := 2) rfl (by rw [ex51]; rfl) (by decide) rfl (fun ls hl => ?_)
            have hf := of_nm ex51 hf
            obtain ⟨x52, ex52⟩ : ∃ y : Int32, y = x7_200 + (1 : Int32) := ⟨_, rfl⟩
            refine lv_iinc (v := x52) (lv' := [(7, .int x52), (4, .int x51), (0, .ref aQ), (3, .int x3_200), (5, .int x5_200), (6, .int x6_200)]) hx hb d_Q_matches_250 hl (k := 5) rfl (by rw [ex52]; rfl) (by decide) rfl (fun ls hl => ?_)
            have hf := of_nm ex52 hf
            refine lv_goto (tgt := 200) hx hb d_Q_matches_253 (by decide) ?_
            exact ih200 _ _ _ _ _ _ _ _ _ _ _ hP hD hS _ (lv_sub hl [2, 3, 1, 4, 5, 0] rfl) hf
      have hB112 : ∀ (Q_image_112 : (Nat → Int32)) (Q_bound_112 : (Nat → Int32)) (Q_waits_112 : (Nat → Int32)) (Q_waitsFor_112 : (Nat → Int32)) (x3_112 : Int32) (x4_112 : Int32) (x5_112 : Int32) (x6_112 : Int32) (s0_112 : Int32), ∀ (H : Heap) (locs : List Loc), va_P D vwCl (wv_49 cI cJ cZ aQ aQ_kinds aQ_which aQ_firsts aQ_seconds aQ_thirds aQ_nexts aQ_heads aQ_names aQ_variables aQ_holes aQ_sizes aQ_places aQ_conclusions aQ_premises aQ_counts aQ_hitOf aQ_hitOne aQ_hitTwo aQ_hitTerms aQ_image aQ_bound aQ_waits aQ_waitsFor aQ_seen aQ_goals aQ_steps aQ_looked aQ_under aQ_taken aQ_news aQ_order aQ_there aQ_back Q_thrown Q_all Q_statements Q_hitKind Q_hits Q_tries Q_takenAll Q_takenFirst Q_kinds Q_which Q_firsts Q_seconds Q_thirds Q_variables Q_holes Q_places Q_image_112 Q_bound_112 Q_waits_112 Q_waitsFor_112) H → va_D A (wv_49 cI cJ cZ aQ aQ_kinds aQ_which aQ_firsts aQ_seconds aQ_thirds aQ_nexts aQ_heads aQ_names aQ_variables aQ_holes aQ_sizes aQ_places aQ_conclusions aQ_premises aQ_counts aQ_hitOf aQ_hitOne aQ_hitTwo aQ_hitTerms aQ_image aQ_bound aQ_waits aQ_waitsFor aQ_seen aQ_goals aQ_steps aQ_looked aQ_under aQ_taken aQ_news aQ_order aQ_there aQ_back Q_thrown Q_all Q_statements Q_hitKind Q_hits Q_tries Q_takenAll Q_takenFirst Q_kinds Q_which Q_firsts Q_seconds Q_thirds Q_variables Q_holes Q_places Q_image_112 Q_bound_112 Q_waits_112 Q_waitsFor_112) → va_S A s.heap H locs → ∀ (ls : Array Slot), lv_has ls 8 [(0, .ref aQ), (3, .int x3_112), (4, .int x4_112), (5, .int x5_112), (6, .int x6_112)] → f_Q_matches_B112 Q_kinds Q_which Q_firsts Q_seconds Q_thirds Q_variables Q_holes Q_places (f_Q_matches_L65 Q_kinds Q_which Q_firsts Q_seconds Q_thirds Q_variables Q_holes Q_places n65) Q_image_112 Q_bound_112 Q_waits_112 Q_waitsFor_112 x3_112 x4_112 x5_112 x6_112 s0_112 = some o → W p l e (headSpec (ws_Q_matches) rm_Q_matches).room s m ([.ref aQ, .int p0, .int p1, .int p2] : List Value).toArray below meth c H locs 0 0 (MQ below (WQ D vwCl (some (.int o.1)) (wv_49 cI cJ cZ aQ aQ_kinds aQ_which aQ_firsts aQ_seconds aQ_thirds aQ_nexts aQ_heads aQ_names aQ_variables aQ_holes aQ_sizes aQ_places aQ_conclusions aQ_premises aQ_counts aQ_hitOf aQ_hitOne aQ_hitTwo aQ_hitTerms aQ_image aQ_bound aQ_waits aQ_waitsFor aQ_seen aQ_goals aQ_steps aQ_looked aQ_under aQ_taken aQ_news aQ_order aQ_there aQ_back Q_thrown Q_all Q_statements Q_hitKind Q_hits Q_tries Q_takenAll Q_takenFirst Q_kinds Q_which Q_firsts Q_seconds Q_thirds Q_variables Q_holes Q_places o.2.1 o.2.2.1 o.2.2.2.1 o.2.2.2.2) A) ([.ref aQ, .int p0, .int p1, .int p2] : List Value).toArray s 0 0 A) (F0 m 112 ls [.int s0_112]) := by
        intro Q_image_112 Q_bound_112 Q_waits_112 Q_waitsFor_112 x3_112 x4_112 x5_112 x6_112 s0_112 H locs hP hD hS ls hl hf
        rw [f_Q_matches_B112] at hf
        refine lv_if_ne (tgt := 124) hx hb d_Q_matches_112 (by decide) (fun c22 => ?_) (fun c22 => ?_)
        · have hf := ite_f c22 hf
          refine lv_aload_n hx hb d_Q_matches_124 rfl (lv_at hl 0 rfl) ?_
          refine va_get (D := D) (ci := 7) (v := .ref aQ_image) (C := RR_Q) (T := FF_Q) (N := 41) hx hb hts kin_Q hown hK.1 hP 0 rfl rfl 24 (by decide) (hts _ k4_91) (fun _ h9 => h9) rfl d_Q_matches_125 ?_
          refine lv_iload hx hb d_Q_matches_128 (lv_at hl 3 rfl) ?_
          obtain ⟨h23, hf⟩ := of_gd hf
          refine va_iald hx hb hK.1 hP 9 0 rfl rfl (ixb_in h23) d_Q_matches_130 ?_
          refine lv_iconst (v := -1) hx hb d_Q_matches_131 (by decide) ?_
          refine lv_icmp_eq (tgt := 149) hx hb d_Q_matches_132 (by decide) (fun c24 => ?_) (fun c24 => ?_)
          · have hf := ite_t c24 hf
            refine lv_aload_n hx hb d_Q_matches_149 rfl (lv_at hl 0 rfl) ?_
            refine va_get (D := D) (ci := 7) (v := .ref aQ_kinds) (C := RR_Q) (T := FF_Q) (N := 41) hx hb hts kin_Q hown hK.1 hP 0 rfl rfl 1 (by decide) (hts _ k4_68) (fun _ h9 => h9) rfl d_Q_matches_150 ?_
            refine lv_iload hx hb d_Q_matches_153 (lv_at hl 3 rfl) ?_
            obtain ⟨h25, hf⟩ := of_gd hf
            refine va_iald hx hb hK.1 hP 1 0 rfl rfl (ixb_in h25) d_Q_matches_155 ?_
            refine lv_if_ne (tgt := 259) hx hb d_Q_matches_156 (by decide) (fun c26 => ?_) (fun c26 => ?_)
            · have hf := ite_f c26 hf
              refine lv_aload_n hx hb d_Q_matches_259 rfl (lv_at hl 0 rfl) ?_
              refine va_get (D := D) (ci := 7) (v := .ref aQ_image) (C := RR_Q) (T := FF_Q) (N := 41) hx hb hts kin_Q hown hK.1 hP 0 rfl rfl 24 (by decide) (hts _ k4_91) (fun _ h9 => h9) rfl d_Q_matches_260 ?_
              refine lv_iload hx hb d_Q_matches_263 (lv_at hl 3 rfl) ?_
              refine lv_iload hx hb d_Q_matches_265 (lv_at hl 4 rfl) ?_
              obtain ⟨h27, hf⟩ := of_gd hf
              obtain ⟨g28, eg28⟩ : ∃ y : Nat → Int32, y = upd Q_image_112 x5_112.toNatClampNeg x6_112 := ⟨_, rfl⟩
              have hf := of_nm eg28 hf
              refine va_iast hx hb hK.1 hP hD hS 9 0 rfl rfl (ixb_in h27) d_Q_matches_267 (fun H locs hP hD hS => ?_)
              rw [← eg28] at hP hD
              have hP : va_P D vwCl (wv_49 cI cJ cZ aQ aQ_kinds aQ_which aQ_firsts aQ_seconds aQ_thirds aQ_nexts aQ_heads aQ_names aQ_variables aQ_holes aQ_sizes aQ_places aQ_conclusions aQ_premises aQ_counts aQ_hitOf aQ_hitOne aQ_hitTwo aQ_hitTerms aQ_image aQ_bound aQ_waits aQ_waitsFor aQ_seen aQ_goals aQ_steps aQ_looked aQ_under aQ_taken aQ_news aQ_order aQ_there aQ_back Q_thrown Q_all Q_statements Q_hitKind Q_hits Q_tries Q_takenAll Q_takenFirst Q_kinds Q_which Q_firsts Q_seconds Q_thirds Q_variables Q_holes Q_places g28 Q_bound_112 Q_waits_112 Q_waitsFor_112) H := hP
              have hD : va_D A (wv_49 cI cJ cZ aQ aQ_kinds aQ_which aQ_firsts aQ_seconds aQ_thirds aQ_nexts aQ_heads aQ_names aQ_variables aQ_holes aQ_sizes aQ_places aQ_conclusions aQ_premises aQ_counts aQ_hitOf aQ_hitOne aQ_hitTwo aQ_hitTerms aQ_image aQ_bound aQ_waits aQ_waitsFor aQ_seen aQ_goals aQ_steps aQ_looked aQ_under aQ_taken aQ_news aQ_order aQ_there aQ_back Q_thrown Q_all Q_statements Q_hitKind Q_hits Q_tries Q_takenAll Q_takenFirst Q_kinds Q_which Q_firsts Q_seconds Q_thirds Q_variables Q_holes Q_places g28 Q_bound_112 Q_waits_112 Q_waitsFor_112) := hD
              refine lv_aload_n hx hb d_Q_matches_268 rfl (lv_at hl 0 rfl) ?_
              refine va_get (D := D) (ci := 7) (v := .ref aQ_bound) (C := RR_Q) (T := FF_Q) (N := 41) hx hb hts kin_Q hown hK.1 hP 0 rfl rfl 25 (by decide) (hts _ k4_92) (fun _ h9 => h9) rfl d_Q_matches_269 ?_
              refine lv_aload_n hx hb d_Q_matches_272 rfl (lv_at hl 0 rfl) ?_
              refine va_get (D := D) (ci := 7) (v := .ref aQ_which) (C := RR_Q) (T := FF_Q) (N := 41) hx hb hts kin_Q hown hK.1 hP 0 rfl rfl 2 (by decide) (hts _ k4_69) (fun _ h9 => h9) rfl d_Q_matches_273 ?_
              refine lv_iload hx hb d_Q_matches_276 (lv_at hl 3 rfl) ?_
              obtain ⟨h29, hf⟩ := of_gd hf
              refine va_iald hx hb hK.1 hP 2 0 rfl rfl (ixb_in h29) d_Q_matches_278 ?_
              refine lv_iload hx hb d_Q_matches_279 (lv_at hl 4 rfl) ?_
              obtain ⟨h30, hf⟩ := of_gd hf
              obtain ⟨g31, eg31⟩ : ∃ y : Nat → Int32, y = upd Q_bound_112 (Q_which x5_112.toNatClampNeg).toNatClampNeg x6_112 := ⟨_, rfl⟩
              have hf := of_nm eg31 hf
              refine va_iast hx hb hK.1 hP hD hS 10 0 rfl rfl (ixb_in h30) d_Q_matches_281 (fun H locs hP hD hS => ?_)
              rw [← eg31] at hP hD
              have hP : va_P D vwCl (wv_49 cI cJ cZ aQ aQ_kinds aQ_which aQ_firsts aQ_seconds aQ_thirds aQ_nexts aQ_heads aQ_names aQ_variables aQ_holes aQ_sizes aQ_places aQ_conclusions aQ_premises aQ_counts aQ_hitOf aQ_hitOne aQ_hitTwo aQ_hitTerms aQ_image aQ_bound aQ_waits aQ_waitsFor aQ_seen aQ_goals aQ_steps aQ_looked aQ_under aQ_taken aQ_news aQ_order aQ_there aQ_back Q_thrown Q_all Q_statements Q_hitKind Q_hits Q_tries Q_takenAll Q_takenFirst Q_kinds Q_which Q_firsts Q_seconds Q_thirds Q_variables Q_holes Q_places g28 g31 Q_waits_112 Q_waitsFor_112) H := hP
              have hD : va_D A (wv_49 cI cJ cZ aQ aQ_kinds aQ_which aQ_firsts aQ_seconds aQ_thirds aQ_nexts aQ_heads aQ_names aQ_variables aQ_holes aQ_sizes aQ_places aQ_conclusions aQ_premises aQ_counts aQ_hitOf aQ_hitOne aQ_hitTwo aQ_hitTerms aQ_image aQ_bound aQ_waits aQ_waitsFor aQ_seen aQ_goals aQ_steps aQ_looked aQ_under aQ_taken aQ_news aQ_order aQ_there aQ_back Q_thrown Q_all Q_statements Q_hitKind Q_hits Q_tries Q_takenAll Q_takenFirst Q_kinds Q_which Q_firsts Q_seconds Q_thirds Q_variables Q_holes Q_places g28 g31 Q_waits_112 Q_waitsFor_112) := hD
              refine lv_goto (tgt := 65) hx hb d_Q_matches_282 (by decide) ?_
              exact ih65 _ _ _ _ _ _ _ _ hP hD hS _ (lv_sub hl [0, 1, 2] rfl) hf
            · have hf := ite_t c26 hf
              refine lv_aload_n hx hb d_Q_matches_159 rfl (lv_at hl 0 rfl) ?_
              refine va_get (D := D) (ci := 7) (v := .ref aQ_kinds) (C := RR_Q) (T := FF_Q) (N := 41) hx hb hts kin_Q hown hK.1 hP 0 rfl rfl 1 (by decide) (hts _ k4_68) (fun _ h9 => h9) rfl d_Q_matches_160 ?_
              refine lv_iload hx hb d_Q_matches_163 (lv_at hl 4 rfl) ?_
              obtain ⟨h32, hf⟩ := of_gd hf
              refine va_iald hx hb hK.1 hP 1 0 rfl rfl (ixb_in h32) d_Q_matches_165 ?_
              refine lv_if_ne (tgt := 186) hx hb d_Q_matches_166 (by decide) (fun c33 => ?_) (fun c33 => ?_)
              · have hf := ite_f c33 hf
                refine lv_iconst (v := 0) hx hb d_Q_matches_186 (by decide) ?_
                obtain rfl := Option.some.inj hf
                exact W.zret (v := (0 : Int32)) hx hb hr rfl (fun t ht hW => ⟨rfl, by rw [ht]; exact hP, hD, hS.F ht⟩) hS.2.2 d_Q_matches_187
              · have hf := ite_t c33 hf
                refine lv_aload_n hx hb d_Q_matches_169 rfl (lv_at hl 0 rfl) ?_
                refine va_get (D := D) (ci := 7) (v := .ref aQ_which) (C := RR_Q) (T := FF_Q) (N := 41) hx hb hts kin_Q hown hK.1 hP 0 rfl rfl 2 (by decide) (hts _ k4_69) (fun _ h9 => h9) rfl d_Q_matches_170 ?_
                refine lv_iload hx hb d_Q_matches_173 (lv_at hl 4 rfl) ?_
                obtain ⟨h34, hf⟩ := of_gd hf
                refine va_iald hx hb hK.1 hP 2 0 rfl rfl (ixb_in h34) d_Q_matches_175 ?_
                refine lv_aload_n hx hb d_Q_matches_176 rfl (lv_at hl 0 rfl) ?_
                refine va_get (D := D) (ci := 7) (v := .ref aQ_which) (C := RR_Q) (T := FF_Q) (N := 41) hx hb hts kin_Q hown hK.1 hP 0 rfl rfl 2 (by decide) (hts _ k4_69) (fun _ h9 => h9) rfl d_Q_matches_177 ?_
                refine lv_iload hx hb d_Q_matches_180 (lv_at hl 3 rfl) ?_
                obtain ⟨h35, hf⟩ := of_gd hf
                refine va_iald hx hb hK.1 hP 2 0 rfl rfl (ixb_in h35) d_Q_matches_182 ?_
                refine lv_icmp_eq (tgt := 188) hx hb d_Q_matches_183 (by decide) (fun c36 => ?_) (fun c36 => ?_)
                · have hf := ite_t c36 hf
                  refine lv_aload_n hx hb d_Q_matches_188 rfl (lv_at hl 0 rfl) ?_
                  refine va_get (D := D) (ci := 7) (v := .ref aQ_image) (C := RR_Q) (T := FF_Q) (N := 41) hx hb hts kin_Q hown hK.1 hP 0 rfl rfl 24 (by decide) (hts _ k4_91) (fun _ h9 => h9) rfl d_Q_matches_189 ?_
                  refine lv_iload hx hb d_Q_matches_192 (lv_at hl 3 rfl) ?_
                  refine lv_iload hx hb d_Q_matches_194 (lv_at hl 4 rfl) ?_
                  obtain ⟨h37, hf⟩ := of_gd hf
                  obtain ⟨g38, eg38⟩ : ∃ y : Nat → Int32, y = upd Q_image_112 x5_112.toNatClampNeg x6_112 := ⟨_, rfl⟩
                  have hf := of_nm eg38 hf
                  refine va_iast hx hb hK.1 hP hD hS 9 0 rfl rfl (ixb_in h37) d_Q_matches_196 (fun H locs hP hD hS => ?_)
                  rw [← eg38] at hP hD
                  have hP : va_P D vwCl (wv_49 cI cJ cZ aQ aQ_kinds aQ_which aQ_firsts aQ_seconds aQ_thirds aQ_nexts aQ_heads aQ_names aQ_variables aQ_holes aQ_sizes aQ_places aQ_conclusions aQ_premises aQ_counts aQ_hitOf aQ_hitOne aQ_hitTwo aQ_hitTerms aQ_image aQ_bound aQ_waits aQ_waitsFor aQ_seen aQ_goals aQ_steps aQ_looked aQ_under aQ_taken aQ_news aQ_order aQ_there aQ_back Q_thrown Q_all Q_statements Q_hitKind Q_hits Q_tries Q_takenAll Q_takenFirst Q_kinds Q_which Q_firsts Q_seconds Q_thirds Q_variables Q_holes Q_places g38 Q_bound_112 Q_waits_112 Q_waitsFor_112) H := hP
                  have hD : va_D A (wv_49 cI cJ cZ aQ aQ_kinds aQ_which aQ_firsts aQ_seconds aQ_thirds aQ_nexts aQ_heads aQ_names aQ_variables aQ_holes aQ_sizes aQ_places aQ_conclusions aQ_premises aQ_counts aQ_hitOf aQ_hitOne aQ_hitTwo aQ_hitTerms aQ_image aQ_bound aQ_waits aQ_waitsFor aQ_seen aQ_goals aQ_steps aQ_looked aQ_under aQ_taken aQ_news aQ_order aQ_there aQ_back Q_thrown Q_all Q_statements Q_hitKind Q_hits Q_tries Q_takenAll Q_takenFirst Q_kinds Q_which Q_firsts Q_seconds Q_thirds Q_variables Q_holes Q_places g38 Q_bound_112 Q_waits_112 Q_waitsFor_112) := hD
                  refine lv_iconst (v := 0) hx hb d_Q_matches_197 (by decide) ?_
                  refine lv_istore (lv' := [(7, .int (0 : Int32)), (0, .ref aQ), (3, .int x3_112), (4, .int x4_112), (5, .int x5_112), (6, .int x6_112)]) hx hb d_Q_matches_198 hl (by decide) rfl (fun ls hl => ?_)
                  exact hL200 FU _ _ _ _ _ _ _ _ _ _ _ hP hD hS _ (lv_sub hl [1, 2, 3, 4, 5, 0] rfl) hf
                · have hf := ite_f c36 hf
                  refine lv_iconst (v := 0) hx hb d_Q_matches_186 (by decide) ?_
                  obtain rfl := Option.some.inj hf
                  exact W.zret (v := (0 : Int32)) hx hb hr rfl (fun t ht hW => ⟨rfl, by rw [ht]; exact hP, hD, hS.F ht⟩) hS.2.2 d_Q_matches_187
          · have hf := ite_f c24 hf
            refine lv_aload_n hx hb d_Q_matches_135 rfl (lv_at hl 0 rfl) ?_
            refine va_get (D := D) (ci := 7) (v := .ref aQ_image) (C := RR_Q) (T := FF_Q) (N := 41) hx hb hts kin_Q hown hK.1 hP 0 rfl rfl 24 (by decide) (hts _ k4_91) (fun _ h9 => h9) rfl d_Q_matches_136 ?_
            refine lv_iload hx hb d_Q_matches_139 (lv_at hl 3 rfl) ?_
            obtain ⟨h39, hf⟩ := of_gd hf
            refine va_iald hx hb hK.1 hP 9 0 rfl rfl (ixb_in h39) d_Q_matches_141 ?_
            refine lv_iload hx hb d_Q_matches_142 (lv_at hl 4 rfl) ?_
            refine lv_icmp_eq (tgt := 282) hx hb d_Q_matches_144 (by decide) (fun c40 => ?_) (fun c40 => ?_)
            · have hf := ite_t c40 hf
              refine lv_goto (tgt := 65) hx hb d_Q_matches_282 (by decide) ?_
              exact ih65 _ _ _ _ _ _ _ _ hP hD hS _ (lv_sub hl [0, 1, 2] rfl) hf
            · have hf := ite_f c40 hf
              refine lv_iconst (v := 0) hx hb d_Q_matches_147 (by decide) ?_
              obtain rfl := Option.some.inj hf
              exact W.zret (v := (0 : Int32)) hx hb hr rfl (fun t ht hW => ⟨rfl, by rw [ht]; exact hP, hD, hS.F ht⟩) hS.2.2 d_Q_matches_148
        · have hf := ite_t c22 hf
          refine lv_iload hx hb d_Q_matches_115 (lv_at hl 3 rfl) ?_
          refine lv_iload hx hb d_Q_matches_117 (lv_at hl 4 rfl) ?_
          refine lv_icmp_eq (tgt := 282) hx hb d_Q_matches_119 (by decide) (fun c41 => ?_) (fun c41 => ?_)
          · have hf := ite_t c41 hf
            refine lv_goto (tgt := 65) hx hb d_Q_matches_282 (by decide) ?_
            exact ih65 _ _ _ _ _ _ _ _ hP hD hS _ (lv_sub hl [0, 1, 2] rfl) hf
          · have hf := ite_f c41 hf
            refine lv_iconst (v := 0) hx hb d_Q_matches_122 (by decide) ?_
            obtain rfl := Option.some.inj hf
            exact W.zret (v := (0 : Int32)) hx hb hr rfl (fun t ht hW => ⟨rfl, by rw [ht]; exact hP, hD, hS.F ht⟩) hS.2.2 d_Q_matches_123
      intro Q_image_65 Q_bound_65 Q_waits_65 Q_waitsFor_65 x3_65 x4_65 H locs hP hD hS ls hl hf
      rw [f_Q_matches_L65] at hf
      refine lv_iload hx hb d_Q_matches_65 (lv_at hl 2 rfl) ?_
      refine lv_if_le (tgt := 285) hx hb d_Q_matches_67 (by decide) (fun c13 => ?_) (fun c13 => ?_)
      · have hf := ite_t c13 hf
        refine lv_iconst (v := 1) hx hb d_Q_matches_285 (by decide) ?_
        obtain rfl := Option.some.inj hf
        exact W.zret (v := (1 : Int32)) hx hb hr rfl (fun t ht hW => ⟨rfl, by rw [ht]; exact hP, hD, hS.F ht⟩) hS.2.2 d_Q_matches_286
      · have hf := ite_f c13 hf
        obtain ⟨x14, ex14⟩ : ∃ y : Int32, y = x4_65 + (-1 : Int32) := ⟨_, rfl⟩
        refine lv_iinc (v := x14) (lv' := [(4, .int x14), (0, .ref aQ), (3, .int x3_65)]) hx hb d_Q_matches_70 hl (k := 2) rfl (by rw [ex14]; rfl) (by decide) rfl (fun ls hl => ?_)
        have hf := of_nm ex14 hf
        refine lv_aload_n hx hb d_Q_matches_73 rfl (lv_at hl 1 rfl) ?_
        refine va_get (D := D) (ci := 7) (v := .ref aQ_waits) (C := RR_Q) (T := FF_Q) (N := 41) hx hb hts kin_Q hown hK.1 hP 0 rfl rfl 26 (by decide) (hts _ k4_93) (fun _ h9 => h9) rfl d_Q_matches_74 ?_
        refine lv_iload hx hb d_Q_matches_77 (lv_at hl 0 rfl) ?_
        obtain ⟨h15, hf⟩ := of_gd hf
        refine va_iald hx hb hK.1 hP 11 0 rfl rfl (ixb_in h15) d_Q_matches_79 ?_
        refine lv_topi (fun x16 ex16 => ?_)
        have hf := of_nm ex16 hf
        refine lv_istore (lv' := [(5, .int x16), (4, .int x14), (0, .ref aQ), (3, .int x3_65)]) hx hb d_Q_matches_80 hl (by decide) rfl (fun ls hl => ?_)
        refine lv_aload_n hx hb d_Q_matches_82 rfl (lv_at hl 2 rfl) ?_
        refine va_get (D := D) (ci := 7) (v := .ref aQ_waitsFor) (C := RR_Q) (T := FF_Q) (N := 41) hx hb hts kin_Q hown hK.1 hP 0 rfl rfl 27 (by decide) (hts _ k4_94) (fun _ h9 => h9) rfl d_Q_matches_83 ?_
        refine lv_iload hx hb d_Q_matches_86 (lv_at hl 1 rfl) ?_
        obtain ⟨h17, hf⟩ := of_gd hf
        refine va_iald hx hb hK.1 hP 12 0 rfl rfl (ixb_in h17) d_Q_matches_88 ?_
        refine lv_topi (fun x18 ex18 => ?_)
        have hf := of_nm ex18 hf
        refine lv_istore (lv' := [(6, .int x18), (5, .int x16), (4, .int x14), (0, .ref aQ), (3, .int x3_65)]) hx hb d_Q_matches_89 hl (by decide) rfl (fun ls hl => ?_)
        refine lv_iload_n hx hb d_Q_matches_91 rfl (lv_at hl 4 rfl) ?_
        refine lv_if_eq (tgt := 105) hx hb d_Q_matches_92 (by decide) (fun c19 => ?_) (fun c19 => ?_)
        · have hf := ite_t c19 hf
          refine lv_aload_n hx hb d_Q_matches_105 rfl (lv_at hl 3 rfl) ?_
          refine va_get (D := D) (ci := 7) (v := .ref aQ_variables) (C := RR_Q) (T := FF_Q) (N := 41) hx hb hts kin_Q hown hK.1 hP 0 rfl rfl 10 (by decide) (hts _ k4_77) (fun _ h9 => h9) rfl d_Q_matches_106 ?_
          refine lv_iload hx hb d_Q_matches_109 (lv_at hl 1 rfl) ?_
          obtain ⟨h20, hf⟩ := of_gd hf
          refine va_iald hx hb hK.1 hP 6 0 rfl rfl (ixb_in h20) d_Q_matches_111 ?_
          exact hB112 _ _ _ _ _ _ _ _ _ _ _ hP hD hS _ (lv_sub hl [3, 4, 2, 1, 0] rfl) hf
        · have hf := ite_f c19 hf
          refine lv_aload_n hx hb d_Q_matches_95 rfl (lv_at hl 3 rfl) ?_
          refine va_get (D := D) (ci := 7) (v := .ref aQ_holes) (C := RR_Q) (T := FF_Q) (N := 41) hx hb hts kin_Q hown hK.1 hP 0 rfl rfl 11 (by decide) (hts _ k4_78) (fun _ h9 => h9) rfl d_Q_matches_96 ?_
          refine lv_iload hx hb d_Q_matches_99 (lv_at hl 1 rfl) ?_
          obtain ⟨h21, hf⟩ := of_gd hf
          refine va_iald hx hb hK.1 hP 7 0 rfl rfl (ixb_in h21) d_Q_matches_101 ?_
          refine lv_goto (tgt := 112) hx hb d_Q_matches_102 (by decide) ?_
          exact hB112 _ _ _ _ _ _ _ _ _ _ _ hP hD hS _ (lv_sub hl [3, 4, 2, 1, 0] rfl) hf
  have hL27 : ∀ (n27 : Nat), ∀ (Q_image_27 : (Nat → Int32)) (Q_bound_27 : (Nat → Int32)) (Q_waits_27 : (Nat → Int32)) (Q_waitsFor_27 : (Nat → Int32)) (x1_27 : Int32) (x2_27 : Int32) (x3_27 : Int32) (x4_27 : Int32), ∀ (H : Heap) (locs : List Loc), va_P D vwCl (wv_49 cI cJ cZ aQ aQ_kinds aQ_which aQ_firsts aQ_seconds aQ_thirds aQ_nexts aQ_heads aQ_names aQ_variables aQ_holes aQ_sizes aQ_places aQ_conclusions aQ_premises aQ_counts aQ_hitOf aQ_hitOne aQ_hitTwo aQ_hitTerms aQ_image aQ_bound aQ_waits aQ_waitsFor aQ_seen aQ_goals aQ_steps aQ_looked aQ_under aQ_taken aQ_news aQ_order aQ_there aQ_back Q_thrown Q_all Q_statements Q_hitKind Q_hits Q_tries Q_takenAll Q_takenFirst Q_kinds Q_which Q_firsts Q_seconds Q_thirds Q_variables Q_holes Q_places Q_image_27 Q_bound_27 Q_waits_27 Q_waitsFor_27) H → va_D A (wv_49 cI cJ cZ aQ aQ_kinds aQ_which aQ_firsts aQ_seconds aQ_thirds aQ_nexts aQ_heads aQ_names aQ_variables aQ_holes aQ_sizes aQ_places aQ_conclusions aQ_premises aQ_counts aQ_hitOf aQ_hitOne aQ_hitTwo aQ_hitTerms aQ_image aQ_bound aQ_waits aQ_waitsFor aQ_seen aQ_goals aQ_steps aQ_looked aQ_under aQ_taken aQ_news aQ_order aQ_there aQ_back Q_thrown Q_all Q_statements Q_hitKind Q_hits Q_tries Q_takenAll Q_takenFirst Q_kinds Q_which Q_firsts Q_seconds Q_thirds Q_variables Q_holes Q_places Q_image_27 Q_bound_27 Q_waits_27 Q_waitsFor_27) → va_S A s.heap H locs → ∀ (ls : Array Slot), lv_has ls 8 [(0, .ref aQ), (1, .int x1_27), (2, .int x2_27), (3, .int x3_27), (4, .int x4_27)] → f_Q_matches_L27 Q_kinds Q_which Q_firsts Q_seconds Q_thirds Q_variables Q_holes Q_places n27 Q_image_27 Q_bound_27 Q_waits_27 Q_waitsFor_27 x1_27 x2_27 x3_27 x4_27 = some o → W p l e (headSpec (ws_Q_matches) rm_Q_matches).room s m ([.ref aQ, .int p0, .int p1, .int p2] : List Value).toArray below meth c H locs 0 0 (MQ below (WQ D vwCl (some (.int o.1)) (wv_49 cI cJ cZ aQ aQ_kinds aQ_which aQ_firsts aQ_seconds aQ_thirds aQ_nexts aQ_heads aQ_names aQ_variables aQ_holes aQ_sizes aQ_places aQ_conclusions aQ_premises aQ_counts aQ_hitOf aQ_hitOne aQ_hitTwo aQ_hitTerms aQ_image aQ_bound aQ_waits aQ_waitsFor aQ_seen aQ_goals aQ_steps aQ_looked aQ_under aQ_taken aQ_news aQ_order aQ_there aQ_back Q_thrown Q_all Q_statements Q_hitKind Q_hits Q_tries Q_takenAll Q_takenFirst Q_kinds Q_which Q_firsts Q_seconds Q_thirds Q_variables Q_holes Q_places o.2.1 o.2.2.1 o.2.2.2.1 o.2.2.2.2) A) ([.ref aQ, .int p0, .int p1, .int p2] : List Value).toArray s 0 0 A) (F0 m 27 ls []) := by
    intro n27
    induction n27 with
    | zero =>
      intro Q_image_27 Q_bound_27 Q_waits_27 Q_waitsFor_27 x1_27 x2_27 x3_27 x4_27 H locs hP hD hS ls hl hf
      rw [f_Q_matches_L27] at hf
      cases hf
    | succ n27 ih27 =>
      intro Q_image_27 Q_bound_27 Q_waits_27 Q_waitsFor_27 x1_27 x2_27 x3_27 x4_27 H locs hP hD hS ls hl hf
      rw [f_Q_matches_L27] at hf
      refine lv_iload hx hb d_Q_matches_27 (lv_at hl 4 rfl) ?_
      refine lv_bipush (v := 100) hx hb d_Q_matches_29 (by decide) ?_
      refine lv_icmp_ge (tgt := 48) hx hb d_Q_matches_31 (by decide) (fun c5 => ?_) (fun c5 => ?_)
      · have hf := ite_t c5 hf
        refine lv_iconst (v := 1) hx hb d_Q_matches_48 (by decide) ?_
        refine lv_istore (lv' := [(4, .int (1 : Int32)), (0, .ref aQ), (1, .int x1_27), (2, .int x2_27), (3, .int x3_27)]) hx hb d_Q_matches_49 hl (by decide) rfl (fun ls hl => ?_)
        refine lv_aload_n hx hb d_Q_matches_51 rfl (lv_at hl 1 rfl) ?_
        refine va_get (D := D) (ci := 7) (v := .ref aQ_waits) (C := RR_Q) (T := FF_Q) (N := 41) hx hb hts kin_Q hown hK.1 hP 0 rfl rfl 26 (by decide) (hts _ k4_93) (fun _ h9 => h9) rfl d_Q_matches_52 ?_
        refine lv_iconst (v := 0) hx hb d_Q_matches_55 (by decide) ?_
        refine lv_iload_n hx hb d_Q_matches_56 rfl (lv_at hl 2 rfl) ?_
        obtain ⟨h6, hf⟩ := of_gd hf
        obtain ⟨g7, eg7⟩ : ∃ y : Nat → Int32, y = upd Q_waits_27 (0 : Int32).toNatClampNeg x1_27 := ⟨_, rfl⟩
        have hf := of_nm eg7 hf
        refine va_iast hx hb hK.1 hP hD hS 11 0 rfl rfl (ixb_in h6) d_Q_matches_57 (fun H locs hP hD hS => ?_)
        rw [← eg7] at hP hD
        have hP : va_P D vwCl (wv_49 cI cJ cZ aQ aQ_kinds aQ_which aQ_firsts aQ_seconds aQ_thirds aQ_nexts aQ_heads aQ_names aQ_variables aQ_holes aQ_sizes aQ_places aQ_conclusions aQ_premises aQ_counts aQ_hitOf aQ_hitOne aQ_hitTwo aQ_hitTerms aQ_image aQ_bound aQ_waits aQ_waitsFor aQ_seen aQ_goals aQ_steps aQ_looked aQ_under aQ_taken aQ_news aQ_order aQ_there aQ_back Q_thrown Q_all Q_statements Q_hitKind Q_hits Q_tries Q_takenAll Q_takenFirst Q_kinds Q_which Q_firsts Q_seconds Q_thirds Q_variables Q_holes Q_places Q_image_27 Q_bound_27 g7 Q_waitsFor_27) H := hP
        have hD : va_D A (wv_49 cI cJ cZ aQ aQ_kinds aQ_which aQ_firsts aQ_seconds aQ_thirds aQ_nexts aQ_heads aQ_names aQ_variables aQ_holes aQ_sizes aQ_places aQ_conclusions aQ_premises aQ_counts aQ_hitOf aQ_hitOne aQ_hitTwo aQ_hitTerms aQ_image aQ_bound aQ_waits aQ_waitsFor aQ_seen aQ_goals aQ_steps aQ_looked aQ_under aQ_taken aQ_news aQ_order aQ_there aQ_back Q_thrown Q_all Q_statements Q_hitKind Q_hits Q_tries Q_takenAll Q_takenFirst Q_kinds Q_which Q_firsts Q_seconds Q_thirds Q_variables Q_holes Q_places Q_image_27 Q_bound_27 g7 Q_waitsFor_27) := hD
        refine lv_aload_n hx hb d_Q_matches_58 rfl (lv_at hl 1 rfl) ?_
        refine va_get (D := D) (ci := 7) (v := .ref aQ_waitsFor) (C := RR_Q) (T := FF_Q) (N := 41) hx hb hts kin_Q hown hK.1 hP 0 rfl rfl 27 (by decide) (hts _ k4_94) (fun _ h9 => h9) rfl d_Q_matches_59 ?_
        refine lv_iconst (v := 0) hx hb d_Q_matches_62 (by decide) ?_
        refine lv_iload_n hx hb d_Q_matches_63 rfl (lv_at hl 3 rfl) ?_
        obtain ⟨h8, hf⟩ := of_gd hf
        obtain ⟨g9, eg9⟩ : ∃ y : Nat → Int32, y = upd Q_waitsFor_27 (0 : Int32).toNatClampNeg x2_27 := ⟨_, rfl⟩
        have hf := of_nm eg9 hf
        refine va_iast hx hb hK.1 hP hD hS 12 0 rfl rfl (ixb_in h8) d_Q_matches_64 (fun H locs hP hD hS => ?_)
        rw [← eg9] at hP hD
        have hP : va_P D vwCl (wv_49 cI cJ cZ aQ aQ_kinds aQ_which aQ_firsts aQ_seconds aQ_thirds aQ_nexts aQ_heads aQ_names aQ_variables aQ_holes aQ_sizes aQ_places aQ_conclusions aQ_premises aQ_counts aQ_hitOf aQ_hitOne aQ_hitTwo aQ_hitTerms aQ_image aQ_bound aQ_waits aQ_waitsFor aQ_seen aQ_goals aQ_steps aQ_looked aQ_under aQ_taken aQ_news aQ_order aQ_there aQ_back Q_thrown Q_all Q_statements Q_hitKind Q_hits Q_tries Q_takenAll Q_takenFirst Q_kinds Q_which Q_firsts Q_seconds Q_thirds Q_variables Q_holes Q_places Q_image_27 Q_bound_27 g7 g9) H := hP
        have hD : va_D A (wv_49 cI cJ cZ aQ aQ_kinds aQ_which aQ_firsts aQ_seconds aQ_thirds aQ_nexts aQ_heads aQ_names aQ_variables aQ_holes aQ_sizes aQ_places aQ_conclusions aQ_premises aQ_counts aQ_hitOf aQ_hitOne aQ_hitTwo aQ_hitTerms aQ_image aQ_bound aQ_waits aQ_waitsFor aQ_seen aQ_goals aQ_steps aQ_looked aQ_under aQ_taken aQ_news aQ_order aQ_there aQ_back Q_thrown Q_all Q_statements Q_hitKind Q_hits Q_tries Q_takenAll Q_takenFirst Q_kinds Q_which Q_firsts Q_seconds Q_thirds Q_variables Q_holes Q_places Q_image_27 Q_bound_27 g7 g9) := hD
        exact hL65 FU _ _ _ _ _ _ _ _ hP hD hS _ (lv_sub hl [1, 4, 0] rfl) hf
      · have hf := ite_f c5 hf
        refine lv_aload_n hx hb d_Q_matches_34 rfl (lv_at hl 0 rfl) ?_
        refine va_get (D := D) (ci := 7) (v := .ref aQ_image) (C := RR_Q) (T := FF_Q) (N := 41) hx hb hts kin_Q hown hK.1 hP 0 rfl rfl 24 (by decide) (hts _ k4_91) (fun _ h9 => h9) rfl d_Q_matches_35 ?_
        refine lv_iload hx hb d_Q_matches_38 (lv_at hl 4 rfl) ?_
        refine lv_iconst (v := -1) hx hb d_Q_matches_40 (by decide) ?_
        obtain ⟨h10, hf⟩ := of_gd hf
        obtain ⟨g11, eg11⟩ : ∃ y : Nat → Int32, y = upd Q_image_27 x4_27.toNatClampNeg (-1 : Int32) := ⟨_, rfl⟩
        have hf := of_nm eg11 hf
        refine va_iast hx hb hK.1 hP hD hS 9 0 rfl rfl (ixb_in h10) d_Q_matches_41 (fun H locs hP hD hS => ?_)
        rw [← eg11] at hP hD
        have hP : va_P D vwCl (wv_49 cI cJ cZ aQ aQ_kinds aQ_which aQ_firsts aQ_seconds aQ_thirds aQ_nexts aQ_heads aQ_names aQ_variables aQ_holes aQ_sizes aQ_places aQ_conclusions aQ_premises aQ_counts aQ_hitOf aQ_hitOne aQ_hitTwo aQ_hitTerms aQ_image aQ_bound aQ_waits aQ_waitsFor aQ_seen aQ_goals aQ_steps aQ_looked aQ_under aQ_taken aQ_news aQ_order aQ_there aQ_back Q_thrown Q_all Q_statements Q_hitKind Q_hits Q_tries Q_takenAll Q_takenFirst Q_kinds Q_which Q_firsts Q_seconds Q_thirds Q_variables Q_holes Q_places g11 Q_bound_27 Q_waits_27 Q_waitsFor_27) H := hP
        have hD : va_D A (wv_49 cI cJ cZ aQ aQ_kinds aQ_which aQ_firsts aQ_seconds aQ_thirds aQ_nexts aQ_heads aQ_names aQ_variables aQ_holes aQ_sizes aQ_places aQ_conclusions aQ_premises aQ_counts aQ_hitOf aQ_hitOne aQ_hitTwo aQ_hitTerms aQ_image aQ_bound aQ_waits aQ_waitsFor aQ_seen aQ_goals aQ_steps aQ_looked aQ_under aQ_taken aQ_news aQ_order aQ_there aQ_back Q_thrown Q_all Q_statements Q_hitKind Q_hits Q_tries Q_takenAll Q_takenFirst Q_kinds Q_which Q_firsts Q_seconds Q_thirds Q_variables Q_holes Q_places g11 Q_bound_27 Q_waits_27 Q_waitsFor_27) := hD
        obtain ⟨x12, ex12⟩ : ∃ y : Int32, y = x4_27 + (1 : Int32) := ⟨_, rfl⟩
        refine lv_iinc (v := x12) (lv' := [(4, .int x12), (0, .ref aQ), (1, .int x1_27), (2, .int x2_27), (3, .int x3_27)]) hx hb d_Q_matches_42 hl (k := 4) rfl (by rw [ex12]; rfl) (by decide) rfl (fun ls hl => ?_)
        have hf := of_nm ex12 hf
        refine lv_goto (tgt := 27) hx hb d_Q_matches_45 (by decide) ?_
        exact ih27 _ _ _ _ _ _ _ _ _ _ hP hD hS _ (lv_sub hl [1, 2, 3, 4, 0] rfl) hf
  have hL3 : ∀ (n3 : Nat), ∀ (Q_image_3 : (Nat → Int32)) (Q_bound_3 : (Nat → Int32)) (Q_waits_3 : (Nat → Int32)) (Q_waitsFor_3 : (Nat → Int32)) (x1_3 : Int32) (x2_3 : Int32) (x3_3 : Int32) (x4_3 : Int32), ∀ (H : Heap) (locs : List Loc), va_P D vwCl (wv_49 cI cJ cZ aQ aQ_kinds aQ_which aQ_firsts aQ_seconds aQ_thirds aQ_nexts aQ_heads aQ_names aQ_variables aQ_holes aQ_sizes aQ_places aQ_conclusions aQ_premises aQ_counts aQ_hitOf aQ_hitOne aQ_hitTwo aQ_hitTerms aQ_image aQ_bound aQ_waits aQ_waitsFor aQ_seen aQ_goals aQ_steps aQ_looked aQ_under aQ_taken aQ_news aQ_order aQ_there aQ_back Q_thrown Q_all Q_statements Q_hitKind Q_hits Q_tries Q_takenAll Q_takenFirst Q_kinds Q_which Q_firsts Q_seconds Q_thirds Q_variables Q_holes Q_places Q_image_3 Q_bound_3 Q_waits_3 Q_waitsFor_3) H → va_D A (wv_49 cI cJ cZ aQ aQ_kinds aQ_which aQ_firsts aQ_seconds aQ_thirds aQ_nexts aQ_heads aQ_names aQ_variables aQ_holes aQ_sizes aQ_places aQ_conclusions aQ_premises aQ_counts aQ_hitOf aQ_hitOne aQ_hitTwo aQ_hitTerms aQ_image aQ_bound aQ_waits aQ_waitsFor aQ_seen aQ_goals aQ_steps aQ_looked aQ_under aQ_taken aQ_news aQ_order aQ_there aQ_back Q_thrown Q_all Q_statements Q_hitKind Q_hits Q_tries Q_takenAll Q_takenFirst Q_kinds Q_which Q_firsts Q_seconds Q_thirds Q_variables Q_holes Q_places Q_image_3 Q_bound_3 Q_waits_3 Q_waitsFor_3) → va_S A s.heap H locs → ∀ (ls : Array Slot), lv_has ls 8 [(0, .ref aQ), (1, .int x1_3), (2, .int x2_3), (3, .int x3_3), (4, .int x4_3)] → f_Q_matches_L3 Q_kinds Q_which Q_firsts Q_seconds Q_thirds Q_variables Q_holes Q_places n3 Q_image_3 Q_bound_3 Q_waits_3 Q_waitsFor_3 x1_3 x2_3 x3_3 x4_3 = some o → W p l e (headSpec (ws_Q_matches) rm_Q_matches).room s m ([.ref aQ, .int p0, .int p1, .int p2] : List Value).toArray below meth c H locs 0 0 (MQ below (WQ D vwCl (some (.int o.1)) (wv_49 cI cJ cZ aQ aQ_kinds aQ_which aQ_firsts aQ_seconds aQ_thirds aQ_nexts aQ_heads aQ_names aQ_variables aQ_holes aQ_sizes aQ_places aQ_conclusions aQ_premises aQ_counts aQ_hitOf aQ_hitOne aQ_hitTwo aQ_hitTerms aQ_image aQ_bound aQ_waits aQ_waitsFor aQ_seen aQ_goals aQ_steps aQ_looked aQ_under aQ_taken aQ_news aQ_order aQ_there aQ_back Q_thrown Q_all Q_statements Q_hitKind Q_hits Q_tries Q_takenAll Q_takenFirst Q_kinds Q_which Q_firsts Q_seconds Q_thirds Q_variables Q_holes Q_places o.2.1 o.2.2.1 o.2.2.2.1 o.2.2.2.2) A) ([.ref aQ, .int p0, .int p1, .int p2] : List Value).toArray s 0 0 A) (F0 m 3 ls []) := by
    intro n3
    induction n3 with
    | zero =>
      intro Q_image_3 Q_bound_3 Q_waits_3 Q_waitsFor_3 x1_3 x2_3 x3_3 x4_3 H locs hP hD hS ls hl hf
      rw [f_Q_matches_L3] at hf
      cases hf
    | succ n3 ih3 =>
      intro Q_image_3 Q_bound_3 Q_waits_3 Q_waitsFor_3 x1_3 x2_3 x3_3 x4_3 H locs hP hD hS ls hl hf
      rw [f_Q_matches_L3] at hf
      refine lv_iload hx hb d_Q_matches_3 (lv_at hl 4 rfl) ?_
      refine lv_bipush (v := 8) hx hb d_Q_matches_5 (by decide) ?_
      refine lv_icmp_ge (tgt := 24) hx hb d_Q_matches_7 (by decide) (fun c1 => ?_) (fun c1 => ?_)
      · have hf := ite_t c1 hf
        refine lv_iconst (v := 0) hx hb d_Q_matches_24 (by decide) ?_
        refine lv_istore (lv' := [(4, .int (0 : Int32)), (0, .ref aQ), (1, .int x1_3), (2, .int x2_3), (3, .int x3_3)]) hx hb d_Q_matches_25 hl (by decide) rfl (fun ls hl => ?_)
        exact hL27 FU _ _ _ _ _ _ _ _ _ _ hP hD hS _ (lv_sub hl [1, 2, 3, 4, 0] rfl) hf
      · have hf := ite_f c1 hf
        refine lv_aload_n hx hb d_Q_matches_10 rfl (lv_at hl 0 rfl) ?_
        refine va_get (D := D) (ci := 7) (v := .ref aQ_bound) (C := RR_Q) (T := FF_Q) (N := 41) hx hb hts kin_Q hown hK.1 hP 0 rfl rfl 25 (by decide) (hts _ k4_92) (fun _ h9 => h9) rfl d_Q_matches_11 ?_
        refine lv_iload hx hb d_Q_matches_14 (lv_at hl 4 rfl) ?_
        refine lv_iconst (v := -1) hx hb d_Q_matches_16 (by decide) ?_
        obtain ⟨h2, hf⟩ := of_gd hf
        obtain ⟨g3, eg3⟩ : ∃ y : Nat → Int32, y = upd Q_bound_3 x4_3.toNatClampNeg (-1 : Int32) := ⟨_, rfl⟩
        have hf := of_nm eg3 hf
        refine va_iast hx hb hK.1 hP hD hS 10 0 rfl rfl (ixb_in h2) d_Q_matches_17 (fun H locs hP hD hS => ?_)
        rw [← eg3] at hP hD
        have hP : va_P D vwCl (wv_49 cI cJ cZ aQ aQ_kinds aQ_which aQ_firsts aQ_seconds aQ_thirds aQ_nexts aQ_heads aQ_names aQ_variables aQ_holes aQ_sizes aQ_places aQ_conclusions aQ_premises aQ_counts aQ_hitOf aQ_hitOne aQ_hitTwo aQ_hitTerms aQ_image aQ_bound aQ_waits aQ_waitsFor aQ_seen aQ_goals aQ_steps aQ_looked aQ_under aQ_taken aQ_news aQ_order aQ_there aQ_back Q_thrown Q_all Q_statements Q_hitKind Q_hits Q_tries Q_takenAll Q_takenFirst Q_kinds Q_which Q_firsts Q_seconds Q_thirds Q_variables Q_holes Q_places Q_image_3 g3 Q_waits_3 Q_waitsFor_3) H := hP
        have hD : va_D A (wv_49 cI cJ cZ aQ aQ_kinds aQ_which aQ_firsts aQ_seconds aQ_thirds aQ_nexts aQ_heads aQ_names aQ_variables aQ_holes aQ_sizes aQ_places aQ_conclusions aQ_premises aQ_counts aQ_hitOf aQ_hitOne aQ_hitTwo aQ_hitTerms aQ_image aQ_bound aQ_waits aQ_waitsFor aQ_seen aQ_goals aQ_steps aQ_looked aQ_under aQ_taken aQ_news aQ_order aQ_there aQ_back Q_thrown Q_all Q_statements Q_hitKind Q_hits Q_tries Q_takenAll Q_takenFirst Q_kinds Q_which Q_firsts Q_seconds Q_thirds Q_variables Q_holes Q_places Q_image_3 g3 Q_waits_3 Q_waitsFor_3) := hD
        obtain ⟨x4, ex4⟩ : ∃ y : Int32, y = x4_3 + (1 : Int32) := ⟨_, rfl⟩
        refine lv_iinc (v := x4) (lv' := [(4, .int x4), (0, .ref aQ), (1, .int x1_3), (2, .int x2_3), (3, .int x3_3)]) hx hb d_Q_matches_18 hl (k := 4) rfl (by rw [ex4]; rfl) (by decide) rfl (fun ls hl => ?_)
        have hf := of_nm ex4 hf
        refine lv_goto (tgt := 3) hx hb d_Q_matches_21 (by decide) ?_
        exact ih3 _ _ _ _ _ _ _ _ _ _ hP hD hS _ (lv_sub hl [1, 2, 3, 4, 0] rfl) hf
  rw [f_Q_matches] at hf
  refine lv_iconst (v := 0) hx hb d_Q_matches_0 (by decide) ?_
  refine lv_istore (lv' := [(4, .int (0 : Int32)), (0, .ref aQ), (1, .int p0), (2, .int p1), (3, .int p2)]) hx hb d_Q_matches_1 hl (by decide) rfl (fun ls hl => ?_)
  exact hL3 FU _ _ _ _ _ _ _ _ _ _ hP hD hS _ (lv_sub hl [1, 2, 3, 4, 0] rfl) hf
def f_Q_firstMatch_L65 (Q_kinds : (Nat → Int32)) (Q_which : (Nat → Int32)) (Q_firsts : (Nat → Int32)) (Q_seconds : (Nat → Int32)) (Q_thirds : (Nat → Int32)) (Q_variables : (Nat → Int32)) (Q_holes : (Nat → Int32)) (Q_places : (Nat → Int32)) (K12 : (Nat → Int32) → (Nat → Int32) → (Nat → Int32) → (Nat → Int32) → (Nat → Int32) → (Nat → Int32) → Int32 → Int32 → Option (Int32 × (Nat → Int32) × (Nat → Int32) × (Nat → Int32) × (Nat → Int32) × (Nat → Int32) × (Nat → Int32))) : Nat → (Nat → Int32) → (Nat → Int32) → (Nat → Int32) → (Nat → Int32) → (Nat → Int32) → (Nat → Int32) → Int32 → Int32 → Int32 → Int32 → Option (Int32 × (Nat → Int32) × (Nat → Int32) × (Nat → Int32) × (Nat → Int32) × (Nat → Int32) × (Nat → Int32))
  | 0, _, _, _, _, _, _, _, _, _, _ => none
  | n + 1, Q_image_65, Q_bound_65, Q_waits_65, Q_waitsFor_65, Q_seen_65, Q_looked_65, x1_65, x3_65, x5_65, x6_65 =>
    if x6_65 < 0 then
      K12 Q_image_65 Q_bound_65 Q_waits_65 Q_waitsFor_65 Q_seen_65 Q_looked_65 x1_65 x3_65
    else
      (f_Q_part Q_firsts Q_seconds Q_thirds x5_65 x6_65).bind fun r14 =>
      if r14 = (-1 : Int32) then
        nm (x6_65 + (-1 : Int32)) fun x16 =>
        (f_Q_firstMatch_L65 Q_kinds Q_which Q_firsts Q_seconds Q_thirds Q_variables Q_holes Q_places K12 n) Q_image_65 Q_bound_65 Q_waits_65 Q_waitsFor_65 Q_seen_65 Q_looked_65 x1_65 x3_65 x5_65 x16
      else
        gd (ixb x3_65 1002) <| nm (upd Q_looked_65 x3_65.toNatClampNeg r14) fun g18 =>
        nm (x3_65 + (1 : Int32)) fun x19 =>
        nm (x6_65 + (-1 : Int32)) fun x20 =>
        (f_Q_firstMatch_L65 Q_kinds Q_which Q_firsts Q_seconds Q_thirds Q_variables Q_holes Q_places K12 n) Q_image_65 Q_bound_65 Q_waits_65 Q_waitsFor_65 Q_seen_65 g18 x1_65 x19 x5_65 x20
def f_Q_firstMatch_L12 (Q_kinds : (Nat → Int32)) (Q_which : (Nat → Int32)) (Q_firsts : (Nat → Int32)) (Q_seconds : (Nat → Int32)) (Q_thirds : (Nat → Int32)) (Q_variables : (Nat → Int32)) (Q_holes : (Nat → Int32)) (Q_places : (Nat → Int32)) : Nat → (Nat → Int32) → (Nat → Int32) → (Nat → Int32) → (Nat → Int32) → (Nat → Int32) → (Nat → Int32) → Int32 → Int32 → Option (Int32 × (Nat → Int32) × (Nat → Int32) × (Nat → Int32) × (Nat → Int32) × (Nat → Int32) × (Nat → Int32))
  | 0, _, _, _, _, _, _, _, _ => none
  | n + 1, Q_image_12, Q_bound_12, Q_waits_12, Q_waitsFor_12, Q_seen_12, Q_looked_12, x1_12, x3_12 =>
    if x3_12 ≤ 0 then
      some ((-1 : Int32), Q_image_12, Q_bound_12, Q_waits_12, Q_waitsFor_12, Q_seen_12, Q_looked_12)
    else
      nm (x3_12 + (-1 : Int32)) fun x4 =>
      gd (ixb x4 1002) <|
      nm (Q_looked_12 x4.toNatClampNeg) fun x6 =>
      gd (ixb x6 100) <|
      if (Q_seen_12 x6.toNatClampNeg) = 0 then
        gd (ixb x6 100) <| nm (upd Q_seen_12 x6.toNatClampNeg (vp_nar .boolean (1 : Int32))) fun g10 =>
        (f_Q_matches Q_kinds Q_which Q_firsts Q_seconds Q_thirds Q_variables Q_holes Q_places Q_image_12 Q_bound_12 Q_waits_12 Q_waitsFor_12 x1_12 x6 (1 : Int32)).bind fun r11 =>
        if r11.1 = 0 then
          f_Q_firstMatch_L65 Q_kinds Q_which Q_firsts Q_seconds Q_thirds Q_variables Q_holes Q_places (f_Q_firstMatch_L12 Q_kinds Q_which Q_firsts Q_seconds Q_thirds Q_variables Q_holes Q_places n) FU r11.2.1 r11.2.2.1 r11.2.2.2.1 r11.2.2.2.2 g10 Q_looked_12 x1_12 x4 x6 (2 : Int32)
        else
          some (x6, r11.2.1, r11.2.2.1, r11.2.2.2.1, r11.2.2.2.2, g10, Q_looked_12)
      else
        (f_Q_firstMatch_L12 Q_kinds Q_which Q_firsts Q_seconds Q_thirds Q_variables Q_holes Q_places n) Q_image_12 Q_bound_12 Q_waits_12 Q_waitsFor_12 Q_seen_12 Q_looked_12 x1_12 x4
def f_Q_firstMatch (Q_kinds : (Nat → Int32)) (Q_which : (Nat → Int32)) (Q_firsts : (Nat → Int32)) (Q_seconds : (Nat → Int32)) (Q_thirds : (Nat → Int32)) (Q_variables : (Nat → Int32)) (Q_holes : (Nat → Int32)) (Q_places : (Nat → Int32)) (Q_image : (Nat → Int32)) (Q_bound : (Nat → Int32)) (Q_waits : (Nat → Int32)) (Q_waitsFor : (Nat → Int32)) (Q_seen : (Nat → Int32)) (Q_looked : (Nat → Int32)) (p0 : Int32) (p1 : Int32) : Option (Int32 × (Nat → Int32) × (Nat → Int32) × (Nat → Int32) × (Nat → Int32) × (Nat → Int32) × (Nat → Int32)) :=
  gd (ixb (0 : Int32) 1002) <| nm (upd Q_looked (0 : Int32).toNatClampNeg p1) fun g2 =>
  f_Q_firstMatch_L12 Q_kinds Q_which Q_firsts Q_seconds Q_thirds Q_variables Q_holes Q_places FU Q_image Q_bound Q_waits Q_waitsFor Q_seen g2 p0 (1 : Int32)
abbrev rm_Q_firstMatch : Room := { frames := 2, cells := 0, slots := 0, locals := 49 }
set_option maxHeartbeats 4000000 in
set_option maxRecDepth 100000 in
theorem c_Q_firstMatch (l : Launch) (D : va_G) (cI cJ cZ : ClassId) (aQ aQ_kinds aQ_which aQ_firsts aQ_seconds aQ_thirds aQ_nexts aQ_heads aQ_names aQ_variables aQ_holes aQ_sizes aQ_places aQ_conclusions aQ_premises aQ_counts aQ_hitOf aQ_hitOne aQ_hitTwo aQ_hitTerms aQ_image aQ_bound aQ_waits aQ_waitsFor aQ_seen aQ_goals aQ_steps aQ_looked aQ_under aQ_taken aQ_news aQ_order aQ_there aQ_back : Nat) (sz : Nat) (Q_thrown : Int32) (Q_all : Int32) (Q_statements : Int32) (Q_hitKind : Int32) (Q_hits : Int32) (Q_tries : Int32) (Q_takenAll : Int32) (Q_takenFirst : Int32) (Q_kinds : (Nat → Int32)) (Q_which : (Nat → Int32)) (Q_firsts : (Nat → Int32)) (Q_seconds : (Nat → Int32)) (Q_thirds : (Nat → Int32)) (Q_variables : (Nat → Int32)) (Q_holes : (Nat → Int32)) (Q_places : (Nat → Int32)) (Q_image : (Nat → Int32)) (Q_bound : (Nat → Int32)) (Q_waits : (Nat → Int32)) (Q_waitsFor : (Nat → Int32)) (Q_seen : (Nat → Int32)) (Q_looked : (Nat → Int32)) (p0 : Int32) (p1 : Int32) (o : Int32 × (Nat → Int32) × (Nat → Int32) × (Nat → Int32) × (Nat → Int32) × (Nat → Int32) × (Nat → Int32)) (hf : f_Q_firstMatch Q_kinds Q_which Q_firsts Q_seconds Q_thirds Q_variables Q_holes Q_places Q_image Q_bound Q_waits Q_waitsFor Q_seen Q_looked p0 p1 = some o) : Met l y_Q_firstMatch (ws_Q_firstMatch) rm_Q_firstMatch (WPc D vwCl cI cJ cZ [.ref aQ, .int p0, .int p1] (wv_50 cI cJ cZ aQ aQ_kinds aQ_which aQ_firsts aQ_seconds aQ_thirds aQ_nexts aQ_heads aQ_names aQ_variables aQ_holes aQ_sizes aQ_places aQ_conclusions aQ_premises aQ_counts aQ_hitOf aQ_hitOne aQ_hitTwo aQ_hitTerms aQ_image aQ_bound aQ_waits aQ_waitsFor aQ_seen aQ_goals aQ_steps aQ_looked aQ_under aQ_taken aQ_news aQ_order aQ_there aQ_back Q_thrown Q_all Q_statements Q_hitKind Q_hits Q_tries Q_takenAll Q_takenFirst Q_kinds Q_which Q_firsts Q_seconds Q_thirds Q_variables Q_holes Q_places Q_image Q_bound Q_waits Q_waitsFor Q_seen Q_looked) sz) (WQ D vwCl (some (.int o.1)) (wv_50 cI cJ cZ aQ aQ_kinds aQ_which aQ_firsts aQ_seconds aQ_thirds aQ_nexts aQ_heads aQ_names aQ_variables aQ_holes aQ_sizes aQ_places aQ_conclusions aQ_premises aQ_counts aQ_hitOf aQ_hitOne aQ_hitTwo aQ_hitTerms aQ_image aQ_bound aQ_waits aQ_waitsFor aQ_seen aQ_goals aQ_steps aQ_looked aQ_under aQ_taken aQ_news aQ_order aQ_there aQ_back Q_thrown Q_all Q_statements Q_hitKind Q_hits Q_tries Q_takenAll Q_takenFirst Q_kinds Q_which Q_firsts Q_seconds Q_thirds Q_variables Q_holes Q_places o.2.1 o.2.2.1 o.2.2.2.1 o.2.2.2.2.1 o.2.2.2.2.2.1 o.2.2.2.2.2.2) (va_A (wv_50 cI cJ cZ aQ aQ_kinds aQ_which aQ_firsts aQ_seconds aQ_thirds aQ_nexts aQ_heads aQ_names aQ_variables aQ_holes aQ_sizes aQ_places aQ_conclusions aQ_premises aQ_counts aQ_hitOf aQ_hitOne aQ_hitTwo aQ_hitTerms aQ_image aQ_bound aQ_waits aQ_waitsFor aQ_seen aQ_goals aQ_steps aQ_looked aQ_under aQ_taken aQ_news aQ_order aQ_there aQ_back Q_thrown Q_all Q_statements Q_hitKind Q_hits Q_tries Q_takenAll Q_takenFirst Q_kinds Q_which Q_firsts Q_seconds Q_thirds Q_variables Q_holes Q_places Q_image Q_bound Q_waits Q_waitsFor Q_seen Q_looked) sz)) 0 0 (va_A (wv_50 cI cJ cZ aQ aQ_kinds aQ_which aQ_firsts aQ_seconds aQ_thirds aQ_nexts aQ_heads aQ_names aQ_variables aQ_holes aQ_sizes aQ_places aQ_conclusions aQ_premises aQ_counts aQ_hitOf aQ_hitOne aQ_hitTwo aQ_hitTerms aQ_image aQ_bound aQ_waits aQ_waitsFor aQ_seen aQ_goals aQ_steps aQ_looked aQ_under aQ_taken aQ_news aQ_order aQ_there aQ_back Q_thrown Q_all Q_statements Q_hitKind Q_hits Q_tries Q_takenAll Q_takenFirst Q_kinds Q_which Q_firsts Q_seconds Q_thirds Q_variables Q_holes Q_places Q_image Q_bound Q_waits Q_waitsFor Q_seen Q_looked) sz) := by
  refine Met.ofW (cc := b_Q_firstMatch) (maxL := 7) (ret := (some .int)) (by decide) rfl ?_
  intro p e s m args below meth c s₁ B hml hv
  obtain ⟨rfl, rfl, hP, hK, hD0⟩ := hv
  have hx := B.exec
  have hb := B.bytes
  have hr := B.returns
  have hts : ∀ w ∈ BG, w.before _ s = true := fun w h => atoms_spec (ws := (ws_Q_firstMatch)) B.pre w (List.mem_cons_of_mem _ h)
  have hown : s.vm.findClass RR_Q = some m.cls := findClass_of_methodNamed B.named
  have hlocks := B.notSynchronized
  have hD := hD0.self (sz := s.heap.size)
  have hA : ∀ q : Nat, s.heap.size ≤ q → va_A (wv_50 cI cJ cZ aQ aQ_kinds aQ_which aQ_firsts aQ_seconds aQ_thirds aQ_nexts aQ_heads aQ_names aQ_variables aQ_holes aQ_sizes aQ_places aQ_conclusions aQ_premises aQ_counts aQ_hitOf aQ_hitOne aQ_hitTwo aQ_hitTerms aQ_image aQ_bound aQ_waits aQ_waitsFor aQ_seen aQ_goals aQ_steps aQ_looked aQ_under aQ_taken aQ_news aQ_order aQ_there aQ_back Q_thrown Q_all Q_statements Q_hitKind Q_hits Q_tries Q_takenAll Q_takenFirst Q_kinds Q_which Q_firsts Q_seconds Q_thirds Q_variables Q_holes Q_places Q_image Q_bound Q_waits Q_waitsFor Q_seen Q_looked) s.heap.size q := fun q h => Or.inr h
  have hS : va_S (va_A (wv_50 cI cJ cZ aQ aQ_kinds aQ_which aQ_firsts aQ_seconds aQ_thirds aQ_nexts aQ_heads aQ_names aQ_variables aQ_holes aQ_sizes aQ_places aQ_conclusions aQ_premises aQ_counts aQ_hitOf aQ_hitOne aQ_hitTwo aQ_hitTerms aQ_image aQ_bound aQ_waits aQ_waitsFor aQ_seen aQ_goals aQ_steps aQ_looked aQ_under aQ_taken aQ_news aQ_order aQ_there aQ_back Q_thrown Q_all Q_statements Q_hitKind Q_hits Q_tries Q_takenAll Q_takenFirst Q_kinds Q_which Q_firsts Q_seconds Q_thirds Q_variables Q_holes Q_places Q_image Q_bound Q_waits Q_waitsFor Q_seen Q_looked) s.heap.size) s.heap s.heap [] := va_S.rf
  generalize va_A (wv_50 cI cJ cZ aQ aQ_kinds aQ_which aQ_firsts aQ_seconds aQ_thirds aQ_nexts aQ_heads aQ_names aQ_variables aQ_holes aQ_sizes aQ_places aQ_conclusions aQ_premises aQ_counts aQ_hitOf aQ_hitOne aQ_hitTwo aQ_hitTerms aQ_image aQ_bound aQ_waits aQ_waitsFor aQ_seen aQ_goals aQ_steps aQ_looked aQ_under aQ_taken aQ_news aQ_order aQ_there aQ_back Q_thrown Q_all Q_statements Q_hitKind Q_hits Q_tries Q_takenAll Q_takenFirst Q_kinds Q_which Q_firsts Q_seconds Q_thirds Q_variables Q_holes Q_places Q_image Q_bound Q_waits Q_waitsFor Q_seen Q_looked) s.heap.size = A at hD hA hS ⊢
  have hl := lv_entry ([.ref aQ, .int p0, .int p1]) (n := 7) (Nat.le_of_ble_eq_true rfl)
  rw [lg_entry_eq]
  generalize (lg_sl ([.ref aQ, .int p0, .int p1]) ++ List.replicate (7 - (lg_sl ([.ref aQ, .int p0, .int p1])).length) Slot.unset).toArray = ls at hl ⊢
  have hl : lv_has ls 7 [(0, .ref aQ), (1, .int p0), (2, .int p1)] := hl
  have hL12 : ∀ (n12 : Nat), ∀ (Q_image_12 : (Nat → Int32)) (Q_bound_12 : (Nat → Int32)) (Q_waits_12 : (Nat → Int32)) (Q_waitsFor_12 : (Nat → Int32)) (Q_seen_12 : (Nat → Int32)) (Q_looked_12 : (Nat → Int32)) (x1_12 : Int32) (x3_12 : Int32), ∀ (H : Heap) (locs : List Loc), va_P D vwCl (wv_50 cI cJ cZ aQ aQ_kinds aQ_which aQ_firsts aQ_seconds aQ_thirds aQ_nexts aQ_heads aQ_names aQ_variables aQ_holes aQ_sizes aQ_places aQ_conclusions aQ_premises aQ_counts aQ_hitOf aQ_hitOne aQ_hitTwo aQ_hitTerms aQ_image aQ_bound aQ_waits aQ_waitsFor aQ_seen aQ_goals aQ_steps aQ_looked aQ_under aQ_taken aQ_news aQ_order aQ_there aQ_back Q_thrown Q_all Q_statements Q_hitKind Q_hits Q_tries Q_takenAll Q_takenFirst Q_kinds Q_which Q_firsts Q_seconds Q_thirds Q_variables Q_holes Q_places Q_image_12 Q_bound_12 Q_waits_12 Q_waitsFor_12 Q_seen_12 Q_looked_12) H → va_D A (wv_50 cI cJ cZ aQ aQ_kinds aQ_which aQ_firsts aQ_seconds aQ_thirds aQ_nexts aQ_heads aQ_names aQ_variables aQ_holes aQ_sizes aQ_places aQ_conclusions aQ_premises aQ_counts aQ_hitOf aQ_hitOne aQ_hitTwo aQ_hitTerms aQ_image aQ_bound aQ_waits aQ_waitsFor aQ_seen aQ_goals aQ_steps aQ_looked aQ_under aQ_taken aQ_news aQ_order aQ_there aQ_back Q_thrown Q_all Q_statements Q_hitKind Q_hits Q_tries Q_takenAll Q_takenFirst Q_kinds Q_which Q_firsts Q_seconds Q_thirds Q_variables Q_holes Q_places Q_image_12 Q_bound_12 Q_waits_12 Q_waitsFor_12 Q_seen_12 Q_looked_12) → va_S A s.heap H locs → ∀ (ls : Array Slot), lv_has ls 7 [(0, .ref aQ), (1, .int x1_12), (3, .int x3_12)] → f_Q_firstMatch_L12 Q_kinds Q_which Q_firsts Q_seconds Q_thirds Q_variables Q_holes Q_places n12 Q_image_12 Q_bound_12 Q_waits_12 Q_waitsFor_12 Q_seen_12 Q_looked_12 x1_12 x3_12 = some o → W p l e (headSpec (ws_Q_firstMatch) rm_Q_firstMatch).room s m ([.ref aQ, .int p0, .int p1] : List Value).toArray below meth c H locs 0 0 (MQ below (WQ D vwCl (some (.int o.1)) (wv_50 cI cJ cZ aQ aQ_kinds aQ_which aQ_firsts aQ_seconds aQ_thirds aQ_nexts aQ_heads aQ_names aQ_variables aQ_holes aQ_sizes aQ_places aQ_conclusions aQ_premises aQ_counts aQ_hitOf aQ_hitOne aQ_hitTwo aQ_hitTerms aQ_image aQ_bound aQ_waits aQ_waitsFor aQ_seen aQ_goals aQ_steps aQ_looked aQ_under aQ_taken aQ_news aQ_order aQ_there aQ_back Q_thrown Q_all Q_statements Q_hitKind Q_hits Q_tries Q_takenAll Q_takenFirst Q_kinds Q_which Q_firsts Q_seconds Q_thirds Q_variables Q_holes Q_places o.2.1 o.2.2.1 o.2.2.2.1 o.2.2.2.2.1 o.2.2.2.2.2.1 o.2.2.2.2.2.2) A) ([.ref aQ, .int p0, .int p1] : List Value).toArray s 0 0 A) (F0 m 12 ls []) := by
    intro n12
    induction n12 with
    | zero =>
      intro Q_image_12 Q_bound_12 Q_waits_12 Q_waitsFor_12 Q_seen_12 Q_looked_12 x1_12 x3_12 H locs hP hD hS ls hl hf
      rw [f_Q_firstMatch_L12] at hf
      cases hf
    | succ n12 ih12 =>
      have hL65 : ∀ (n65 : Nat), ∀ (Q_image_65 : (Nat → Int32)) (Q_bound_65 : (Nat → Int32)) (Q_waits_65 : (Nat → Int32)) (Q_waitsFor_65 : (Nat → Int32)) (Q_seen_65 : (Nat → Int32)) (Q_looked_65 : (Nat → Int32)) (x1_65 : Int32) (x3_65 : Int32) (x5_65 : Int32) (x6_65 : Int32), ∀ (H : Heap) (locs : List Loc), va_P D vwCl (wv_50 cI cJ cZ aQ aQ_kinds aQ_which aQ_firsts aQ_seconds aQ_thirds aQ_nexts aQ_heads aQ_names aQ_variables aQ_holes aQ_sizes aQ_places aQ_conclusions aQ_premises aQ_counts aQ_hitOf aQ_hitOne aQ_hitTwo aQ_hitTerms aQ_image aQ_bound aQ_waits aQ_waitsFor aQ_seen aQ_goals aQ_steps aQ_looked aQ_under aQ_taken aQ_news aQ_order aQ_there aQ_back Q_thrown Q_all Q_statements Q_hitKind Q_hits Q_tries Q_takenAll Q_takenFirst Q_kinds Q_which Q_firsts Q_seconds Q_thirds Q_variables Q_holes Q_places Q_image_65 Q_bound_65 Q_waits_65 Q_waitsFor_65 Q_seen_65 Q_looked_65) H → va_D A (wv_50 cI cJ cZ aQ aQ_kinds aQ_which aQ_firsts aQ_seconds aQ_thirds aQ_nexts aQ_heads aQ_names aQ_variables aQ_holes aQ_sizes aQ_places aQ_conclusions aQ_premises aQ_counts aQ_hitOf aQ_hitOne aQ_hitTwo aQ_hitTerms aQ_image aQ_bound aQ_waits aQ_waitsFor aQ_seen aQ_goals aQ_steps aQ_looked aQ_under aQ_taken aQ_news aQ_order aQ_there aQ_back Q_thrown Q_all Q_statements Q_hitKind Q_hits Q_tries Q_takenAll Q_takenFirst Q_kinds Q_which Q_firsts Q_seconds Q_thirds Q_variables Q_holes Q_places Q_image_65 Q_bound_65 Q_waits_65 Q_waitsFor_65 Q_seen_65 Q_looked_65) → va_S A s.heap H locs → ∀ (ls : Array Slot), lv_has ls 7 [(0, .ref aQ), (1, .int x1_65), (3, .int x3_65), (5, .int x5_65), (6, .int x6_65)] → f_Q_firstMatch_L65 Q_kinds Q_which Q_firsts Q_seconds Q_thirds Q_variables Q_holes Q_places (f_Q_firstMatch_L12 Q_kinds Q_which Q_firsts Q_seconds Q_thirds Q_variables Q_holes Q_places n12) n65 Q_image_65 Q_bound_65 Q_waits_65 Q_waitsFor_65 Q_seen_65 Q_looked_65 x1_65 x3_65 x5_65 x6_65 = some o → W p l e (headSpec (ws_Q_firstMatch) rm_Q_firstMatch).room s m ([.ref aQ, .int p0, .int p1] : List Value).toArray below meth c H locs 0 0 (MQ below (WQ D vwCl (some (.int o.1)) (wv_50 cI cJ cZ aQ aQ_kinds aQ_which aQ_firsts aQ_seconds aQ_thirds aQ_nexts aQ_heads aQ_names aQ_variables aQ_holes aQ_sizes aQ_places aQ_conclusions aQ_premises aQ_counts aQ_hitOf aQ_hitOne aQ_hitTwo aQ_hitTerms aQ_image aQ_bound aQ_waits aQ_waitsFor aQ_seen aQ_goals aQ_steps aQ_looked aQ_under aQ_taken aQ_news aQ_order aQ_there aQ_back Q_thrown Q_all Q_statements Q_hitKind Q_hits Q_tries Q_takenAll Q_takenFirst Q_kinds Q_which Q_firsts Q_seconds Q_thirds Q_variables Q_holes Q_places o.2.1 o.2.2.1 o.2.2.2.1 o.2.2.2.2.1 o.2.2.2.2.2.1 o.2.2.2.2.2.2) A) ([.ref aQ, .int p0, .int p1] : List Value).toArray s 0 0 A) (F0 m 65 ls []) := by
        intro n65
        induction n65 with
        | zero =>
          intro Q_image_65 Q_bound_65 Q_waits_65 Q_waitsFor_65 Q_seen_65 Q_looked_65 x1_65 x3_65 x5_65 x6_65 H locs hP hD hS ls hl hf
          rw [f_Q_firstMatch_L65] at hf
          cases hf
        | succ n65 ih65 =>
          intro Q_image_65 Q_bound_65 Q_waits_65 Q_waitsFor_65 Q_seen_65 Q_looked_65 x1_65 x3_65 x5_65 x6_65 H locs hP hD hS ls hl hf
          rw [f_Q_firstMatch_L65] at hf
          refine lv_iload hx hb d_Q_firstMatch_65 (lv_at hl 4 rfl) ?_
          refine lv_if_lt (tgt := 103) hx hb d_Q_firstMatch_67 (by decide) (fun c13 => ?_) (fun c13 => ?_)
          · have hf := ite_t c13 hf
            refine lv_goto (tgt := 12) hx hb d_Q_firstMatch_103 (by decide) ?_
            exact ih12 _ _ _ _ _ _ _ _ _ _ hP hD hS _ (lv_sub hl [0, 1, 2] rfl) hf
          · have hf := ite_f c13 hf
            refine lv_aload_n hx hb d_Q_firstMatch_70 rfl (lv_at hl 0 rfl) ?_
            refine lv_iload hx hb d_Q_firstMatch_71 (lv_at hl 3 rfl) ?_
            refine lv_iload hx hb d_Q_firstMatch_73 (lv_at hl 4 rfl) ?_
            obtain ⟨r14, hr14, hf⟩ := of_bd hf
            refine rd_call (va_runV (As := [.int x5_65, .int x6_65]) (rest := []) ⟨hx, hb, hml, hown, hts⟩ (c_Q_part l D cI cJ cZ aQ aQ_kinds aQ_which aQ_firsts aQ_seconds aQ_thirds aQ_nexts aQ_heads aQ_names aQ_variables aQ_holes aQ_sizes aQ_places aQ_conclusions aQ_premises aQ_counts aQ_hitOf aQ_hitOne aQ_hitTwo aQ_hitTerms aQ_image aQ_bound aQ_waits aQ_waitsFor aQ_seen aQ_goals aQ_steps aQ_looked aQ_under aQ_taken aQ_news aQ_order aQ_there aQ_back Q_thrown Q_all Q_statements Q_hitKind Q_hits Q_tries Q_takenAll Q_takenFirst Q_firsts Q_seconds Q_thirds x5_65 x6_65 r14 hr14) (bigV 2 hts k4_218 k4_220 ks_Q_part k1_9 k4_221 rfl rfl hd_Q_part ⟨Nat.le_of_ble_eq_true rfl, Nat.le_of_ble_eq_true rfl⟩) (rd_preV hK hP [0, 3, 4, 5] rfl 0 rfl rfl rfl) rfl rfl hl.1 rfl (lv_room (Nat.le_of_ble_eq_true rfl)) d_Q_firstMatch_75 ⟨Nat.le_of_ble_eq_true rfl, Nat.le_of_ble_eq_true rfl⟩) ?_
            refine lv_istore (lv' := [(4, .int r14), (0, .ref aQ), (1, .int x1_65), (3, .int x3_65), (5, .int x5_65), (6, .int x6_65)]) hx hb d_Q_firstMatch_78 hl (by decide) rfl (fun ls hl => ?_)
            refine lv_iload hx hb d_Q_firstMatch_80 (lv_at hl 0 rfl) ?_
            refine lv_iconst (v := -1) hx hb d_Q_firstMatch_82 (by decide) ?_
            refine lv_icmp_eq (tgt := 97) hx hb d_Q_firstMatch_83 (by decide) (fun c15 => ?_) (fun c15 => ?_)
            · have hf := ite_t c15 hf
              obtain ⟨x16, ex16⟩ : ∃ y : Int32, y = x6_65 + (-1 : Int32) := ⟨_, rfl⟩
              refine lv_iinc (v := x16) (lv' := [(6, .int x16), (4, .int r14), (0, .ref aQ), (1, .int x1_65), (3, .int x3_65), (5, .int x5_65)]) hx hb d_Q_firstMatch_97 hl (k := 5) rfl (by rw [ex16]; rfl) (by decide) rfl (fun ls hl => ?_)
              have hf := of_nm ex16 hf
              refine lv_goto (tgt := 65) hx hb d_Q_firstMatch_100 (by decide) ?_
              exact ih65 _ _ _ _ _ _ _ _ _ _ _ _ hP hD hS _ (lv_sub hl [2, 3, 4, 5, 0] rfl) hf
            · have hf := ite_f c15 hf
              refine lv_aload_n hx hb d_Q_firstMatch_86 rfl (lv_at hl 1 rfl) ?_
              refine va_get (D := D) (ci := 7) (v := .ref aQ_looked) (C := RR_Q) (T := FF_Q) (N := 41) hx hb hts kin_Q hown hK.1 hP 0 rfl rfl 31 (by decide) (hts _ k4_98) (fun _ h9 => h9) rfl d_Q_firstMatch_87 ?_
              refine lv_iload_n hx hb d_Q_firstMatch_90 rfl (lv_at hl 3 rfl) ?_
              refine lv_iload hx hb d_Q_firstMatch_91 (lv_at hl 0 rfl) ?_
              obtain ⟨h17, hf⟩ := of_gd hf
              obtain ⟨g18, eg18⟩ : ∃ y : Nat → Int32, y = upd Q_looked_65 x3_65.toNatClampNeg r14 := ⟨_, rfl⟩
              have hf := of_nm eg18 hf
              refine va_iast hx hb hK.1 hP hD hS 14 0 rfl rfl (ixb_in h17) d_Q_firstMatch_93 (fun H locs hP hD hS => ?_)
              rw [← eg18] at hP hD
              have hP : va_P D vwCl (wv_50 cI cJ cZ aQ aQ_kinds aQ_which aQ_firsts aQ_seconds aQ_thirds aQ_nexts aQ_heads aQ_names aQ_variables aQ_holes aQ_sizes aQ_places aQ_conclusions aQ_premises aQ_counts aQ_hitOf aQ_hitOne aQ_hitTwo aQ_hitTerms aQ_image aQ_bound aQ_waits aQ_waitsFor aQ_seen aQ_goals aQ_steps aQ_looked aQ_under aQ_taken aQ_news aQ_order aQ_there aQ_back Q_thrown Q_all Q_statements Q_hitKind Q_hits Q_tries Q_takenAll Q_takenFirst Q_kinds Q_which Q_firsts Q_seconds Q_thirds Q_variables Q_holes Q_places Q_image_65 Q_bound_65 Q_waits_65 Q_waitsFor_65 Q_seen_65 g18) H := hP
              have hD : va_D A (wv_50 cI cJ cZ aQ aQ_kinds aQ_which aQ_firsts aQ_seconds aQ_thirds aQ_nexts aQ_heads aQ_names aQ_variables aQ_holes aQ_sizes aQ_places aQ_conclusions aQ_premises aQ_counts aQ_hitOf aQ_hitOne aQ_hitTwo aQ_hitTerms aQ_image aQ_bound aQ_waits aQ_waitsFor aQ_seen aQ_goals aQ_steps aQ_looked aQ_under aQ_taken aQ_news aQ_order aQ_there aQ_back Q_thrown Q_all Q_statements Q_hitKind Q_hits Q_tries Q_takenAll Q_takenFirst Q_kinds Q_which Q_firsts Q_seconds Q_thirds Q_variables Q_holes Q_places Q_image_65 Q_bound_65 Q_waits_65 Q_waitsFor_65 Q_seen_65 g18) := hD
              obtain ⟨x19, ex19⟩ : ∃ y : Int32, y = x3_65 + (1 : Int32) := ⟨_, rfl⟩
              refine lv_iinc (v := x19) (lv' := [(3, .int x19), (4, .int r14), (0, .ref aQ), (1, .int x1_65), (5, .int x5_65), (6, .int x6_65)]) hx hb d_Q_firstMatch_94 hl (k := 3) rfl (by rw [ex19]; rfl) (by decide) rfl (fun ls hl => ?_)
              have hf := of_nm ex19 hf
              obtain ⟨x20, ex20⟩ : ∃ y : Int32, y = x6_65 + (-1 : Int32) := ⟨_, rfl⟩
              refine lv_iinc (v := x20) (lv' := [(6, .int x20), (3, .int x19), (4, .int r14), (0, .ref aQ), (1, .int x1_65), (5, .int x5_65)]) hx hb d_Q_firstMatch_97 hl (k := 5) rfl (by rw [ex20]; rfl) (by decide) rfl (fun ls hl => ?_)
              have hf := of_nm ex20 hf
              refine lv_goto (tgt := 65) hx hb d_Q_firstMatch_100 (by decide) ?_
              exact ih65 _ _ _ _ _ _ _ _ _ _ _ _ hP hD hS _ (lv_sub hl [3, 4, 1, 5, 0] rfl) hf
      intro Q_image_12 Q_bound_12 Q_waits_12 Q_waitsFor_12 Q_seen_12 Q_looked_12 x1_12 x3_12 H locs hP hD hS ls hl hf
      rw [f_Q_firstMatch_L12] at hf
      refine lv_iload_n hx hb d_Q_firstMatch_12 rfl (lv_at hl 2 rfl) ?_
      refine lv_if_le (tgt := 106) hx hb d_Q_firstMatch_13 (by decide) (fun c3 => ?_) (fun c3 => ?_)
      · have hf := ite_t c3 hf
        refine lv_iconst (v := -1) hx hb d_Q_firstMatch_106 (by decide) ?_
        obtain rfl := Option.some.inj hf
        exact W.iret (v := (-1 : Int32)) hx hb hr (fun t ht hW => ⟨rfl, by rw [ht]; exact hP, hD, hS.F ht⟩) hS.2.2 d_Q_firstMatch_107
      · have hf := ite_f c3 hf
        obtain ⟨x4, ex4⟩ : ∃ y : Int32, y = x3_12 + (-1 : Int32) := ⟨_, rfl⟩
        refine lv_iinc (v := x4) (lv' := [(3, .int x4), (0, .ref aQ), (1, .int x1_12)]) hx hb d_Q_firstMatch_16 hl (k := 2) rfl (by rw [ex4]; rfl) (by decide) rfl (fun ls hl => ?_)
        have hf := of_nm ex4 hf
        refine lv_aload_n hx hb d_Q_firstMatch_19 rfl (lv_at hl 1 rfl) ?_
        refine va_get (D := D) (ci := 7) (v := .ref aQ_looked) (C := RR_Q) (T := FF_Q) (N := 41) hx hb hts kin_Q hown hK.1 hP 0 rfl rfl 31 (by decide) (hts _ k4_98) (fun _ h9 => h9) rfl d_Q_firstMatch_20 ?_
        refine lv_iload_n hx hb d_Q_firstMatch_23 rfl (lv_at hl 0 rfl) ?_
        obtain ⟨h5, hf⟩ := of_gd hf
        refine va_iald hx hb hK.1 hP 14 0 rfl rfl (ixb_in h5) d_Q_firstMatch_24 ?_
        refine lv_topi (fun x6 ex6 => ?_)
        have hf := of_nm ex6 hf
        refine lv_istore (lv' := [(5, .int x6), (3, .int x4), (0, .ref aQ), (1, .int x1_12)]) hx hb d_Q_firstMatch_25 hl (by decide) rfl (fun ls hl => ?_)
        refine lv_aload_n hx hb d_Q_firstMatch_27 rfl (lv_at hl 2 rfl) ?_
        refine va_get (D := D) (ci := 7) (v := .ref aQ_seen) (C := RR_Q) (T := FF_Q) (N := 41) hx hb hts kin_Q hown hK.1 hP 0 rfl rfl 28 (by decide) (hts _ k4_95) (fun _ h9 => h9) rfl d_Q_firstMatch_28 ?_
        refine lv_iload hx hb d_Q_firstMatch_31 (lv_at hl 0 rfl) ?_
        obtain ⟨h7, hf⟩ := of_gd hf
        refine va_zald hx hb hK.1 hP 13 2 rfl rfl (ixb_in h7) d_Q_firstMatch_33 ?_
        refine lv_if_eq (tgt := 40) hx hb d_Q_firstMatch_34 (by decide) (fun c8 => ?_) (fun c8 => ?_)
        · have hf := ite_t c8 hf
          refine lv_aload_n hx hb d_Q_firstMatch_40 rfl (lv_at hl 2 rfl) ?_
          refine va_get (D := D) (ci := 7) (v := .ref aQ_seen) (C := RR_Q) (T := FF_Q) (N := 41) hx hb hts kin_Q hown hK.1 hP 0 rfl rfl 28 (by decide) (hts _ k4_95) (fun _ h9 => h9) rfl d_Q_firstMatch_41 ?_
          refine lv_iload hx hb d_Q_firstMatch_44 (lv_at hl 0 rfl) ?_
          refine lv_iconst (v := 1) hx hb d_Q_firstMatch_46 (by decide) ?_
          obtain ⟨h9, hf⟩ := of_gd hf
          obtain ⟨g10, eg10⟩ : ∃ y : Nat → Int32, y = upd Q_seen_12 x6.toNatClampNeg (vp_nar .boolean (1 : Int32)) := ⟨_, rfl⟩
          have hf := of_nm eg10 hf
          refine va_zast hx hb hK.1 hP hD hS 13 2 rfl rfl (ixb_in h9) d_Q_firstMatch_47 (fun H locs hP hD hS => ?_)
          rw [← eg10] at hP hD
          have hP : va_P D vwCl (wv_50 cI cJ cZ aQ aQ_kinds aQ_which aQ_firsts aQ_seconds aQ_thirds aQ_nexts aQ_heads aQ_names aQ_variables aQ_holes aQ_sizes aQ_places aQ_conclusions aQ_premises aQ_counts aQ_hitOf aQ_hitOne aQ_hitTwo aQ_hitTerms aQ_image aQ_bound aQ_waits aQ_waitsFor aQ_seen aQ_goals aQ_steps aQ_looked aQ_under aQ_taken aQ_news aQ_order aQ_there aQ_back Q_thrown Q_all Q_statements Q_hitKind Q_hits Q_tries Q_takenAll Q_takenFirst Q_kinds Q_which Q_firsts Q_seconds Q_thirds Q_variables Q_holes Q_places Q_image_12 Q_bound_12 Q_waits_12 Q_waitsFor_12 g10 Q_looked_12) H := hP
          have hD : va_D A (wv_50 cI cJ cZ aQ aQ_kinds aQ_which aQ_firsts aQ_seconds aQ_thirds aQ_nexts aQ_heads aQ_names aQ_variables aQ_holes aQ_sizes aQ_places aQ_conclusions aQ_premises aQ_counts aQ_hitOf aQ_hitOne aQ_hitTwo aQ_hitTerms aQ_image aQ_bound aQ_waits aQ_waitsFor aQ_seen aQ_goals aQ_steps aQ_looked aQ_under aQ_taken aQ_news aQ_order aQ_there aQ_back Q_thrown Q_all Q_statements Q_hitKind Q_hits Q_tries Q_takenAll Q_takenFirst Q_kinds Q_which Q_firsts Q_seconds Q_thirds Q_variables Q_holes Q_places Q_image_12 Q_bound_12 Q_waits_12 Q_waitsFor_12 g10 Q_looked_12) := hD
          refine lv_aload_n hx hb d_Q_firstMatch_48 rfl (lv_at hl 2 rfl) ?_
          refine lv_iload_n hx hb d_Q_firstMatch_49 rfl (lv_at hl 3 rfl) ?_
          refine lv_iload hx hb d_Q_firstMatch_50 (lv_at hl 0 rfl) ?_
          refine lv_iconst (v := 1) hx hb d_Q_firstMatch_52 (by decide) ?_
          obtain ⟨r11, hr11, hf⟩ := of_bd hf
          refine wr_call (ws' := (wv_50 cI cJ cZ aQ aQ_kinds aQ_which aQ_firsts aQ_seconds aQ_thirds aQ_nexts aQ_heads aQ_names aQ_variables aQ_holes aQ_sizes aQ_places aQ_conclusions aQ_premises aQ_counts aQ_hitOf aQ_hitOne aQ_hitTwo aQ_hitTerms aQ_image aQ_bound aQ_waits aQ_waitsFor aQ_seen aQ_goals aQ_steps aQ_looked aQ_under aQ_taken aQ_news aQ_order aQ_there aQ_back Q_thrown Q_all Q_statements Q_hitKind Q_hits Q_tries Q_takenAll Q_takenFirst Q_kinds Q_which Q_firsts Q_seconds Q_thirds Q_variables Q_holes Q_places r11.2.1 r11.2.2.1 r11.2.2.2.1 r11.2.2.2.2 g10 Q_looked_12)) (va_runV (As := [.int x1_12, .int x6, .int (1 : Int32)]) (rest := []) ⟨hx, hb, hml, hown, hts⟩ (c_Q_matches l D cI cJ cZ aQ aQ_kinds aQ_which aQ_firsts aQ_seconds aQ_thirds aQ_nexts aQ_heads aQ_names aQ_variables aQ_holes aQ_sizes aQ_places aQ_conclusions aQ_premises aQ_counts aQ_hitOf aQ_hitOne aQ_hitTwo aQ_hitTerms aQ_image aQ_bound aQ_waits aQ_waitsFor aQ_seen aQ_goals aQ_steps aQ_looked aQ_under aQ_taken aQ_news aQ_order aQ_there aQ_back _ Q_thrown Q_all Q_statements Q_hitKind Q_hits Q_tries Q_takenAll Q_takenFirst Q_kinds Q_which Q_firsts Q_seconds Q_thirds Q_variables Q_holes Q_places Q_image_12 Q_bound_12 Q_waits_12 Q_waitsFor_12 x1_12 x6 (1 : Int32) r11 hr11) (bigV 3 hts k5_11 k5_13 ks_Q_matches k1_9 k5_14 rfl rfl hd_Q_matches ⟨Nat.le_of_ble_eq_true rfl, Nat.le_of_ble_eq_true rfl⟩) (wr_preV hK hP hD [0, 1, 2, 3, 4, 5, 6, 7, 8, 9, 10, 11, 12] rfl (by decide) rfl 0 rfl rfl rfl) rfl rfl hl.1 rfl (lv_room (Nat.le_of_ble_eq_true rfl)) d_Q_firstMatch_53 ⟨Nat.le_of_ble_eq_true rfl, Nat.le_of_ble_eq_true rfl⟩) hP hD hS hA [0, 1, 2, 3, 4, 5, 6, 7, 8, 9, 10, 11, 12] [13, 14] rfl rfl (by decide) (by decide) [2, 3, 4, 5, 6, 7, 8, 9, 10, 11, 12, 13, 14, 0, 1] (by decide) rfl (fun H locs hP hD hS => ?_)
          refine lv_if_eq (tgt := 62) hx hb d_Q_firstMatch_56 (by decide) (fun c12 => ?_) (fun c12 => ?_)
          · have hf := ite_t c12 hf
            refine lv_iconst (v := 2) hx hb d_Q_firstMatch_62 (by decide) ?_
            refine lv_istore (lv' := [(6, .int (2 : Int32)), (5, .int x6), (3, .int x4), (0, .ref aQ), (1, .int x1_12)]) hx hb d_Q_firstMatch_63 hl (by decide) rfl (fun ls hl => ?_)
            exact hL65 FU _ _ _ _ _ _ _ _ _ _ _ _ hP hD hS _ (lv_sub hl [3, 4, 2, 1, 0] rfl) hf
          · have hf := ite_f c12 hf
            refine lv_iload hx hb d_Q_firstMatch_59 (lv_at hl 0 rfl) ?_
            obtain rfl := Option.some.inj hf
            exact W.iret (v := x6) hx hb hr (fun t ht hW => ⟨rfl, by rw [ht]; exact hP, hD, hS.F ht⟩) hS.2.2 d_Q_firstMatch_61
        · have hf := ite_f c8 hf
          refine lv_goto (tgt := 12) hx hb d_Q_firstMatch_37 (by decide) ?_
          exact ih12 _ _ _ _ _ _ _ _ _ _ hP hD hS _ (lv_sub hl [2, 3, 1] rfl) hf
  rw [f_Q_firstMatch] at hf
  refine lv_iconst (v := 1) hx hb d_Q_firstMatch_0 (by decide) ?_
  refine lv_istore_n (lv' := [(3, .int (1 : Int32)), (0, .ref aQ), (1, .int p0), (2, .int p1)]) hx hb d_Q_firstMatch_1 rfl hl (by decide) rfl (fun ls hl => ?_)
  refine lv_iconst (v := 0) hx hb d_Q_firstMatch_2 (by decide) ?_
  refine lv_istore (lv' := [(4, .int (0 : Int32)), (3, .int (1 : Int32)), (0, .ref aQ), (1, .int p0), (2, .int p1)]) hx hb d_Q_firstMatch_3 hl (by decide) rfl (fun ls hl => ?_)
  refine lv_aload_n hx hb d_Q_firstMatch_5 rfl (lv_at hl 2 rfl) ?_
  refine va_get (D := D) (ci := 7) (v := .ref aQ_looked) (C := RR_Q) (T := FF_Q) (N := 41) hx hb hts kin_Q hown hK.1 hP 0 rfl rfl 31 (by decide) (hts _ k4_98) (fun _ h9 => h9) rfl d_Q_firstMatch_6 ?_
  refine lv_iconst (v := 0) hx hb d_Q_firstMatch_9 (by decide) ?_
  refine lv_iload_n hx hb d_Q_firstMatch_10 rfl (lv_at hl 4 rfl) ?_
  obtain ⟨h1, hf⟩ := of_gd hf
  obtain ⟨g2, eg2⟩ : ∃ y : Nat → Int32, y = upd Q_looked (0 : Int32).toNatClampNeg p1 := ⟨_, rfl⟩
  have hf := of_nm eg2 hf
  refine va_iast hx hb hK.1 hP hD hS 14 0 rfl rfl (ixb_in h1) d_Q_firstMatch_11 (fun H locs hP hD hS => ?_)
  rw [← eg2] at hP hD
  have hP : va_P D vwCl (wv_50 cI cJ cZ aQ aQ_kinds aQ_which aQ_firsts aQ_seconds aQ_thirds aQ_nexts aQ_heads aQ_names aQ_variables aQ_holes aQ_sizes aQ_places aQ_conclusions aQ_premises aQ_counts aQ_hitOf aQ_hitOne aQ_hitTwo aQ_hitTerms aQ_image aQ_bound aQ_waits aQ_waitsFor aQ_seen aQ_goals aQ_steps aQ_looked aQ_under aQ_taken aQ_news aQ_order aQ_there aQ_back Q_thrown Q_all Q_statements Q_hitKind Q_hits Q_tries Q_takenAll Q_takenFirst Q_kinds Q_which Q_firsts Q_seconds Q_thirds Q_variables Q_holes Q_places Q_image Q_bound Q_waits Q_waitsFor Q_seen g2) H := hP
  have hD : va_D A (wv_50 cI cJ cZ aQ aQ_kinds aQ_which aQ_firsts aQ_seconds aQ_thirds aQ_nexts aQ_heads aQ_names aQ_variables aQ_holes aQ_sizes aQ_places aQ_conclusions aQ_premises aQ_counts aQ_hitOf aQ_hitOne aQ_hitTwo aQ_hitTerms aQ_image aQ_bound aQ_waits aQ_waitsFor aQ_seen aQ_goals aQ_steps aQ_looked aQ_under aQ_taken aQ_news aQ_order aQ_there aQ_back Q_thrown Q_all Q_statements Q_hitKind Q_hits Q_tries Q_takenAll Q_takenFirst Q_kinds Q_which Q_firsts Q_seconds Q_thirds Q_variables Q_holes Q_places Q_image Q_bound Q_waits Q_waitsFor Q_seen g2) := hD
  exact hL12 FU _ _ _ _ _ _ _ _ _ _ hP hD hS _ (lv_sub hl [2, 3, 1] rfl) hf
def f_Q_hit_III_L33 (Q_bound : (Nat → Int32)) : Nat → Int32 → (Nat → Int32) → (Nat → Int32) → (Nat → Int32) → (Nat → Int32) → Int32 → Option (Int32 × (Nat → Int32) × (Nat → Int32) × (Nat → Int32) × (Nat → Int32))
  | 0, _, _, _, _, _, _ => none
  | n + 1, Q_hits_33, Q_hitOf_33, Q_hitOne_33, Q_hitTwo_33, Q_hitTerms_33, x4_33 =>
    if (8 : Int32) ≤ x4_33 then
      nm (Q_hits_33 + (1 : Int32)) fun x8 =>
      some (x8, Q_hitOf_33, Q_hitOne_33, Q_hitTwo_33, Q_hitTerms_33)
    else
      gd (ixb x4_33 8) <|
      gd (ixb (((8 : Int32) * Q_hits_33) + x4_33) 240) <| nm (upd Q_hitTerms_33 (((8 : Int32) * Q_hits_33) + x4_33).toNatClampNeg (Q_bound x4_33.toNatClampNeg)) fun g11 =>
      nm (x4_33 + (1 : Int32)) fun x12 =>
      (f_Q_hit_III_L33 Q_bound n) Q_hits_33 Q_hitOf_33 Q_hitOne_33 Q_hitTwo_33 g11 x12
def f_Q_hit_III (Q_hits : Int32) (Q_hitOf : (Nat → Int32)) (Q_hitOne : (Nat → Int32)) (Q_hitTwo : (Nat → Int32)) (Q_hitTerms : (Nat → Int32)) (Q_bound : (Nat → Int32)) (p0 : Int32) (p1 : Int32) (p2 : Int32) : Option (Int32 × (Nat → Int32) × (Nat → Int32) × (Nat → Int32) × (Nat → Int32)) :=
  gd (ixb Q_hits 30) <| nm (upd Q_hitOf Q_hits.toNatClampNeg p0) fun g2 =>
  gd (ixb Q_hits 30) <| nm (upd Q_hitOne Q_hits.toNatClampNeg p1) fun g4 =>
  gd (ixb Q_hits 30) <| nm (upd Q_hitTwo Q_hits.toNatClampNeg p2) fun g6 =>
  f_Q_hit_III_L33 Q_bound FU Q_hits g2 g4 g6 Q_hitTerms (0 : Int32)
abbrev rm_Q_hit_III : Room := { frames := 0, cells := 0, slots := 0, locals := 0 }
set_option maxHeartbeats 4000000 in
set_option maxRecDepth 100000 in
theorem c_Q_hit_III (l : Launch) (D : va_G) (cI cJ cZ : ClassId) (aQ aQ_kinds aQ_which aQ_firsts aQ_seconds aQ_thirds aQ_nexts aQ_heads aQ_names aQ_variables aQ_holes aQ_sizes aQ_places aQ_conclusions aQ_premises aQ_counts aQ_hitOf aQ_hitOne aQ_hitTwo aQ_hitTerms aQ_image aQ_bound aQ_waits aQ_waitsFor aQ_seen aQ_goals aQ_steps aQ_looked aQ_under aQ_taken aQ_news aQ_order aQ_there aQ_back : Nat) (sz : Nat) (Q_thrown : Int32) (Q_all : Int32) (Q_statements : Int32) (Q_hitKind : Int32) (Q_hits : Int32) (Q_tries : Int32) (Q_takenAll : Int32) (Q_takenFirst : Int32) (Q_hitOf : (Nat → Int32)) (Q_hitOne : (Nat → Int32)) (Q_hitTwo : (Nat → Int32)) (Q_hitTerms : (Nat → Int32)) (Q_bound : (Nat → Int32)) (p0 : Int32) (p1 : Int32) (p2 : Int32) (o : Int32 × (Nat → Int32) × (Nat → Int32) × (Nat → Int32) × (Nat → Int32)) (hf : f_Q_hit_III Q_hits Q_hitOf Q_hitOne Q_hitTwo Q_hitTerms Q_bound p0 p1 p2 = some o) : Met l y_Q_hit_III (ws_Q_hit_III) rm_Q_hit_III (WPc D vwCl cI cJ cZ [.ref aQ, .int p0, .int p1, .int p2] (wv_51 cI cJ cZ aQ aQ_kinds aQ_which aQ_firsts aQ_seconds aQ_thirds aQ_nexts aQ_heads aQ_names aQ_variables aQ_holes aQ_sizes aQ_places aQ_conclusions aQ_premises aQ_counts aQ_hitOf aQ_hitOne aQ_hitTwo aQ_hitTerms aQ_image aQ_bound aQ_waits aQ_waitsFor aQ_seen aQ_goals aQ_steps aQ_looked aQ_under aQ_taken aQ_news aQ_order aQ_there aQ_back Q_thrown Q_all Q_statements Q_hitKind Q_hits Q_tries Q_takenAll Q_takenFirst Q_hitOf Q_hitOne Q_hitTwo Q_hitTerms Q_bound) sz) (WQ D vwCl none (wv_51 cI cJ cZ aQ aQ_kinds aQ_which aQ_firsts aQ_seconds aQ_thirds aQ_nexts aQ_heads aQ_names aQ_variables aQ_holes aQ_sizes aQ_places aQ_conclusions aQ_premises aQ_counts aQ_hitOf aQ_hitOne aQ_hitTwo aQ_hitTerms aQ_image aQ_bound aQ_waits aQ_waitsFor aQ_seen aQ_goals aQ_steps aQ_looked aQ_under aQ_taken aQ_news aQ_order aQ_there aQ_back Q_thrown Q_all Q_statements Q_hitKind o.1 Q_tries Q_takenAll Q_takenFirst o.2.1 o.2.2.1 o.2.2.2.1 o.2.2.2.2 Q_bound) (va_A (wv_51 cI cJ cZ aQ aQ_kinds aQ_which aQ_firsts aQ_seconds aQ_thirds aQ_nexts aQ_heads aQ_names aQ_variables aQ_holes aQ_sizes aQ_places aQ_conclusions aQ_premises aQ_counts aQ_hitOf aQ_hitOne aQ_hitTwo aQ_hitTerms aQ_image aQ_bound aQ_waits aQ_waitsFor aQ_seen aQ_goals aQ_steps aQ_looked aQ_under aQ_taken aQ_news aQ_order aQ_there aQ_back Q_thrown Q_all Q_statements Q_hitKind Q_hits Q_tries Q_takenAll Q_takenFirst Q_hitOf Q_hitOne Q_hitTwo Q_hitTerms Q_bound) sz)) 0 0 (va_A (wv_51 cI cJ cZ aQ aQ_kinds aQ_which aQ_firsts aQ_seconds aQ_thirds aQ_nexts aQ_heads aQ_names aQ_variables aQ_holes aQ_sizes aQ_places aQ_conclusions aQ_premises aQ_counts aQ_hitOf aQ_hitOne aQ_hitTwo aQ_hitTerms aQ_image aQ_bound aQ_waits aQ_waitsFor aQ_seen aQ_goals aQ_steps aQ_looked aQ_under aQ_taken aQ_news aQ_order aQ_there aQ_back Q_thrown Q_all Q_statements Q_hitKind Q_hits Q_tries Q_takenAll Q_takenFirst Q_hitOf Q_hitOne Q_hitTwo Q_hitTerms Q_bound) sz) := by
  refine Met.ofW (cc := b_Q_hit_III) (maxL := 5) (ret := none) (by decide) rfl ?_
  intro p e s m args below meth c s₁ B hml hv
  obtain ⟨rfl, rfl, hP, hK, hD0⟩ := hv
  have hx := B.exec
  have hb := B.bytes
  have hr := B.returns
  have hts : ∀ w ∈ BG, w.before _ s = true := fun w h => atoms_spec (ws := (ws_Q_hit_III)) B.pre w (List.mem_cons_of_mem _ h)
  have hown : s.vm.findClass RR_Q = some m.cls := findClass_of_methodNamed B.named
  have hlocks := B.notSynchronized
  have hD := hD0.self (sz := s.heap.size)
  have hA : ∀ q : Nat, s.heap.size ≤ q → va_A (wv_51 cI cJ cZ aQ aQ_kinds aQ_which aQ_firsts aQ_seconds aQ_thirds aQ_nexts aQ_heads aQ_names aQ_variables aQ_holes aQ_sizes aQ_places aQ_conclusions aQ_premises aQ_counts aQ_hitOf aQ_hitOne aQ_hitTwo aQ_hitTerms aQ_image aQ_bound aQ_waits aQ_waitsFor aQ_seen aQ_goals aQ_steps aQ_looked aQ_under aQ_taken aQ_news aQ_order aQ_there aQ_back Q_thrown Q_all Q_statements Q_hitKind Q_hits Q_tries Q_takenAll Q_takenFirst Q_hitOf Q_hitOne Q_hitTwo Q_hitTerms Q_bound) s.heap.size q := fun q h => Or.inr h
  have hS : va_S (va_A (wv_51 cI cJ cZ aQ aQ_kinds aQ_which aQ_firsts aQ_seconds aQ_thirds aQ_nexts aQ_heads aQ_names aQ_variables aQ_holes aQ_sizes aQ_places aQ_conclusions aQ_premises aQ_counts aQ_hitOf aQ_hitOne aQ_hitTwo aQ_hitTerms aQ_image aQ_bound aQ_waits aQ_waitsFor aQ_seen aQ_goals aQ_steps aQ_looked aQ_under aQ_taken aQ_news aQ_order aQ_there aQ_back Q_thrown Q_all Q_statements Q_hitKind Q_hits Q_tries Q_takenAll Q_takenFirst Q_hitOf Q_hitOne Q_hitTwo Q_hitTerms Q_bound) s.heap.size) s.heap s.heap [] := va_S.rf
  generalize va_A (wv_51 cI cJ cZ aQ aQ_kinds aQ_which aQ_firsts aQ_seconds aQ_thirds aQ_nexts aQ_heads aQ_names aQ_variables aQ_holes aQ_sizes aQ_places aQ_conclusions aQ_premises aQ_counts aQ_hitOf aQ_hitOne aQ_hitTwo aQ_hitTerms aQ_image aQ_bound aQ_waits aQ_waitsFor aQ_seen aQ_goals aQ_steps aQ_looked aQ_under aQ_taken aQ_news aQ_order aQ_there aQ_back Q_thrown Q_all Q_statements Q_hitKind Q_hits Q_tries Q_takenAll Q_takenFirst Q_hitOf Q_hitOne Q_hitTwo Q_hitTerms Q_bound) s.heap.size = A at hD hA hS ⊢
  have hl := lv_entry ([.ref aQ, .int p0, .int p1, .int p2]) (n := 5) (Nat.le_of_ble_eq_true rfl)
  rw [lg_entry_eq]
  generalize (lg_sl ([.ref aQ, .int p0, .int p1, .int p2]) ++ List.replicate (5 - (lg_sl ([.ref aQ, .int p0, .int p1, .int p2])).length) Slot.unset).toArray = ls at hl ⊢
  have hl : lv_has ls 5 [(0, .ref aQ), (1, .int p0), (2, .int p1), (3, .int p2)] := hl
  have hL33 : ∀ (n33 : Nat), ∀ (Q_hits_33 : Int32) (Q_hitOf_33 : (Nat → Int32)) (Q_hitOne_33 : (Nat → Int32)) (Q_hitTwo_33 : (Nat → Int32)) (Q_hitTerms_33 : (Nat → Int32)) (x4_33 : Int32), ∀ (H : Heap) (locs : List Loc), va_P D vwCl (wv_51 cI cJ cZ aQ aQ_kinds aQ_which aQ_firsts aQ_seconds aQ_thirds aQ_nexts aQ_heads aQ_names aQ_variables aQ_holes aQ_sizes aQ_places aQ_conclusions aQ_premises aQ_counts aQ_hitOf aQ_hitOne aQ_hitTwo aQ_hitTerms aQ_image aQ_bound aQ_waits aQ_waitsFor aQ_seen aQ_goals aQ_steps aQ_looked aQ_under aQ_taken aQ_news aQ_order aQ_there aQ_back Q_thrown Q_all Q_statements Q_hitKind Q_hits_33 Q_tries Q_takenAll Q_takenFirst Q_hitOf_33 Q_hitOne_33 Q_hitTwo_33 Q_hitTerms_33 Q_bound) H → va_D A (wv_51 cI cJ cZ aQ aQ_kinds aQ_which aQ_firsts aQ_seconds aQ_thirds aQ_nexts aQ_heads aQ_names aQ_variables aQ_holes aQ_sizes aQ_places aQ_conclusions aQ_premises aQ_counts aQ_hitOf aQ_hitOne aQ_hitTwo aQ_hitTerms aQ_image aQ_bound aQ_waits aQ_waitsFor aQ_seen aQ_goals aQ_steps aQ_looked aQ_under aQ_taken aQ_news aQ_order aQ_there aQ_back Q_thrown Q_all Q_statements Q_hitKind Q_hits_33 Q_tries Q_takenAll Q_takenFirst Q_hitOf_33 Q_hitOne_33 Q_hitTwo_33 Q_hitTerms_33 Q_bound) → va_S A s.heap H locs → ∀ (ls : Array Slot), lv_has ls 5 [(0, .ref aQ), (4, .int x4_33)] → f_Q_hit_III_L33 Q_bound n33 Q_hits_33 Q_hitOf_33 Q_hitOne_33 Q_hitTwo_33 Q_hitTerms_33 x4_33 = some o → W p l e (headSpec (ws_Q_hit_III) rm_Q_hit_III).room s m ([.ref aQ, .int p0, .int p1, .int p2] : List Value).toArray below meth c H locs 0 0 (MQ below (WQ D vwCl none (wv_51 cI cJ cZ aQ aQ_kinds aQ_which aQ_firsts aQ_seconds aQ_thirds aQ_nexts aQ_heads aQ_names aQ_variables aQ_holes aQ_sizes aQ_places aQ_conclusions aQ_premises aQ_counts aQ_hitOf aQ_hitOne aQ_hitTwo aQ_hitTerms aQ_image aQ_bound aQ_waits aQ_waitsFor aQ_seen aQ_goals aQ_steps aQ_looked aQ_under aQ_taken aQ_news aQ_order aQ_there aQ_back Q_thrown Q_all Q_statements Q_hitKind o.1 Q_tries Q_takenAll Q_takenFirst o.2.1 o.2.2.1 o.2.2.2.1 o.2.2.2.2 Q_bound) A) ([.ref aQ, .int p0, .int p1, .int p2] : List Value).toArray s 0 0 A) (F0 m 33 ls []) := by
    intro n33
    induction n33 with
    | zero =>
      intro Q_hits_33 Q_hitOf_33 Q_hitOne_33 Q_hitTwo_33 Q_hitTerms_33 x4_33 H locs hP hD hS ls hl hf
      rw [f_Q_hit_III_L33] at hf
      cases hf
    | succ n33 ih33 =>
      intro Q_hits_33 Q_hitOf_33 Q_hitOne_33 Q_hitTwo_33 Q_hitTerms_33 x4_33 H locs hP hD hS ls hl hf
      rw [f_Q_hit_III_L33] at hf
      refine lv_iload hx hb d_Q_hit_III_33 (lv_at hl 1 rfl) ?_
      refine lv_bipush (v := 8) hx hb d_Q_hit_III_35 (by decide) ?_
      refine lv_icmp_ge (tgt := 68) hx hb d_Q_hit_III_37 (by decide) (fun c7 => ?_) (fun c7 => ?_)
      · have hf := ite_t c7 hf
        refine lv_aload_n hx hb d_Q_hit_III_68 rfl (lv_at hl 0 rfl) ?_
        refine lv_dup hx hb d_Q_hit_III_69 rfl ?_
        refine va_get (D := D) (ci := 7) (v := .int Q_hits_33) (C := RR_Q) (T := FF_Q) (N := 41) hx hb hts kin_Q hown hK.1 hP 0 rfl rfl 19 (by decide) (hts _ k4_86) (fun _ h9 => h9) rfl d_Q_hit_III_70 ?_
        refine lv_iconst (v := 1) hx hb d_Q_hit_III_73 (by decide) ?_
        refine lv_iadd hx hb d_Q_hit_III_74 ?_
        refine lv_topi (fun x8 ex8 => ?_)
        have hf := of_nm ex8 hf
        refine va_put (D := D) (ci := 7) (v := .int x8) (ty := .int) (C := RR_Q) (T := FF_Q) (N := 41) hx hb hts kin_Q TT_Q tok_Q nok_Q hown hK.1 hP hD hS 0 rfl rfl 19 (by decide) (hts _ k4_86) (fun _ h9 => h9) rfl (by decide +kernel) rfl rfl (Nat.le_of_ble_eq_true rfl) d_Q_hit_III_75 (fun H locs hP hD hS => ?_)
        have hP : va_P D vwCl (wv_51 cI cJ cZ aQ aQ_kinds aQ_which aQ_firsts aQ_seconds aQ_thirds aQ_nexts aQ_heads aQ_names aQ_variables aQ_holes aQ_sizes aQ_places aQ_conclusions aQ_premises aQ_counts aQ_hitOf aQ_hitOne aQ_hitTwo aQ_hitTerms aQ_image aQ_bound aQ_waits aQ_waitsFor aQ_seen aQ_goals aQ_steps aQ_looked aQ_under aQ_taken aQ_news aQ_order aQ_there aQ_back Q_thrown Q_all Q_statements Q_hitKind x8 Q_tries Q_takenAll Q_takenFirst Q_hitOf_33 Q_hitOne_33 Q_hitTwo_33 Q_hitTerms_33 Q_bound) H := hP
        have hD : va_D A (wv_51 cI cJ cZ aQ aQ_kinds aQ_which aQ_firsts aQ_seconds aQ_thirds aQ_nexts aQ_heads aQ_names aQ_variables aQ_holes aQ_sizes aQ_places aQ_conclusions aQ_premises aQ_counts aQ_hitOf aQ_hitOne aQ_hitTwo aQ_hitTerms aQ_image aQ_bound aQ_waits aQ_waitsFor aQ_seen aQ_goals aQ_steps aQ_looked aQ_under aQ_taken aQ_news aQ_order aQ_there aQ_back Q_thrown Q_all Q_statements Q_hitKind x8 Q_tries Q_takenAll Q_takenFirst Q_hitOf_33 Q_hitOne_33 Q_hitTwo_33 Q_hitTerms_33 Q_bound) := hD
        obtain rfl := Option.some.inj hf
        exact W.vret hx hb hr (fun t ht hW => ⟨rfl, by rw [ht]; exact hP, hD, hS.F ht⟩) hS.2.2 d_Q_hit_III_78
      · have hf := ite_f c7 hf
        refine lv_aload_n hx hb d_Q_hit_III_40 rfl (lv_at hl 0 rfl) ?_
        refine va_get (D := D) (ci := 7) (v := .ref aQ_hitTerms) (C := RR_Q) (T := FF_Q) (N := 41) hx hb hts kin_Q hown hK.1 hP 0 rfl rfl 23 (by decide) (hts _ k4_90) (fun _ h9 => h9) rfl d_Q_hit_III_41 ?_
        refine lv_bipush (v := 8) hx hb d_Q_hit_III_44 (by decide) ?_
        refine lv_aload_n hx hb d_Q_hit_III_46 rfl (lv_at hl 0 rfl) ?_
        refine va_get (D := D) (ci := 7) (v := .int Q_hits_33) (C := RR_Q) (T := FF_Q) (N := 41) hx hb hts kin_Q hown hK.1 hP 0 rfl rfl 19 (by decide) (hts _ k4_86) (fun _ h9 => h9) rfl d_Q_hit_III_47 ?_
        refine lv_imul hx hb d_Q_hit_III_50 ?_
        refine lv_iload hx hb d_Q_hit_III_51 (lv_at hl 1 rfl) ?_
        refine lv_iadd hx hb d_Q_hit_III_53 ?_
        refine lv_aload_n hx hb d_Q_hit_III_54 rfl (lv_at hl 0 rfl) ?_
        refine va_get (D := D) (ci := 7) (v := .ref aQ_bound) (C := RR_Q) (T := FF_Q) (N := 41) hx hb hts kin_Q hown hK.1 hP 0 rfl rfl 25 (by decide) (hts _ k4_92) (fun _ h9 => h9) rfl d_Q_hit_III_55 ?_
        refine lv_iload hx hb d_Q_hit_III_58 (lv_at hl 1 rfl) ?_
        obtain ⟨h9, hf⟩ := of_gd hf
        refine va_iald hx hb hK.1 hP 5 0 rfl rfl (ixb_in h9) d_Q_hit_III_60 ?_
        obtain ⟨h10, hf⟩ := of_gd hf
        obtain ⟨g11, eg11⟩ : ∃ y : Nat → Int32, y = upd Q_hitTerms_33 (((8 : Int32) * Q_hits_33) + x4_33).toNatClampNeg (Q_bound x4_33.toNatClampNeg) := ⟨_, rfl⟩
        have hf := of_nm eg11 hf
        refine va_iast hx hb hK.1 hP hD hS 4 0 rfl rfl (ixb_in h10) d_Q_hit_III_61 (fun H locs hP hD hS => ?_)
        rw [← eg11] at hP hD
        have hP : va_P D vwCl (wv_51 cI cJ cZ aQ aQ_kinds aQ_which aQ_firsts aQ_seconds aQ_thirds aQ_nexts aQ_heads aQ_names aQ_variables aQ_holes aQ_sizes aQ_places aQ_conclusions aQ_premises aQ_counts aQ_hitOf aQ_hitOne aQ_hitTwo aQ_hitTerms aQ_image aQ_bound aQ_waits aQ_waitsFor aQ_seen aQ_goals aQ_steps aQ_looked aQ_under aQ_taken aQ_news aQ_order aQ_there aQ_back Q_thrown Q_all Q_statements Q_hitKind Q_hits_33 Q_tries Q_takenAll Q_takenFirst Q_hitOf_33 Q_hitOne_33 Q_hitTwo_33 g11 Q_bound) H := hP
        have hD : va_D A (wv_51 cI cJ cZ aQ aQ_kinds aQ_which aQ_firsts aQ_seconds aQ_thirds aQ_nexts aQ_heads aQ_names aQ_variables aQ_holes aQ_sizes aQ_places aQ_conclusions aQ_premises aQ_counts aQ_hitOf aQ_hitOne aQ_hitTwo aQ_hitTerms aQ_image aQ_bound aQ_waits aQ_waitsFor aQ_seen aQ_goals aQ_steps aQ_looked aQ_under aQ_taken aQ_news aQ_order aQ_there aQ_back Q_thrown Q_all Q_statements Q_hitKind Q_hits_33 Q_tries Q_takenAll Q_takenFirst Q_hitOf_33 Q_hitOne_33 Q_hitTwo_33 g11 Q_bound) := hD
        obtain ⟨x12, ex12⟩ : ∃ y : Int32, y = x4_33 + (1 : Int32) := ⟨_, rfl⟩
        refine lv_iinc (v := x12) (lv' := [(4, .int x12), (0, .ref aQ)]) hx hb d_Q_hit_III_62 hl (k := 1) rfl (by rw [ex12]; rfl) (by decide) rfl (fun ls hl => ?_)
        have hf := of_nm ex12 hf
        refine lv_goto (tgt := 33) hx hb d_Q_hit_III_65 (by decide) ?_
        exact ih33 _ _ _ _ _ _ _ _ hP hD hS _ (lv_sub hl [1, 0] rfl) hf
  rw [f_Q_hit_III] at hf
  refine lv_aload_n hx hb d_Q_hit_III_0 rfl (lv_at hl 0 rfl) ?_
  refine va_get (D := D) (ci := 7) (v := .ref aQ_hitOf) (C := RR_Q) (T := FF_Q) (N := 41) hx hb hts kin_Q hown hK.1 hP 0 rfl rfl 20 (by decide) (hts _ k4_87) (fun _ h9 => h9) rfl d_Q_hit_III_1 ?_
  refine lv_aload_n hx hb d_Q_hit_III_4 rfl (lv_at hl 0 rfl) ?_
  refine va_get (D := D) (ci := 7) (v := .int Q_hits) (C := RR_Q) (T := FF_Q) (N := 41) hx hb hts kin_Q hown hK.1 hP 0 rfl rfl 19 (by decide) (hts _ k4_86) (fun _ h9 => h9) rfl d_Q_hit_III_5 ?_
  refine lv_iload_n hx hb d_Q_hit_III_8 rfl (lv_at hl 1 rfl) ?_
  obtain ⟨h1, hf⟩ := of_gd hf
  obtain ⟨g2, eg2⟩ : ∃ y : Nat → Int32, y = upd Q_hitOf Q_hits.toNatClampNeg p0 := ⟨_, rfl⟩
  have hf := of_nm eg2 hf
  refine va_iast hx hb hK.1 hP hD hS 1 0 rfl rfl (ixb_in h1) d_Q_hit_III_9 (fun H locs hP hD hS => ?_)
  rw [← eg2] at hP hD
  have hP : va_P D vwCl (wv_51 cI cJ cZ aQ aQ_kinds aQ_which aQ_firsts aQ_seconds aQ_thirds aQ_nexts aQ_heads aQ_names aQ_variables aQ_holes aQ_sizes aQ_places aQ_conclusions aQ_premises aQ_counts aQ_hitOf aQ_hitOne aQ_hitTwo aQ_hitTerms aQ_image aQ_bound aQ_waits aQ_waitsFor aQ_seen aQ_goals aQ_steps aQ_looked aQ_under aQ_taken aQ_news aQ_order aQ_there aQ_back Q_thrown Q_all Q_statements Q_hitKind Q_hits Q_tries Q_takenAll Q_takenFirst g2 Q_hitOne Q_hitTwo Q_hitTerms Q_bound) H := hP
  have hD : va_D A (wv_51 cI cJ cZ aQ aQ_kinds aQ_which aQ_firsts aQ_seconds aQ_thirds aQ_nexts aQ_heads aQ_names aQ_variables aQ_holes aQ_sizes aQ_places aQ_conclusions aQ_premises aQ_counts aQ_hitOf aQ_hitOne aQ_hitTwo aQ_hitTerms aQ_image aQ_bound aQ_waits aQ_waitsFor aQ_seen aQ_goals aQ_steps aQ_looked aQ_under aQ_taken aQ_news aQ_order aQ_there aQ_back Q_thrown Q_all Q_statements Q_hitKind Q_hits Q_tries Q_takenAll Q_takenFirst g2 Q_hitOne Q_hitTwo Q_hitTerms Q_bound) := hD
  refine lv_aload_n hx hb d_Q_hit_III_10 rfl (lv_at hl 0 rfl) ?_
  refine va_get (D := D) (ci := 7) (v := .ref aQ_hitOne) (C := RR_Q) (T := FF_Q) (N := 41) hx hb hts kin_Q hown hK.1 hP 0 rfl rfl 21 (by decide) (hts _ k4_88) (fun _ h9 => h9) rfl d_Q_hit_III_11 ?_
  refine lv_aload_n hx hb d_Q_hit_III_14 rfl (lv_at hl 0 rfl) ?_
  refine va_get (D := D) (ci := 7) (v := .int Q_hits) (C := RR_Q) (T := FF_Q) (N := 41) hx hb hts kin_Q hown hK.1 hP 0 rfl rfl 19 (by decide) (hts _ k4_86) (fun _ h9 => h9) rfl d_Q_hit_III_15 ?_
  refine lv_iload_n hx hb d_Q_hit_III_18 rfl (lv_at hl 2 rfl) ?_
  obtain ⟨h3, hf⟩ := of_gd hf
  obtain ⟨g4, eg4⟩ : ∃ y : Nat → Int32, y = upd Q_hitOne Q_hits.toNatClampNeg p1 := ⟨_, rfl⟩
  have hf := of_nm eg4 hf
  refine va_iast hx hb hK.1 hP hD hS 2 0 rfl rfl (ixb_in h3) d_Q_hit_III_19 (fun H locs hP hD hS => ?_)
  rw [← eg4] at hP hD
  have hP : va_P D vwCl (wv_51 cI cJ cZ aQ aQ_kinds aQ_which aQ_firsts aQ_seconds aQ_thirds aQ_nexts aQ_heads aQ_names aQ_variables aQ_holes aQ_sizes aQ_places aQ_conclusions aQ_premises aQ_counts aQ_hitOf aQ_hitOne aQ_hitTwo aQ_hitTerms aQ_image aQ_bound aQ_waits aQ_waitsFor aQ_seen aQ_goals aQ_steps aQ_looked aQ_under aQ_taken aQ_news aQ_order aQ_there aQ_back Q_thrown Q_all Q_statements Q_hitKind Q_hits Q_tries Q_takenAll Q_takenFirst g2 g4 Q_hitTwo Q_hitTerms Q_bound) H := hP
  have hD : va_D A (wv_51 cI cJ cZ aQ aQ_kinds aQ_which aQ_firsts aQ_seconds aQ_thirds aQ_nexts aQ_heads aQ_names aQ_variables aQ_holes aQ_sizes aQ_places aQ_conclusions aQ_premises aQ_counts aQ_hitOf aQ_hitOne aQ_hitTwo aQ_hitTerms aQ_image aQ_bound aQ_waits aQ_waitsFor aQ_seen aQ_goals aQ_steps aQ_looked aQ_under aQ_taken aQ_news aQ_order aQ_there aQ_back Q_thrown Q_all Q_statements Q_hitKind Q_hits Q_tries Q_takenAll Q_takenFirst g2 g4 Q_hitTwo Q_hitTerms Q_bound) := hD
  refine lv_aload_n hx hb d_Q_hit_III_20 rfl (lv_at hl 0 rfl) ?_
  refine va_get (D := D) (ci := 7) (v := .ref aQ_hitTwo) (C := RR_Q) (T := FF_Q) (N := 41) hx hb hts kin_Q hown hK.1 hP 0 rfl rfl 22 (by decide) (hts _ k4_89) (fun _ h9 => h9) rfl d_Q_hit_III_21 ?_
  refine lv_aload_n hx hb d_Q_hit_III_24 rfl (lv_at hl 0 rfl) ?_
  refine va_get (D := D) (ci := 7) (v := .int Q_hits) (C := RR_Q) (T := FF_Q) (N := 41) hx hb hts kin_Q hown hK.1 hP 0 rfl rfl 19 (by decide) (hts _ k4_86) (fun _ h9 => h9) rfl d_Q_hit_III_25 ?_
  refine lv_iload_n hx hb d_Q_hit_III_28 rfl (lv_at hl 3 rfl) ?_
  obtain ⟨h5, hf⟩ := of_gd hf
  obtain ⟨g6, eg6⟩ : ∃ y : Nat → Int32, y = upd Q_hitTwo Q_hits.toNatClampNeg p2 := ⟨_, rfl⟩
  have hf := of_nm eg6 hf
  refine va_iast hx hb hK.1 hP hD hS 3 0 rfl rfl (ixb_in h5) d_Q_hit_III_29 (fun H locs hP hD hS => ?_)
  rw [← eg6] at hP hD
  have hP : va_P D vwCl (wv_51 cI cJ cZ aQ aQ_kinds aQ_which aQ_firsts aQ_seconds aQ_thirds aQ_nexts aQ_heads aQ_names aQ_variables aQ_holes aQ_sizes aQ_places aQ_conclusions aQ_premises aQ_counts aQ_hitOf aQ_hitOne aQ_hitTwo aQ_hitTerms aQ_image aQ_bound aQ_waits aQ_waitsFor aQ_seen aQ_goals aQ_steps aQ_looked aQ_under aQ_taken aQ_news aQ_order aQ_there aQ_back Q_thrown Q_all Q_statements Q_hitKind Q_hits Q_tries Q_takenAll Q_takenFirst g2 g4 g6 Q_hitTerms Q_bound) H := hP
  have hD : va_D A (wv_51 cI cJ cZ aQ aQ_kinds aQ_which aQ_firsts aQ_seconds aQ_thirds aQ_nexts aQ_heads aQ_names aQ_variables aQ_holes aQ_sizes aQ_places aQ_conclusions aQ_premises aQ_counts aQ_hitOf aQ_hitOne aQ_hitTwo aQ_hitTerms aQ_image aQ_bound aQ_waits aQ_waitsFor aQ_seen aQ_goals aQ_steps aQ_looked aQ_under aQ_taken aQ_news aQ_order aQ_there aQ_back Q_thrown Q_all Q_statements Q_hitKind Q_hits Q_tries Q_takenAll Q_takenFirst g2 g4 g6 Q_hitTerms Q_bound) := hD
  refine lv_iconst (v := 0) hx hb d_Q_hit_III_30 (by decide) ?_
  refine lv_istore (lv' := [(4, .int (0 : Int32)), (0, .ref aQ), (1, .int p0), (2, .int p1), (3, .int p2)]) hx hb d_Q_hit_III_31 hl (by decide) rfl (fun ls hl => ?_)
  exact hL33 FU _ _ _ _ _ _ _ _ hP hD hS _ (lv_sub hl [1, 0] rfl) hf
def f_Q_find_B115 (Q_all : Int32) (Q_statements : Int32) (Q_kinds : (Nat → Int32)) (Q_which : (Nat → Int32)) (Q_firsts : (Nat → Int32)) (Q_seconds : (Nat → Int32)) (Q_thirds : (Nat → Int32)) (Q_variables : (Nat → Int32)) (Q_holes : (Nat → Int32)) (Q_places : (Nat → Int32)) (Q_conclusions : (Nat → Int32)) (Q_premises : (Nat → Int32)) (Q_counts : (Nat → Int32)) (K34 : Int32 → Int32 → Int32 → (Nat → Int32) → (Nat → Int32) → (Nat → Int32) → (Nat → Int32) → (Nat → Int32) → (Nat → Int32) → (Nat → Int32) → (Nat → Int32) → (Nat → Int32) → (Nat → Int32) → Int32 → Int32 → Option (Int32 × Int32 × Int32 × Int32 × (Nat → Int32) × (Nat → Int32) × (Nat → Int32) × (Nat → Int32) × (Nat → Int32) × (Nat → Int32) × (Nat → Int32) × (Nat → Int32) × (Nat → Int32) × (Nat → Int32))) (Q_thrown_115 : Int32) (Q_hitKind_115 : Int32) (Q_hits_115 : Int32) (Q_hitOf_115 : (Nat → Int32)) (Q_hitOne_115 : (Nat → Int32)) (Q_hitTwo_115 : (Nat → Int32)) (Q_hitTerms_115 : (Nat → Int32)) (Q_image_115 : (Nat → Int32)) (Q_bound_115 : (Nat → Int32)) (Q_waits_115 : (Nat → Int32)) (Q_waitsFor_115 : (Nat → Int32)) (Q_seen_115 : (Nat → Int32)) (Q_looked_115 : (Nat → Int32)) (x1_115 : Int32) (x2_115 : Int32) (x3_115 : Int32) (x4_115 : Int32) : Option (Int32 × Int32 × Int32 × Int32 × (Nat → Int32) × (Nat → Int32) × (Nat → Int32) × (Nat → Int32) × (Nat → Int32) × (Nat → Int32) × (Nat → Int32) × (Nat → Int32) × (Nat → Int32) × (Nat → Int32)) :=
  if x4_115 = (-1 : Int32) then
    nm (x2_115 + (1 : Int32)) fun x19 =>
    K34 Q_thrown_115 Q_hitKind_115 Q_hits_115 Q_hitOf_115 Q_hitOne_115 Q_hitTwo_115 Q_hitTerms_115 Q_image_115 Q_bound_115 Q_waits_115 Q_waitsFor_115 Q_seen_115 Q_looked_115 x1_115 x19
  else
    (f_Q_hit_III Q_hits_115 Q_hitOf_115 Q_hitOne_115 Q_hitTwo_115 Q_hitTerms_115 Q_bound_115 x2_115 x3_115 x4_115).bind fun r20 =>
    nm (x2_115 + (1 : Int32)) fun x21 =>
    K34 Q_thrown_115 Q_hitKind_115 r20.1 r20.2.1 r20.2.2.1 r20.2.2.2.1 r20.2.2.2.2 Q_image_115 Q_bound_115 Q_waits_115 Q_waitsFor_115 Q_seen_115 Q_looked_115 x1_115 x21
def f_Q_find_L78 (Q_all : Int32) (Q_statements : Int32) (Q_kinds : (Nat → Int32)) (Q_which : (Nat → Int32)) (Q_firsts : (Nat → Int32)) (Q_seconds : (Nat → Int32)) (Q_thirds : (Nat → Int32)) (Q_variables : (Nat → Int32)) (Q_holes : (Nat → Int32)) (Q_places : (Nat → Int32)) (Q_conclusions : (Nat → Int32)) (Q_premises : (Nat → Int32)) (Q_counts : (Nat → Int32)) (K34 : Int32 → Int32 → Int32 → (Nat → Int32) → (Nat → Int32) → (Nat → Int32) → (Nat → Int32) → (Nat → Int32) → (Nat → Int32) → (Nat → Int32) → (Nat → Int32) → (Nat → Int32) → (Nat → Int32) → Int32 → Int32 → Option (Int32 × Int32 × Int32 × Int32 × (Nat → Int32) × (Nat → Int32) × (Nat → Int32) × (Nat → Int32) × (Nat → Int32) × (Nat → Int32) × (Nat → Int32) × (Nat → Int32) × (Nat → Int32) × (Nat → Int32))) : Nat → Int32 → Int32 → Int32 → (Nat → Int32) → (Nat → Int32) → (Nat → Int32) → (Nat → Int32) → (Nat → Int32) → (Nat → Int32) → (Nat → Int32) → (Nat → Int32) → (Nat → Int32) → (Nat → Int32) → Int32 → Int32 → Int32 → Int32 → Option (Int32 × Int32 × Int32 × Int32 × (Nat → Int32) × (Nat → Int32) × (Nat → Int32) × (Nat → Int32) × (Nat → Int32) × (Nat → Int32) × (Nat → Int32) × (Nat → Int32) × (Nat → Int32) × (Nat → Int32))
  | 0, _, _, _, _, _, _, _, _, _, _, _, _, _, _, _, _, _ => none
  | n + 1, Q_thrown_78, Q_hitKind_78, Q_hits_78, Q_hitOf_78, Q_hitOne_78, Q_hitTwo_78, Q_hitTerms_78, Q_image_78, Q_bound_78, Q_waits_78, Q_waitsFor_78, Q_seen_78, Q_looked_78, x1_78, x2_78, x3_78, x4_78 =>
    if x4_78 = (-1 : Int32) then
      gd (ixb x2_78 30) <|
      if (Q_counts x2_78.toNatClampNeg) ≤ (x3_78 + (1 : Int32)) then
        f_Q_find_B115 Q_all Q_statements Q_kinds Q_which Q_firsts Q_seconds Q_thirds Q_variables Q_holes Q_places Q_conclusions Q_premises Q_counts K34 Q_thrown_78 Q_hitKind_78 Q_hits_78 Q_hitOf_78 Q_hitOne_78 Q_hitTwo_78 Q_hitTerms_78 Q_image_78 Q_bound_78 Q_waits_78 Q_waitsFor_78 Q_seen_78 Q_looked_78 x1_78 x2_78 x3_78 x4_78
      else
        nm (x3_78 + (1 : Int32)) fun x15 =>
        (f_Q_premise Q_premises x2_78 x15).bind fun r16 =>
        (f_Q_firstMatch Q_kinds Q_which Q_firsts Q_seconds Q_thirds Q_variables Q_holes Q_places Q_image_78 Q_bound_78 Q_waits_78 Q_waitsFor_78 Q_seen_78 Q_looked_78 x1_78 r16).bind fun r17 =>
        (f_Q_find_L78 Q_all Q_statements Q_kinds Q_which Q_firsts Q_seconds Q_thirds Q_variables Q_holes Q_places Q_conclusions Q_premises Q_counts K34 n) Q_thrown_78 Q_hitKind_78 Q_hits_78 Q_hitOf_78 Q_hitOne_78 Q_hitTwo_78 Q_hitTerms_78 r17.2.1 r17.2.2.1 r17.2.2.2.1 r17.2.2.2.2.1 r17.2.2.2.2.2.1 r17.2.2.2.2.2.2 x1_78 x2_78 x15 r17.1
    else
      f_Q_find_B115 Q_all Q_statements Q_kinds Q_which Q_firsts Q_seconds Q_thirds Q_variables Q_holes Q_places Q_conclusions Q_premises Q_counts K34 Q_thrown_78 Q_hitKind_78 Q_hits_78 Q_hitOf_78 Q_hitOne_78 Q_hitTwo_78 Q_hitTerms_78 Q_image_78 Q_bound_78 Q_waits_78 Q_waitsFor_78 Q_seen_78 Q_looked_78 x1_78 x2_78 x3_78 x4_78
def f_Q_find_L44 (Q_all : Int32) (Q_statements : Int32) (Q_kinds : (Nat → Int32)) (Q_which : (Nat → Int32)) (Q_firsts : (Nat → Int32)) (Q_seconds : (Nat → Int32)) (Q_thirds : (Nat → Int32)) (Q_variables : (Nat → Int32)) (Q_holes : (Nat → Int32)) (Q_places : (Nat → Int32)) (Q_conclusions : (Nat → Int32)) (Q_premises : (Nat → Int32)) (Q_counts : (Nat → Int32)) (K34 : Int32 → Int32 → Int32 → (Nat → Int32) → (Nat → Int32) → (Nat → Int32) → (Nat → Int32) → (Nat → Int32) → (Nat → Int32) → (Nat → Int32) → (Nat → Int32) → (Nat → Int32) → (Nat → Int32) → Int32 → Int32 → Option (Int32 × Int32 × Int32 × Int32 × (Nat → Int32) × (Nat → Int32) × (Nat → Int32) × (Nat → Int32) × (Nat → Int32) × (Nat → Int32) × (Nat → Int32) × (Nat → Int32) × (Nat → Int32) × (Nat → Int32))) : Nat → Int32 → Int32 → Int32 → (Nat → Int32) → (Nat → Int32) → (Nat → Int32) → (Nat → Int32) → (Nat → Int32) → (Nat → Int32) → (Nat → Int32) → (Nat → Int32) → (Nat → Int32) → (Nat → Int32) → Int32 → Int32 → Int32 → Option (Int32 × Int32 × Int32 × Int32 × (Nat → Int32) × (Nat → Int32) × (Nat → Int32) × (Nat → Int32) × (Nat → Int32) × (Nat → Int32) × (Nat → Int32) × (Nat → Int32) × (Nat → Int32) × (Nat → Int32))
  | 0, _, _, _, _, _, _, _, _, _, _, _, _, _, _, _, _ => none
  | n + 1, Q_thrown_44, Q_hitKind_44, Q_hits_44, Q_hitOf_44, Q_hitOne_44, Q_hitTwo_44, Q_hitTerms_44, Q_image_44, Q_bound_44, Q_waits_44, Q_waitsFor_44, Q_seen_44, Q_looked_44, x1_44, x2_44, x3_44 =>
    if (100 : Int32) ≤ x3_44 then
      gd (ixb x2_44 30) <|
      (f_Q_firstMatch Q_kinds Q_which Q_firsts Q_seconds Q_thirds Q_variables Q_holes Q_places Q_image_44 Q_bound_44 Q_waits_44 Q_waitsFor_44 Q_seen_44 Q_looked_44 x1_44 (Q_conclusions x2_44.toNatClampNeg)).bind fun r8 =>
      f_Q_find_L78 Q_all Q_statements Q_kinds Q_which Q_firsts Q_seconds Q_thirds Q_variables Q_holes Q_places Q_conclusions Q_premises Q_counts K34 FU Q_thrown_44 Q_hitKind_44 Q_hits_44 Q_hitOf_44 Q_hitOne_44 Q_hitTwo_44 Q_hitTerms_44 r8.2.1 r8.2.2.1 r8.2.2.2.1 r8.2.2.2.2.1 r8.2.2.2.2.2.1 r8.2.2.2.2.2.2 x1_44 x2_44 (-1 : Int32) r8.1
    else
      gd (ixb x3_44 100) <| nm (upd Q_seen_44 x3_44.toNatClampNeg (vp_nar .boolean (0 : Int32))) fun g10 =>
      nm (x3_44 + (1 : Int32)) fun x11 =>
      (f_Q_find_L44 Q_all Q_statements Q_kinds Q_which Q_firsts Q_seconds Q_thirds Q_variables Q_holes Q_places Q_conclusions Q_premises Q_counts K34 n) Q_thrown_44 Q_hitKind_44 Q_hits_44 Q_hitOf_44 Q_hitOne_44 Q_hitTwo_44 Q_hitTerms_44 Q_image_44 Q_bound_44 Q_waits_44 Q_waitsFor_44 g10 Q_looked_44 x1_44 x2_44 x11
def f_Q_find_L34 (Q_all : Int32) (Q_statements : Int32) (Q_kinds : (Nat → Int32)) (Q_which : (Nat → Int32)) (Q_firsts : (Nat → Int32)) (Q_seconds : (Nat → Int32)) (Q_thirds : (Nat → Int32)) (Q_variables : (Nat → Int32)) (Q_holes : (Nat → Int32)) (Q_places : (Nat → Int32)) (Q_conclusions : (Nat → Int32)) (Q_premises : (Nat → Int32)) (Q_counts : (Nat → Int32)) : Nat → Int32 → Int32 → Int32 → (Nat → Int32) → (Nat → Int32) → (Nat → Int32) → (Nat → Int32) → (Nat → Int32) → (Nat → Int32) → (Nat → Int32) → (Nat → Int32) → (Nat → Int32) → (Nat → Int32) → Int32 → Int32 → Option (Int32 × Int32 × Int32 × Int32 × (Nat → Int32) × (Nat → Int32) × (Nat → Int32) × (Nat → Int32) × (Nat → Int32) × (Nat → Int32) × (Nat → Int32) × (Nat → Int32) × (Nat → Int32) × (Nat → Int32))
  | 0, _, _, _, _, _, _, _, _, _, _, _, _, _, _, _ => none
  | n + 1, Q_thrown_34, Q_hitKind_34, Q_hits_34, Q_hitOf_34, Q_hitOne_34, Q_hitTwo_34, Q_hitTerms_34, Q_image_34, Q_bound_34, Q_waits_34, Q_waitsFor_34, Q_seen_34, Q_looked_34, x1_34, x2_34 =>
    if Q_statements ≤ x2_34 then
      some (Q_hits_34, Q_thrown_34, Q_hitKind_34, Q_hits_34, Q_hitOf_34, Q_hitOne_34, Q_hitTwo_34, Q_hitTerms_34, Q_image_34, Q_bound_34, Q_waits_34, Q_waitsFor_34, Q_seen_34, Q_looked_34)
    else
      f_Q_find_L44 Q_all Q_statements Q_kinds Q_which Q_firsts Q_seconds Q_thirds Q_variables Q_holes Q_places Q_conclusions Q_premises Q_counts (f_Q_find_L34 Q_all Q_statements Q_kinds Q_which Q_firsts Q_seconds Q_thirds Q_variables Q_holes Q_places Q_conclusions Q_premises Q_counts n) FU Q_thrown_34 Q_hitKind_34 Q_hits_34 Q_hitOf_34 Q_hitOne_34 Q_hitTwo_34 Q_hitTerms_34 Q_image_34 Q_bound_34 Q_waits_34 Q_waitsFor_34 Q_seen_34 Q_looked_34 x1_34 x2_34 (0 : Int32)
def f_Q_find_B14 (Q_all : Int32) (Q_statements : Int32) (Q_kinds : (Nat → Int32)) (Q_which : (Nat → Int32)) (Q_firsts : (Nat → Int32)) (Q_seconds : (Nat → Int32)) (Q_thirds : (Nat → Int32)) (Q_variables : (Nat → Int32)) (Q_holes : (Nat → Int32)) (Q_places : (Nat → Int32)) (Q_conclusions : (Nat → Int32)) (Q_premises : (Nat → Int32)) (Q_counts : (Nat → Int32)) (Q_thrown_14 : Int32) (Q_hitKind_14 : Int32) (Q_hits_14 : Int32) (Q_hitOf_14 : (Nat → Int32)) (Q_hitOne_14 : (Nat → Int32)) (Q_hitTwo_14 : (Nat → Int32)) (Q_hitTerms_14 : (Nat → Int32)) (Q_image_14 : (Nat → Int32)) (Q_bound_14 : (Nat → Int32)) (Q_waits_14 : (Nat → Int32)) (Q_waitsFor_14 : (Nat → Int32)) (Q_seen_14 : (Nat → Int32)) (Q_looked_14 : (Nat → Int32)) (x1_14 : Int32) (s1_14 : Int32) : Option (Int32 × Int32 × Int32 × Int32 × (Nat → Int32) × (Nat → Int32) × (Nat → Int32) × (Nat → Int32) × (Nat → Int32) × (Nat → Int32) × (Nat → Int32) × (Nat → Int32) × (Nat → Int32) × (Nat → Int32)) :=
  (f_Q_refuses Q_thrown_14 s1_14).bind fun r3 =>
  if r3.1 = 0 then
    f_Q_find_L34 Q_all Q_statements Q_kinds Q_which Q_firsts Q_seconds Q_thirds Q_variables Q_holes Q_places Q_conclusions Q_premises Q_counts FU r3.2 (1 : Int32) (0 : Int32) Q_hitOf_14 Q_hitOne_14 Q_hitTwo_14 Q_hitTerms_14 Q_image_14 Q_bound_14 Q_waits_14 Q_waitsFor_14 Q_seen_14 Q_looked_14 x1_14 (0 : Int32)
  else
    some ((0 : Int32), r3.2, Q_hitKind_14, Q_hits_14, Q_hitOf_14, Q_hitOne_14, Q_hitTwo_14, Q_hitTerms_14, Q_image_14, Q_bound_14, Q_waits_14, Q_waitsFor_14, Q_seen_14, Q_looked_14)
def f_Q_find (Q_thrown : Int32) (Q_all : Int32) (Q_statements : Int32) (Q_hitKind : Int32) (Q_hits : Int32) (Q_kinds : (Nat → Int32)) (Q_which : (Nat → Int32)) (Q_firsts : (Nat → Int32)) (Q_seconds : (Nat → Int32)) (Q_thirds : (Nat → Int32)) (Q_variables : (Nat → Int32)) (Q_holes : (Nat → Int32)) (Q_places : (Nat → Int32)) (Q_conclusions : (Nat → Int32)) (Q_premises : (Nat → Int32)) (Q_counts : (Nat → Int32)) (Q_hitOf : (Nat → Int32)) (Q_hitOne : (Nat → Int32)) (Q_hitTwo : (Nat → Int32)) (Q_hitTerms : (Nat → Int32)) (Q_image : (Nat → Int32)) (Q_bound : (Nat → Int32)) (Q_waits : (Nat → Int32)) (Q_waitsFor : (Nat → Int32)) (Q_seen : (Nat → Int32)) (Q_looked : (Nat → Int32)) (p0 : Int32) : Option (Int32 × Int32 × Int32 × Int32 × (Nat → Int32) × (Nat → Int32) × (Nat → Int32) × (Nat → Int32) × (Nat → Int32) × (Nat → Int32) × (Nat → Int32) × (Nat → Int32) × (Nat → Int32) × (Nat → Int32)) :=
  (f_Q_isTerm Q_all p0).bind fun r1 =>
  if r1 = 0 then
    f_Q_find_B14 Q_all Q_statements Q_kinds Q_which Q_firsts Q_seconds Q_thirds Q_variables Q_holes Q_places Q_conclusions Q_premises Q_counts Q_thrown Q_hitKind Q_hits Q_hitOf Q_hitOne Q_hitTwo Q_hitTerms Q_image Q_bound Q_waits Q_waitsFor Q_seen Q_looked p0 (1 : Int32)
  else
    f_Q_find_B14 Q_all Q_statements Q_kinds Q_which Q_firsts Q_seconds Q_thirds Q_variables Q_holes Q_places Q_conclusions Q_premises Q_counts Q_thrown Q_hitKind Q_hits Q_hitOf Q_hitOne Q_hitTwo Q_hitTerms Q_image Q_bound Q_waits Q_waitsFor Q_seen Q_looked p0 (0 : Int32)
abbrev rm_Q_find : Room := { frames := 3, cells := 0, slots := 0, locals := 75 }
set_option maxHeartbeats 4000000 in
set_option maxRecDepth 100000 in
theorem c_Q_find (l : Launch) (D : va_G) (cI cJ cZ : ClassId) (aQ aQ_kinds aQ_which aQ_firsts aQ_seconds aQ_thirds aQ_nexts aQ_heads aQ_names aQ_variables aQ_holes aQ_sizes aQ_places aQ_conclusions aQ_premises aQ_counts aQ_hitOf aQ_hitOne aQ_hitTwo aQ_hitTerms aQ_image aQ_bound aQ_waits aQ_waitsFor aQ_seen aQ_goals aQ_steps aQ_looked aQ_under aQ_taken aQ_news aQ_order aQ_there aQ_back : Nat) (sz : Nat) (Q_thrown : Int32) (Q_all : Int32) (Q_statements : Int32) (Q_hitKind : Int32) (Q_hits : Int32) (Q_tries : Int32) (Q_takenAll : Int32) (Q_takenFirst : Int32) (Q_kinds : (Nat → Int32)) (Q_which : (Nat → Int32)) (Q_firsts : (Nat → Int32)) (Q_seconds : (Nat → Int32)) (Q_thirds : (Nat → Int32)) (Q_variables : (Nat → Int32)) (Q_holes : (Nat → Int32)) (Q_places : (Nat → Int32)) (Q_conclusions : (Nat → Int32)) (Q_premises : (Nat → Int32)) (Q_counts : (Nat → Int32)) (Q_hitOf : (Nat → Int32)) (Q_hitOne : (Nat → Int32)) (Q_hitTwo : (Nat → Int32)) (Q_hitTerms : (Nat → Int32)) (Q_image : (Nat → Int32)) (Q_bound : (Nat → Int32)) (Q_waits : (Nat → Int32)) (Q_waitsFor : (Nat → Int32)) (Q_seen : (Nat → Int32)) (Q_looked : (Nat → Int32)) (p0 : Int32) (o : Int32 × Int32 × Int32 × Int32 × (Nat → Int32) × (Nat → Int32) × (Nat → Int32) × (Nat → Int32) × (Nat → Int32) × (Nat → Int32) × (Nat → Int32) × (Nat → Int32) × (Nat → Int32) × (Nat → Int32)) (hf : f_Q_find Q_thrown Q_all Q_statements Q_hitKind Q_hits Q_kinds Q_which Q_firsts Q_seconds Q_thirds Q_variables Q_holes Q_places Q_conclusions Q_premises Q_counts Q_hitOf Q_hitOne Q_hitTwo Q_hitTerms Q_image Q_bound Q_waits Q_waitsFor Q_seen Q_looked p0 = some o) : Met l y_Q_find (ws_Q_find) rm_Q_find (WPc D vwCl cI cJ cZ [.ref aQ, .int p0] (wv_52 cI cJ cZ aQ aQ_kinds aQ_which aQ_firsts aQ_seconds aQ_thirds aQ_nexts aQ_heads aQ_names aQ_variables aQ_holes aQ_sizes aQ_places aQ_conclusions aQ_premises aQ_counts aQ_hitOf aQ_hitOne aQ_hitTwo aQ_hitTerms aQ_image aQ_bound aQ_waits aQ_waitsFor aQ_seen aQ_goals aQ_steps aQ_looked aQ_under aQ_taken aQ_news aQ_order aQ_there aQ_back Q_thrown Q_all Q_statements Q_hitKind Q_hits Q_tries Q_takenAll Q_takenFirst Q_kinds Q_which Q_firsts Q_seconds Q_thirds Q_variables Q_holes Q_places Q_conclusions Q_premises Q_counts Q_hitOf Q_hitOne Q_hitTwo Q_hitTerms Q_image Q_bound Q_waits Q_waitsFor Q_seen Q_looked) sz) (WQ D vwCl (some (.int o.1)) (wv_52 cI cJ cZ aQ aQ_kinds aQ_which aQ_firsts aQ_seconds aQ_thirds aQ_nexts aQ_heads aQ_names aQ_variables aQ_holes aQ_sizes aQ_places aQ_conclusions aQ_premises aQ_counts aQ_hitOf aQ_hitOne aQ_hitTwo aQ_hitTerms aQ_image aQ_bound aQ_waits aQ_waitsFor aQ_seen aQ_goals aQ_steps aQ_looked aQ_under aQ_taken aQ_news aQ_order aQ_there aQ_back o.2.1 Q_all Q_statements o.2.2.1 o.2.2.2.1 Q_tries Q_takenAll Q_takenFirst Q_kinds Q_which Q_firsts Q_seconds Q_thirds Q_variables Q_holes Q_places Q_conclusions Q_premises Q_counts o.2.2.2.2.1 o.2.2.2.2.2.1 o.2.2.2.2.2.2.1 o.2.2.2.2.2.2.2.1 o.2.2.2.2.2.2.2.2.1 o.2.2.2.2.2.2.2.2.2.1 o.2.2.2.2.2.2.2.2.2.2.1 o.2.2.2.2.2.2.2.2.2.2.2.1 o.2.2.2.2.2.2.2.2.2.2.2.2.1 o.2.2.2.2.2.2.2.2.2.2.2.2.2) (va_A (wv_52 cI cJ cZ aQ aQ_kinds aQ_which aQ_firsts aQ_seconds aQ_thirds aQ_nexts aQ_heads aQ_names aQ_variables aQ_holes aQ_sizes aQ_places aQ_conclusions aQ_premises aQ_counts aQ_hitOf aQ_hitOne aQ_hitTwo aQ_hitTerms aQ_image aQ_bound aQ_waits aQ_waitsFor aQ_seen aQ_goals aQ_steps aQ_looked aQ_under aQ_taken aQ_news aQ_order aQ_there aQ_back Q_thrown Q_all Q_statements Q_hitKind Q_hits Q_tries Q_takenAll Q_takenFirst Q_kinds Q_which Q_firsts Q_seconds Q_thirds Q_variables Q_holes Q_places Q_conclusions Q_premises Q_counts Q_hitOf Q_hitOne Q_hitTwo Q_hitTerms Q_image Q_bound Q_waits Q_waitsFor Q_seen Q_looked) sz)) 0 0 (va_A (wv_52 cI cJ cZ aQ aQ_kinds aQ_which aQ_firsts aQ_seconds aQ_thirds aQ_nexts aQ_heads aQ_names aQ_variables aQ_holes aQ_sizes aQ_places aQ_conclusions aQ_premises aQ_counts aQ_hitOf aQ_hitOne aQ_hitTwo aQ_hitTerms aQ_image aQ_bound aQ_waits aQ_waitsFor aQ_seen aQ_goals aQ_steps aQ_looked aQ_under aQ_taken aQ_news aQ_order aQ_there aQ_back Q_thrown Q_all Q_statements Q_hitKind Q_hits Q_tries Q_takenAll Q_takenFirst Q_kinds Q_which Q_firsts Q_seconds Q_thirds Q_variables Q_holes Q_places Q_conclusions Q_premises Q_counts Q_hitOf Q_hitOne Q_hitTwo Q_hitTerms Q_image Q_bound Q_waits Q_waitsFor Q_seen Q_looked) sz) := by
  refine Met.ofW (cc := b_Q_find) (maxL := 5) (ret := (some .int)) (by decide) rfl ?_
  intro p e s m args below meth c s₁ B hml hv
  obtain ⟨rfl, rfl, hP, hK, hD0⟩ := hv
  have hx := B.exec
  have hb := B.bytes
  have hr := B.returns
  have hts : ∀ w ∈ BG, w.before _ s = true := fun w h => atoms_spec (ws := (ws_Q_find)) B.pre w (List.mem_cons_of_mem _ h)
  have hown : s.vm.findClass RR_Q = some m.cls := findClass_of_methodNamed B.named
  have hlocks := B.notSynchronized
  have hD := hD0.self (sz := s.heap.size)
  have hA : ∀ q : Nat, s.heap.size ≤ q → va_A (wv_52 cI cJ cZ aQ aQ_kinds aQ_which aQ_firsts aQ_seconds aQ_thirds aQ_nexts aQ_heads aQ_names aQ_variables aQ_holes aQ_sizes aQ_places aQ_conclusions aQ_premises aQ_counts aQ_hitOf aQ_hitOne aQ_hitTwo aQ_hitTerms aQ_image aQ_bound aQ_waits aQ_waitsFor aQ_seen aQ_goals aQ_steps aQ_looked aQ_under aQ_taken aQ_news aQ_order aQ_there aQ_back Q_thrown Q_all Q_statements Q_hitKind Q_hits Q_tries Q_takenAll Q_takenFirst Q_kinds Q_which Q_firsts Q_seconds Q_thirds Q_variables Q_holes Q_places Q_conclusions Q_premises Q_counts Q_hitOf Q_hitOne Q_hitTwo Q_hitTerms Q_image Q_bound Q_waits Q_waitsFor Q_seen Q_looked) s.heap.size q := fun q h => Or.inr h
  have hS : va_S (va_A (wv_52 cI cJ cZ aQ aQ_kinds aQ_which aQ_firsts aQ_seconds aQ_thirds aQ_nexts aQ_heads aQ_names aQ_variables aQ_holes aQ_sizes aQ_places aQ_conclusions aQ_premises aQ_counts aQ_hitOf aQ_hitOne aQ_hitTwo aQ_hitTerms aQ_image aQ_bound aQ_waits aQ_waitsFor aQ_seen aQ_goals aQ_steps aQ_looked aQ_under aQ_taken aQ_news aQ_order aQ_there aQ_back Q_thrown Q_all Q_statements Q_hitKind Q_hits Q_tries Q_takenAll Q_takenFirst Q_kinds Q_which Q_firsts Q_seconds Q_thirds Q_variables Q_holes Q_places Q_conclusions Q_premises Q_counts Q_hitOf Q_hitOne Q_hitTwo Q_hitTerms Q_image Q_bound Q_waits Q_waitsFor Q_seen Q_looked) s.heap.size) s.heap s.heap [] := va_S.rf
  generalize va_A (wv_52 cI cJ cZ aQ aQ_kinds aQ_which aQ_firsts aQ_seconds aQ_thirds aQ_nexts aQ_heads aQ_names aQ_variables aQ_holes aQ_sizes aQ_places aQ_conclusions aQ_premises aQ_counts aQ_hitOf aQ_hitOne aQ_hitTwo aQ_hitTerms aQ_image aQ_bound aQ_waits aQ_waitsFor aQ_seen aQ_goals aQ_steps aQ_looked aQ_under aQ_taken aQ_news aQ_order aQ_there aQ_back Q_thrown Q_all Q_statements Q_hitKind Q_hits Q_tries Q_takenAll Q_takenFirst Q_kinds Q_which Q_firsts Q_seconds Q_thirds Q_variables Q_holes Q_places Q_conclusions Q_premises Q_counts Q_hitOf Q_hitOne Q_hitTwo Q_hitTerms Q_image Q_bound Q_waits Q_waitsFor Q_seen Q_looked) s.heap.size = A at hD hA hS ⊢
  have hl := lv_entry ([.ref aQ, .int p0]) (n := 5) (Nat.le_of_ble_eq_true rfl)
  rw [lg_entry_eq]
  generalize (lg_sl ([.ref aQ, .int p0]) ++ List.replicate (5 - (lg_sl ([.ref aQ, .int p0])).length) Slot.unset).toArray = ls at hl ⊢
  have hl : lv_has ls 5 [(0, .ref aQ), (1, .int p0)] := hl
  have hL34 : ∀ (n34 : Nat), ∀ (Q_thrown_34 : Int32) (Q_hitKind_34 : Int32) (Q_hits_34 : Int32) (Q_hitOf_34 : (Nat → Int32)) (Q_hitOne_34 : (Nat → Int32)) (Q_hitTwo_34 : (Nat → Int32)) (Q_hitTerms_34 : (Nat → Int32)) (Q_image_34 : (Nat → Int32)) (Q_bound_34 : (Nat → Int32)) (Q_waits_34 : (Nat → Int32)) (Q_waitsFor_34 : (Nat → Int32)) (Q_seen_34 : (Nat → Int32)) (Q_looked_34 : (Nat → Int32)) (x1_34 : Int32) (x2_34 : Int32), ∀ (H : Heap) (locs : List Loc), va_P D vwCl (wv_52 cI cJ cZ aQ aQ_kinds aQ_which aQ_firsts aQ_seconds aQ_thirds aQ_nexts aQ_heads aQ_names aQ_variables aQ_holes aQ_sizes aQ_places aQ_conclusions aQ_premises aQ_counts aQ_hitOf aQ_hitOne aQ_hitTwo aQ_hitTerms aQ_image aQ_bound aQ_waits aQ_waitsFor aQ_seen aQ_goals aQ_steps aQ_looked aQ_under aQ_taken aQ_news aQ_order aQ_there aQ_back Q_thrown_34 Q_all Q_statements Q_hitKind_34 Q_hits_34 Q_tries Q_takenAll Q_takenFirst Q_kinds Q_which Q_firsts Q_seconds Q_thirds Q_variables Q_holes Q_places Q_conclusions Q_premises Q_counts Q_hitOf_34 Q_hitOne_34 Q_hitTwo_34 Q_hitTerms_34 Q_image_34 Q_bound_34 Q_waits_34 Q_waitsFor_34 Q_seen_34 Q_looked_34) H → va_D A (wv_52 cI cJ cZ aQ aQ_kinds aQ_which aQ_firsts aQ_seconds aQ_thirds aQ_nexts aQ_heads aQ_names aQ_variables aQ_holes aQ_sizes aQ_places aQ_conclusions aQ_premises aQ_counts aQ_hitOf aQ_hitOne aQ_hitTwo aQ_hitTerms aQ_image aQ_bound aQ_waits aQ_waitsFor aQ_seen aQ_goals aQ_steps aQ_looked aQ_under aQ_taken aQ_news aQ_order aQ_there aQ_back Q_thrown_34 Q_all Q_statements Q_hitKind_34 Q_hits_34 Q_tries Q_takenAll Q_takenFirst Q_kinds Q_which Q_firsts Q_seconds Q_thirds Q_variables Q_holes Q_places Q_conclusions Q_premises Q_counts Q_hitOf_34 Q_hitOne_34 Q_hitTwo_34 Q_hitTerms_34 Q_image_34 Q_bound_34 Q_waits_34 Q_waitsFor_34 Q_seen_34 Q_looked_34) → va_S A s.heap H locs → ∀ (ls : Array Slot), lv_has ls 5 [(0, .ref aQ), (1, .int x1_34), (2, .int x2_34)] → f_Q_find_L34 Q_all Q_statements Q_kinds Q_which Q_firsts Q_seconds Q_thirds Q_variables Q_holes Q_places Q_conclusions Q_premises Q_counts n34 Q_thrown_34 Q_hitKind_34 Q_hits_34 Q_hitOf_34 Q_hitOne_34 Q_hitTwo_34 Q_hitTerms_34 Q_image_34 Q_bound_34 Q_waits_34 Q_waitsFor_34 Q_seen_34 Q_looked_34 x1_34 x2_34 = some o → W p l e (headSpec (ws_Q_find) rm_Q_find).room s m ([.ref aQ, .int p0] : List Value).toArray below meth c H locs 0 0 (MQ below (WQ D vwCl (some (.int o.1)) (wv_52 cI cJ cZ aQ aQ_kinds aQ_which aQ_firsts aQ_seconds aQ_thirds aQ_nexts aQ_heads aQ_names aQ_variables aQ_holes aQ_sizes aQ_places aQ_conclusions aQ_premises aQ_counts aQ_hitOf aQ_hitOne aQ_hitTwo aQ_hitTerms aQ_image aQ_bound aQ_waits aQ_waitsFor aQ_seen aQ_goals aQ_steps aQ_looked aQ_under aQ_taken aQ_news aQ_order aQ_there aQ_back o.2.1 Q_all Q_statements o.2.2.1 o.2.2.2.1 Q_tries Q_takenAll Q_takenFirst Q_kinds Q_which Q_firsts Q_seconds Q_thirds Q_variables Q_holes Q_places Q_conclusions Q_premises Q_counts o.2.2.2.2.1 o.2.2.2.2.2.1 o.2.2.2.2.2.2.1 o.2.2.2.2.2.2.2.1 o.2.2.2.2.2.2.2.2.1 o.2.2.2.2.2.2.2.2.2.1 o.2.2.2.2.2.2.2.2.2.2.1 o.2.2.2.2.2.2.2.2.2.2.2.1 o.2.2.2.2.2.2.2.2.2.2.2.2.1 o.2.2.2.2.2.2.2.2.2.2.2.2.2) A) ([.ref aQ, .int p0] : List Value).toArray s 0 0 A) (F0 m 34 ls []) := by
    intro n34
    induction n34 with
    | zero =>
      intro Q_thrown_34 Q_hitKind_34 Q_hits_34 Q_hitOf_34 Q_hitOne_34 Q_hitTwo_34 Q_hitTerms_34 Q_image_34 Q_bound_34 Q_waits_34 Q_waitsFor_34 Q_seen_34 Q_looked_34 x1_34 x2_34 H locs hP hD hS ls hl hf
      rw [f_Q_find_L34] at hf
      cases hf
    | succ n34 ih34 =>
      have hB115 : ∀ (Q_thrown_115 : Int32) (Q_hitKind_115 : Int32) (Q_hits_115 : Int32) (Q_hitOf_115 : (Nat → Int32)) (Q_hitOne_115 : (Nat → Int32)) (Q_hitTwo_115 : (Nat → Int32)) (Q_hitTerms_115 : (Nat → Int32)) (Q_image_115 : (Nat → Int32)) (Q_bound_115 : (Nat → Int32)) (Q_waits_115 : (Nat → Int32)) (Q_waitsFor_115 : (Nat → Int32)) (Q_seen_115 : (Nat → Int32)) (Q_looked_115 : (Nat → Int32)) (x1_115 : Int32) (x2_115 : Int32) (x3_115 : Int32) (x4_115 : Int32), ∀ (H : Heap) (locs : List Loc), va_P D vwCl (wv_52 cI cJ cZ aQ aQ_kinds aQ_which aQ_firsts aQ_seconds aQ_thirds aQ_nexts aQ_heads aQ_names aQ_variables aQ_holes aQ_sizes aQ_places aQ_conclusions aQ_premises aQ_counts aQ_hitOf aQ_hitOne aQ_hitTwo aQ_hitTerms aQ_image aQ_bound aQ_waits aQ_waitsFor aQ_seen aQ_goals aQ_steps aQ_looked aQ_under aQ_taken aQ_news aQ_order aQ_there aQ_back Q_thrown_115 Q_all Q_statements Q_hitKind_115 Q_hits_115 Q_tries Q_takenAll Q_takenFirst Q_kinds Q_which Q_firsts Q_seconds Q_thirds Q_variables Q_holes Q_places Q_conclusions Q_premises Q_counts Q_hitOf_115 Q_hitOne_115 Q_hitTwo_115 Q_hitTerms_115 Q_image_115 Q_bound_115 Q_waits_115 Q_waitsFor_115 Q_seen_115 Q_looked_115) H → va_D A (wv_52 cI cJ cZ aQ aQ_kinds aQ_which aQ_firsts aQ_seconds aQ_thirds aQ_nexts aQ_heads aQ_names aQ_variables aQ_holes aQ_sizes aQ_places aQ_conclusions aQ_premises aQ_counts aQ_hitOf aQ_hitOne aQ_hitTwo aQ_hitTerms aQ_image aQ_bound aQ_waits aQ_waitsFor aQ_seen aQ_goals aQ_steps aQ_looked aQ_under aQ_taken aQ_news aQ_order aQ_there aQ_back Q_thrown_115 Q_all Q_statements Q_hitKind_115 Q_hits_115 Q_tries Q_takenAll Q_takenFirst Q_kinds Q_which Q_firsts Q_seconds Q_thirds Q_variables Q_holes Q_places Q_conclusions Q_premises Q_counts Q_hitOf_115 Q_hitOne_115 Q_hitTwo_115 Q_hitTerms_115 Q_image_115 Q_bound_115 Q_waits_115 Q_waitsFor_115 Q_seen_115 Q_looked_115) → va_S A s.heap H locs → ∀ (ls : Array Slot), lv_has ls 5 [(0, .ref aQ), (1, .int x1_115), (2, .int x2_115), (3, .int x3_115), (4, .int x4_115)] → f_Q_find_B115 Q_all Q_statements Q_kinds Q_which Q_firsts Q_seconds Q_thirds Q_variables Q_holes Q_places Q_conclusions Q_premises Q_counts (f_Q_find_L34 Q_all Q_statements Q_kinds Q_which Q_firsts Q_seconds Q_thirds Q_variables Q_holes Q_places Q_conclusions Q_premises Q_counts n34) Q_thrown_115 Q_hitKind_115 Q_hits_115 Q_hitOf_115 Q_hitOne_115 Q_hitTwo_115 Q_hitTerms_115 Q_image_115 Q_bound_115 Q_waits_115 Q_waitsFor_115 Q_seen_115 Q_looked_115 x1_115 x2_115 x3_115 x4_115 = some o → W p l e (headSpec (ws_Q_find) rm_Q_find).room s m ([.ref aQ, .int p0] : List Value).toArray below meth c H locs 0 0 (MQ below (WQ D vwCl (some (.int o.1)) (wv_52 cI cJ cZ aQ aQ_kinds aQ_which aQ_firsts aQ_seconds aQ_thirds aQ_nexts aQ_heads aQ_names aQ_variables aQ_holes aQ_sizes aQ_places aQ_conclusions aQ_premises aQ_counts aQ_hitOf aQ_hitOne aQ_hitTwo aQ_hitTerms aQ_image aQ_bound aQ_waits aQ_waitsFor aQ_seen aQ_goals aQ_steps aQ_looked aQ_under aQ_taken aQ_news aQ_order aQ_there aQ_back o.2.1 Q_all Q_statements o.2.2.1 o.2.2.2.1 Q_tries Q_takenAll Q_takenFirst Q_kinds Q_which Q_firsts Q_seconds Q_thirds Q_variables Q_holes Q_places Q_conclusions Q_premises Q_counts o.2.2.2.2.1 o.2.2.2.2.2.1 o.2.2.2.2.2.2.1 o.2.2.2.2.2.2.2.1 o.2.2.2.2.2.2.2.2.1 o.2.2.2.2.2.2.2.2.2.1 o.2.2.2.2.2.2.2.2.2.2.1 o.2.2.2.2.2.2.2.2.2.2.2.1 o.2.2.2.2.2.2.2.2.2.2.2.2.1 o.2.2.2.2.2.2.2.2.2.2.2.2.2) A) ([.ref aQ, .int p0] : List Value).toArray s 0 0 A) (F0 m 115 ls []) := by
        intro Q_thrown_115 Q_hitKind_115 Q_hits_115 Q_hitOf_115 Q_hitOne_115 Q_hitTwo_115 Q_hitTerms_115 Q_image_115 Q_bound_115 Q_waits_115 Q_waitsFor_115 Q_seen_115 Q_looked_115 x1_115 x2_115 x3_115 x4_115 H locs hP hD hS ls hl hf
        rw [f_Q_find_B115] at hf
        refine lv_iload hx hb d_Q_find_115 (lv_at hl 4 rfl) ?_
        refine lv_iconst (v := -1) hx hb d_Q_find_117 (by decide) ?_
        refine lv_icmp_eq (tgt := 129) hx hb d_Q_find_118 (by decide) (fun c18 => ?_) (fun c18 => ?_)
        · have hf := ite_t c18 hf
          obtain ⟨x19, ex19⟩ : ∃ y : Int32, y = x2_115 + (1 : Int32) := ⟨_, rfl⟩
          refine lv_iinc (v := x19) (lv' := [(2, .int x19), (0, .ref aQ), (1, .int x1_115), (3, .int x3_115), (4, .int x4_115)]) hx hb d_Q_find_129 hl (k := 2) rfl (by rw [ex19]; rfl) (by decide) rfl (fun ls hl => ?_)
          have hf := of_nm ex19 hf
          refine lv_goto (tgt := 34) hx hb d_Q_find_132 (by decide) ?_
          exact ih34 _ _ _ _ _ _ _ _ _ _ _ _ _ _ _ _ _ hP hD hS _ (lv_sub hl [1, 2, 0] rfl) hf
        · have hf := ite_f c18 hf
          refine lv_aload_n hx hb d_Q_find_121 rfl (lv_at hl 0 rfl) ?_
          refine lv_iload_n hx hb d_Q_find_122 rfl (lv_at hl 2 rfl) ?_
          refine lv_iload_n hx hb d_Q_find_123 rfl (lv_at hl 3 rfl) ?_
          refine lv_iload hx hb d_Q_find_124 (lv_at hl 4 rfl) ?_
          obtain ⟨r20, hr20, hf⟩ := of_bd hf
          refine wr_call (ws' := (wv_52 cI cJ cZ aQ aQ_kinds aQ_which aQ_firsts aQ_seconds aQ_thirds aQ_nexts aQ_heads aQ_names aQ_variables aQ_holes aQ_sizes aQ_places aQ_conclusions aQ_premises aQ_counts aQ_hitOf aQ_hitOne aQ_hitTwo aQ_hitTerms aQ_image aQ_bound aQ_waits aQ_waitsFor aQ_seen aQ_goals aQ_steps aQ_looked aQ_under aQ_taken aQ_news aQ_order aQ_there aQ_back Q_thrown_115 Q_all Q_statements Q_hitKind_115 r20.1 Q_tries Q_takenAll Q_takenFirst Q_kinds Q_which Q_firsts Q_seconds Q_thirds Q_variables Q_holes Q_places Q_conclusions Q_premises Q_counts r20.2.1 r20.2.2.1 r20.2.2.2.1 r20.2.2.2.2 Q_image_115 Q_bound_115 Q_waits_115 Q_waitsFor_115 Q_seen_115 Q_looked_115)) (va_runV (As := [.int x2_115, .int x3_115, .int x4_115]) (rest := []) ⟨hx, hb, hml, hown, hts⟩ (c_Q_hit_III l D cI cJ cZ aQ aQ_kinds aQ_which aQ_firsts aQ_seconds aQ_thirds aQ_nexts aQ_heads aQ_names aQ_variables aQ_holes aQ_sizes aQ_places aQ_conclusions aQ_premises aQ_counts aQ_hitOf aQ_hitOne aQ_hitTwo aQ_hitTerms aQ_image aQ_bound aQ_waits aQ_waitsFor aQ_seen aQ_goals aQ_steps aQ_looked aQ_under aQ_taken aQ_news aQ_order aQ_there aQ_back _ Q_thrown_115 Q_all Q_statements Q_hitKind_115 Q_hits_115 Q_tries Q_takenAll Q_takenFirst Q_hitOf_115 Q_hitOne_115 Q_hitTwo_115 Q_hitTerms_115 Q_bound_115 x2_115 x3_115 x4_115 r20 hr20) (bigV 3 hts k5_19 k5_21 ks_Q_hit_III k1_9 k5_22 rfl rfl hd_Q_hit_III ⟨Nat.le_of_ble_eq_true rfl, Nat.le_of_ble_eq_true rfl⟩) (wr_preV hK hP hD [0, 12, 13, 14, 15, 17] rfl (by decide) rfl 0 rfl rfl rfl) rfl rfl hl.1 rfl (lv_room (Nat.le_of_ble_eq_true rfl)) d_Q_find_126 ⟨Nat.le_of_ble_eq_true rfl, Nat.le_of_ble_eq_true rfl⟩) hP hD hS hA [0, 12, 13, 14, 15, 17] [1, 2, 3, 4, 5, 6, 7, 8, 9, 10, 11, 16, 18, 19, 20, 21] rfl rfl (by decide) (by decide) [16, 0, 1, 2, 3, 4, 5, 6, 7, 8, 9, 10, 17, 18, 19, 20, 11, 21, 12, 13, 14, 15] (by decide) rfl (fun H locs hP hD hS => ?_)
          obtain ⟨x21, ex21⟩ : ∃ y : Int32, y = x2_115 + (1 : Int32) := ⟨_, rfl⟩
          refine lv_iinc (v := x21) (lv' := [(2, .int x21), (0, .ref aQ), (1, .int x1_115), (3, .int x3_115), (4, .int x4_115)]) hx hb d_Q_find_129 hl (k := 2) rfl (by rw [ex21]; rfl) (by decide) rfl (fun ls hl => ?_)
          have hf := of_nm ex21 hf
          refine lv_goto (tgt := 34) hx hb d_Q_find_132 (by decide) ?_
          exact ih34 _ _ _ _ _ _ _ _ _ _ _ _ _ _ _ _ _ hP hD hS _ (lv_sub hl [1, 2, 0] rfl) hf
      have hL78 : ∀ (n78 : Nat), ∀ (Q_thrown_78 : Int32) (Q_hitKind_78 : Int32) (Q_hits_78 : Int32) (Q_hitOf_78 : (Nat → Int32)) (Q_hitOne_78 : (Nat → Int32)) (Q_hitTwo_78 : (Nat → Int32)) (Q_hitTerms_78 : (Nat → Int32)) (Q_image_78 : (Nat → Int32)) (Q_bound_78 : (Nat → Int32)) (Q_waits_78 : (Nat → Int32)) (Q_waitsFor_78 : (Nat → Int32)) (Q_seen_78 : (Nat → Int32)) (Q_looked_78 : (Nat → Int32)) (x1_78 : Int32) (x2_78 : Int32) (x3_78 : Int32) (x4_78 : Int32), ∀ (H : Heap) (locs : List Loc), va_P D vwCl (wv_52 cI cJ cZ aQ aQ_kinds aQ_which aQ_firsts aQ_seconds aQ_thirds aQ_nexts aQ_heads aQ_names aQ_variables aQ_holes aQ_sizes aQ_places aQ_conclusions aQ_premises aQ_counts aQ_hitOf aQ_hitOne aQ_hitTwo aQ_hitTerms aQ_image aQ_bound aQ_waits aQ_waitsFor aQ_seen aQ_goals aQ_steps aQ_looked aQ_under aQ_taken aQ_news aQ_order aQ_there aQ_back Q_thrown_78 Q_all Q_statements Q_hitKind_78 Q_hits_78 Q_tries Q_takenAll Q_takenFirst Q_kinds Q_which Q_firsts Q_seconds Q_thirds Q_variables Q_holes Q_places Q_conclusions Q_premises Q_counts Q_hitOf_78 Q_hitOne_78 Q_hitTwo_78 Q_hitTerms_78 Q_image_78 Q_bound_78 Q_waits_78 Q_waitsFor_78 Q_seen_78 Q_looked_78) H → va_D A (wv_52 cI cJ cZ aQ aQ_kinds aQ_which aQ_firsts aQ_seconds aQ_thirds aQ_nexts aQ_heads aQ_names aQ_variables aQ_holes aQ_sizes aQ_places aQ_conclusions aQ_premises aQ_counts aQ_hitOf aQ_hitOne aQ_hitTwo aQ_hitTerms aQ_image aQ_bound aQ_waits aQ_waitsFor aQ_seen aQ_goals aQ_steps aQ_looked aQ_under aQ_taken aQ_news aQ_order aQ_there aQ_back Q_thrown_78 Q_all Q_statements Q_hitKind_78 Q_hits_78 Q_tries Q_takenAll Q_takenFirst Q_kinds Q_which Q_firsts Q_seconds Q_thirds Q_variables Q_holes Q_places Q_conclusions Q_premises Q_counts Q_hitOf_78 Q_hitOne_78 Q_hitTwo_78 Q_hitTerms_78 Q_image_78 Q_bound_78 Q_waits_78 Q_waitsFor_78 Q_seen_78 Q_looked_78) → va_S A s.heap H locs → ∀ (ls : Array Slot), lv_has ls 5 [(0, .ref aQ), (1, .int x1_78), (2, .int x2_78), (3, .int x3_78), (4, .int x4_78)] → f_Q_find_L78 Q_all Q_statements Q_kinds Q_which Q_firsts Q_seconds Q_thirds Q_variables Q_holes Q_places Q_conclusions Q_premises Q_counts (f_Q_find_L34 Q_all Q_statements Q_kinds Q_which Q_firsts Q_seconds Q_thirds Q_variables Q_holes Q_places Q_conclusions Q_premises Q_counts n34) n78 Q_thrown_78 Q_hitKind_78 Q_hits_78 Q_hitOf_78 Q_hitOne_78 Q_hitTwo_78 Q_hitTerms_78 Q_image_78 Q_bound_78 Q_waits_78 Q_waitsFor_78 Q_seen_78 Q_looked_78 x1_78 x2_78 x3_78 x4_78 = some o → W p l e (headSpec (ws_Q_find) rm_Q_find).room s m ([.ref aQ, .int p0] : List Value).toArray below meth c H locs 0 0 (MQ below (WQ D vwCl (some (.int o.1)) (wv_52 cI cJ cZ aQ aQ_kinds aQ_which aQ_firsts aQ_seconds aQ_thirds aQ_nexts aQ_heads aQ_names aQ_variables aQ_holes aQ_sizes aQ_places aQ_conclusions aQ_premises aQ_counts aQ_hitOf aQ_hitOne aQ_hitTwo aQ_hitTerms aQ_image aQ_bound aQ_waits aQ_waitsFor aQ_seen aQ_goals aQ_steps aQ_looked aQ_under aQ_taken aQ_news aQ_order aQ_there aQ_back o.2.1 Q_all Q_statements o.2.2.1 o.2.2.2.1 Q_tries Q_takenAll Q_takenFirst Q_kinds Q_which Q_firsts Q_seconds Q_thirds Q_variables Q_holes Q_places Q_conclusions Q_premises Q_counts o.2.2.2.2.1 o.2.2.2.2.2.1 o.2.2.2.2.2.2.1 o.2.2.2.2.2.2.2.1 o.2.2.2.2.2.2.2.2.1 o.2.2.2.2.2.2.2.2.2.1 o.2.2.2.2.2.2.2.2.2.2.1 o.2.2.2.2.2.2.2.2.2.2.2.1 o.2.2.2.2.2.2.2.2.2.2.2.2.1 o.2.2.2.2.2.2.2.2.2.2.2.2.2) A) ([.ref aQ, .int p0] : List Value).toArray s 0 0 A) (F0 m 78 ls []) := by
        intro n78
        induction n78 with
        | zero =>
          intro Q_thrown_78 Q_hitKind_78 Q_hits_78 Q_hitOf_78 Q_hitOne_78 Q_hitTwo_78 Q_hitTerms_78 Q_image_78 Q_bound_78 Q_waits_78 Q_waitsFor_78 Q_seen_78 Q_looked_78 x1_78 x2_78 x3_78 x4_78 H locs hP hD hS ls hl hf
          rw [f_Q_find_L78] at hf
          cases hf
        | succ n78 ih78 =>
          intro Q_thrown_78 Q_hitKind_78 Q_hits_78 Q_hitOf_78 Q_hitOne_78 Q_hitTwo_78 Q_hitTerms_78 Q_image_78 Q_bound_78 Q_waits_78 Q_waitsFor_78 Q_seen_78 Q_looked_78 x1_78 x2_78 x3_78 x4_78 H locs hP hD hS ls hl hf
          rw [f_Q_find_L78] at hf
          refine lv_iload hx hb d_Q_find_78 (lv_at hl 4 rfl) ?_
          refine lv_iconst (v := -1) hx hb d_Q_find_80 (by decide) ?_
          refine lv_icmp_ne (tgt := 115) hx hb d_Q_find_81 (by decide) (fun c12 => ?_) (fun c12 => ?_)
          · have hf := ite_f c12 hf
            exact hB115 _ _ _ _ _ _ _ _ _ _ _ _ _ _ _ _ _ _ _ hP hD hS _ (lv_sub hl [0, 1, 2, 3, 4] rfl) hf
          · have hf := ite_t c12 hf
            refine lv_iload_n hx hb d_Q_find_84 rfl (lv_at hl 3 rfl) ?_
            refine lv_iconst (v := 1) hx hb d_Q_find_85 (by decide) ?_
            refine lv_iadd hx hb d_Q_find_86 ?_
            refine lv_aload_n hx hb d_Q_find_87 rfl (lv_at hl 0 rfl) ?_
            refine va_get (D := D) (ci := 7) (v := .ref aQ_counts) (C := RR_Q) (T := FF_Q) (N := 41) hx hb hts kin_Q hown hK.1 hP 0 rfl rfl 16 (by decide) (hts _ k4_83) (fun _ h9 => h9) rfl d_Q_find_88 ?_
            refine lv_iload_n hx hb d_Q_find_91 rfl (lv_at hl 2 rfl) ?_
            obtain ⟨h13, hf⟩ := of_gd hf
            refine va_iald hx hb hK.1 hP 11 0 rfl rfl (ixb_in h13) d_Q_find_92 ?_
            refine lv_icmp_ge (tgt := 115) hx hb d_Q_find_93 (by decide) (fun c14 => ?_) (fun c14 => ?_)
            · have hf := ite_t c14 hf
              exact hB115 _ _ _ _ _ _ _ _ _ _ _ _ _ _ _ _ _ _ _ hP hD hS _ (lv_sub hl [0, 1, 2, 3, 4] rfl) hf
            · have hf := ite_f c14 hf
              obtain ⟨x15, ex15⟩ : ∃ y : Int32, y = x3_78 + (1 : Int32) := ⟨_, rfl⟩
              refine lv_iinc (v := x15) (lv' := [(3, .int x15), (0, .ref aQ), (1, .int x1_78), (2, .int x2_78), (4, .int x4_78)]) hx hb d_Q_find_96 hl (k := 3) rfl (by rw [ex15]; rfl) (by decide) rfl (fun ls hl => ?_)
              have hf := of_nm ex15 hf
              refine lv_aload_n hx hb d_Q_find_99 rfl (lv_at hl 1 rfl) ?_
              refine lv_iload_n hx hb d_Q_find_100 rfl (lv_at hl 2 rfl) ?_
              refine lv_aload_n hx hb d_Q_find_101 rfl (lv_at hl 1 rfl) ?_
              refine lv_iload_n hx hb d_Q_find_102 rfl (lv_at hl 3 rfl) ?_
              refine lv_iload_n hx hb d_Q_find_103 rfl (lv_at hl 0 rfl) ?_
              obtain ⟨r16, hr16, hf⟩ := of_bd hf
              refine rd_call (va_runV (As := [.int x2_78, .int x15]) (rest := [.int x1_78, .ref aQ]) ⟨hx, hb, hml, hown, hts⟩ (c_Q_premise l D cI cJ cZ aQ aQ_kinds aQ_which aQ_firsts aQ_seconds aQ_thirds aQ_nexts aQ_heads aQ_names aQ_variables aQ_holes aQ_sizes aQ_places aQ_conclusions aQ_premises aQ_counts aQ_hitOf aQ_hitOne aQ_hitTwo aQ_hitTerms aQ_image aQ_bound aQ_waits aQ_waitsFor aQ_seen aQ_goals aQ_steps aQ_looked aQ_under aQ_taken aQ_news aQ_order aQ_there aQ_back Q_thrown_78 Q_all Q_statements Q_hitKind_78 Q_hits_78 Q_tries Q_takenAll Q_takenFirst Q_premises x2_78 x15 r16 hr16) (bigV 2 hts k5_15 k5_17 ks_Q_premise k1_9 k5_18 rfl rfl hd_Q_premise ⟨Nat.le_of_ble_eq_true rfl, Nat.le_of_ble_eq_true rfl⟩) (rd_preV hK hP [0, 10] rfl 0 rfl rfl rfl) rfl rfl hl.1 rfl (lv_room (Nat.le_of_ble_eq_true rfl)) d_Q_find_104 ⟨Nat.le_of_ble_eq_true rfl, Nat.le_of_ble_eq_true rfl⟩) ?_
              obtain ⟨r17, hr17, hf⟩ := of_bd hf
              refine wr_call (ws' := (wv_52 cI cJ cZ aQ aQ_kinds aQ_which aQ_firsts aQ_seconds aQ_thirds aQ_nexts aQ_heads aQ_names aQ_variables aQ_holes aQ_sizes aQ_places aQ_conclusions aQ_premises aQ_counts aQ_hitOf aQ_hitOne aQ_hitTwo aQ_hitTerms aQ_image aQ_bound aQ_waits aQ_waitsFor aQ_seen aQ_goals aQ_steps aQ_looked aQ_under aQ_taken aQ_news aQ_order aQ_there aQ_back Q_thrown_78 Q_all Q_statements Q_hitKind_78 Q_hits_78 Q_tries Q_takenAll Q_takenFirst Q_kinds Q_which Q_firsts Q_seconds Q_thirds Q_variables Q_holes Q_places Q_conclusions Q_premises Q_counts Q_hitOf_78 Q_hitOne_78 Q_hitTwo_78 Q_hitTerms_78 r17.2.1 r17.2.2.1 r17.2.2.2.1 r17.2.2.2.2.1 r17.2.2.2.2.2.1 r17.2.2.2.2.2.2)) (va_runV (As := [.int x1_78, .int r16]) (rest := []) ⟨hx, hb, hml, hown, hts⟩ (c_Q_firstMatch l D cI cJ cZ aQ aQ_kinds aQ_which aQ_firsts aQ_seconds aQ_thirds aQ_nexts aQ_heads aQ_names aQ_variables aQ_holes aQ_sizes aQ_places aQ_conclusions aQ_premises aQ_counts aQ_hitOf aQ_hitOne aQ_hitTwo aQ_hitTerms aQ_image aQ_bound aQ_waits aQ_waitsFor aQ_seen aQ_goals aQ_steps aQ_looked aQ_under aQ_taken aQ_news aQ_order aQ_there aQ_back _ Q_thrown_78 Q_all Q_statements Q_hitKind_78 Q_hits_78 Q_tries Q_takenAll Q_takenFirst Q_kinds Q_which Q_firsts Q_seconds Q_thirds Q_variables Q_holes Q_places Q_image_78 Q_bound_78 Q_waits_78 Q_waitsFor_78 Q_seen_78 Q_looked_78 x1_78 r16 r17 hr17) (bigV 2 hts k5_7 k5_9 ks_Q_firstMatch k1_9 k5_10 rfl rfl hd_Q_firstMatch ⟨Nat.le_of_ble_eq_true rfl, Nat.le_of_ble_eq_true rfl⟩) (wr_preV hK hP hD [0, 1, 2, 3, 4, 5, 6, 7, 8, 16, 17, 18, 19, 20, 21] rfl (by decide) rfl 0 rfl rfl rfl) rfl rfl hl.1 rfl (lv_room (Nat.le_of_ble_eq_true rfl)) d_Q_find_107 ⟨Nat.le_of_ble_eq_true rfl, Nat.le_of_ble_eq_true rfl⟩) hP hD hS hA [0, 1, 2, 3, 4, 5, 6, 7, 8, 16, 17, 18, 19, 20, 21] [9, 10, 11, 12, 13, 14, 15] rfl rfl (by decide) (by decide) [7, 8, 9, 10, 11, 12, 13, 14, 15, 0, 1, 2, 3, 4, 5, 6, 16, 17, 18, 19, 20, 21] (by decide) rfl (fun H locs hP hD hS => ?_)
              refine lv_istore (lv' := [(4, .int r17.1), (3, .int x15), (0, .ref aQ), (1, .int x1_78), (2, .int x2_78)]) hx hb d_Q_find_110 hl (by decide) rfl (fun ls hl => ?_)
              refine lv_goto (tgt := 78) hx hb d_Q_find_112 (by decide) ?_
              exact ih78 _ _ _ _ _ _ _ _ _ _ _ _ _ _ _ _ _ _ _ hP hD hS _ (lv_sub hl [2, 3, 4, 1, 0] rfl) hf
      have hL44 : ∀ (n44 : Nat), ∀ (Q_thrown_44 : Int32) (Q_hitKind_44 : Int32) (Q_hits_44 : Int32) (Q_hitOf_44 : (Nat → Int32)) (Q_hitOne_44 : (Nat → Int32)) (Q_hitTwo_44 : (Nat → Int32)) (Q_hitTerms_44 : (Nat → Int32)) (Q_image_44 : (Nat → Int32)) (Q_bound_44 : (Nat → Int32)) (Q_waits_44 : (Nat → Int32)) (Q_waitsFor_44 : (Nat → Int32)) (Q_seen_44 : (Nat → Int32)) (Q_looked_44 : (Nat → Int32)) (x1_44 : Int32) (x2_44 : Int32) (x3_44 : Int32), ∀ (H : Heap) (locs : List Loc), va_P D vwCl (wv_52 cI cJ cZ aQ aQ_kinds aQ_which aQ_firsts aQ_seconds aQ_thirds aQ_nexts aQ_heads aQ_names aQ_variables aQ_holes aQ_sizes aQ_places aQ_conclusions aQ_premises aQ_counts aQ_hitOf aQ_hitOne aQ_hitTwo aQ_hitTerms aQ_image aQ_bound aQ_waits aQ_waitsFor aQ_seen aQ_goals aQ_steps aQ_looked aQ_under aQ_taken aQ_news aQ_order aQ_there aQ_back Q_thrown_44 Q_all Q_statements Q_hitKind_44 Q_hits_44 Q_tries Q_takenAll Q_takenFirst Q_kinds Q_which Q_firsts Q_seconds Q_thirds Q_variables Q_holes Q_places Q_conclusions Q_premises Q_counts Q_hitOf_44 Q_hitOne_44 Q_hitTwo_44 Q_hitTerms_44 Q_image_44 Q_bound_44 Q_waits_44 Q_waitsFor_44 Q_seen_44 Q_looked_44) H → va_D A (wv_52 cI cJ cZ aQ aQ_kinds aQ_which aQ_firsts aQ_seconds aQ_thirds aQ_nexts aQ_heads aQ_names aQ_variables aQ_holes aQ_sizes aQ_places aQ_conclusions aQ_premises aQ_counts aQ_hitOf aQ_hitOne aQ_hitTwo aQ_hitTerms aQ_image aQ_bound aQ_waits aQ_waitsFor aQ_seen aQ_goals aQ_steps aQ_looked aQ_under aQ_taken aQ_news aQ_order aQ_there aQ_back Q_thrown_44 Q_all Q_statements Q_hitKind_44 Q_hits_44 Q_tries Q_takenAll Q_takenFirst Q_kinds Q_which Q_firsts Q_seconds Q_thirds Q_variables Q_holes Q_places Q_conclusions Q_premises Q_counts Q_hitOf_44 Q_hitOne_44 Q_hitTwo_44 Q_hitTerms_44 Q_image_44 Q_bound_44 Q_waits_44 Q_waitsFor_44 Q_seen_44 Q_looked_44) → va_S A s.heap H locs → ∀ (ls : Array Slot), lv_has ls 5 [(0, .ref aQ), (1, .int x1_44), (2, .int x2_44), (3, .int x3_44)] → f_Q_find_L44 Q_all Q_statements Q_kinds Q_which Q_firsts Q_seconds Q_thirds Q_variables Q_holes Q_places Q_conclusions Q_premises Q_counts (f_Q_find_L34 Q_all Q_statements Q_kinds Q_which Q_firsts Q_seconds Q_thirds Q_variables Q_holes Q_places Q_conclusions Q_premises Q_counts n34) n44 Q_thrown_44 Q_hitKind_44 Q_hits_44 Q_hitOf_44 Q_hitOne_44 Q_hitTwo_44 Q_hitTerms_44 Q_image_44 Q_bound_44 Q_waits_44 Q_waitsFor_44 Q_seen_44 Q_looked_44 x1_44 x2_44 x3_44 = some o → W p l e (headSpec (ws_Q_find) rm_Q_find).room s m ([.ref aQ, .int p0] : List Value).toArray below meth c H locs 0 0 (MQ below (WQ D vwCl (some (.int o.1)) (wv_52 cI cJ cZ aQ aQ_kinds aQ_which aQ_firsts aQ_seconds aQ_thirds aQ_nexts aQ_heads aQ_names aQ_variables aQ_holes aQ_sizes aQ_places aQ_conclusions aQ_premises aQ_counts aQ_hitOf aQ_hitOne aQ_hitTwo aQ_hitTerms aQ_image aQ_bound aQ_waits aQ_waitsFor aQ_seen aQ_goals aQ_steps aQ_looked aQ_under aQ_taken aQ_news aQ_order aQ_there aQ_back o.2.1 Q_all Q_statements o.2.2.1 o.2.2.2.1 Q_tries Q_takenAll Q_takenFirst Q_kinds Q_which Q_firsts Q_seconds Q_thirds Q_variables Q_holes Q_places Q_conclusions Q_premises Q_counts o.2.2.2.2.1 o.2.2.2.2.2.1 o.2.2.2.2.2.2.1 o.2.2.2.2.2.2.2.1 o.2.2.2.2.2.2.2.2.1 o.2.2.2.2.2.2.2.2.2.1 o.2.2.2.2.2.2.2.2.2.2.1 o.2.2.2.2.2.2.2.2.2.2.2.1 o.2.2.2.2.2.2.2.2.2.2.2.2.1 o.2.2.2.2.2.2.2.2.2.2.2.2.2) A) ([.ref aQ, .int p0] : List Value).toArray s 0 0 A) (F0 m 44 ls []) := by
        intro n44
        induction n44 with
        | zero =>
          intro Q_thrown_44 Q_hitKind_44 Q_hits_44 Q_hitOf_44 Q_hitOne_44 Q_hitTwo_44 Q_hitTerms_44 Q_image_44 Q_bound_44 Q_waits_44 Q_waitsFor_44 Q_seen_44 Q_looked_44 x1_44 x2_44 x3_44 H locs hP hD hS ls hl hf
          rw [f_Q_find_L44] at hf
          cases hf
        | succ n44 ih44 =>
          intro Q_thrown_44 Q_hitKind_44 Q_hits_44 Q_hitOf_44 Q_hitOne_44 Q_hitTwo_44 Q_hitTerms_44 Q_image_44 Q_bound_44 Q_waits_44 Q_waitsFor_44 Q_seen_44 Q_looked_44 x1_44 x2_44 x3_44 H locs hP hD hS ls hl hf
          rw [f_Q_find_L44] at hf
          refine lv_iload_n hx hb d_Q_find_44 rfl (lv_at hl 3 rfl) ?_
          refine lv_bipush (v := 100) hx hb d_Q_find_45 (by decide) ?_
          refine lv_icmp_ge (tgt := 63) hx hb d_Q_find_47 (by decide) (fun c6 => ?_) (fun c6 => ?_)
          · have hf := ite_t c6 hf
            refine lv_iconst (v := -1) hx hb d_Q_find_63 (by decide) ?_
            refine lv_istore_n (lv' := [(3, .int (-1 : Int32)), (0, .ref aQ), (1, .int x1_44), (2, .int x2_44)]) hx hb d_Q_find_64 rfl hl (by decide) rfl (fun ls hl => ?_)
            refine lv_aload_n hx hb d_Q_find_65 rfl (lv_at hl 1 rfl) ?_
            refine lv_iload_n hx hb d_Q_find_66 rfl (lv_at hl 2 rfl) ?_
            refine lv_aload_n hx hb d_Q_find_67 rfl (lv_at hl 1 rfl) ?_
            refine va_get (D := D) (ci := 7) (v := .ref aQ_conclusions) (C := RR_Q) (T := FF_Q) (N := 41) hx hb hts kin_Q hown hK.1 hP 0 rfl rfl 14 (by decide) (hts _ k4_81) (fun _ h9 => h9) rfl d_Q_find_68 ?_
            refine lv_iload_n hx hb d_Q_find_71 rfl (lv_at hl 3 rfl) ?_
            obtain ⟨h7, hf⟩ := of_gd hf
            refine va_iald hx hb hK.1 hP 9 0 rfl rfl (ixb_in h7) d_Q_find_72 ?_
            obtain ⟨r8, hr8, hf⟩ := of_bd hf
            refine wr_call (ws' := (wv_52 cI cJ cZ aQ aQ_kinds aQ_which aQ_firsts aQ_seconds aQ_thirds aQ_nexts aQ_heads aQ_names aQ_variables aQ_holes aQ_sizes aQ_places aQ_conclusions aQ_premises aQ_counts aQ_hitOf aQ_hitOne aQ_hitTwo aQ_hitTerms aQ_image aQ_bound aQ_waits aQ_waitsFor aQ_seen aQ_goals aQ_steps aQ_looked aQ_under aQ_taken aQ_news aQ_order aQ_there aQ_back Q_thrown_44 Q_all Q_statements Q_hitKind_44 Q_hits_44 Q_tries Q_takenAll Q_takenFirst Q_kinds Q_which Q_firsts Q_seconds Q_thirds Q_variables Q_holes Q_places Q_conclusions Q_premises Q_counts Q_hitOf_44 Q_hitOne_44 Q_hitTwo_44 Q_hitTerms_44 r8.2.1 r8.2.2.1 r8.2.2.2.1 r8.2.2.2.2.1 r8.2.2.2.2.2.1 r8.2.2.2.2.2.2)) (va_runV (As := [.int x1_44, .int (Q_conclusions x2_44.toNatClampNeg)]) (rest := []) ⟨hx, hb, hml, hown, hts⟩ (c_Q_firstMatch l D cI cJ cZ aQ aQ_kinds aQ_which aQ_firsts aQ_seconds aQ_thirds aQ_nexts aQ_heads aQ_names aQ_variables aQ_holes aQ_sizes aQ_places aQ_conclusions aQ_premises aQ_counts aQ_hitOf aQ_hitOne aQ_hitTwo aQ_hitTerms aQ_image aQ_bound aQ_waits aQ_waitsFor aQ_seen aQ_goals aQ_steps aQ_looked aQ_under aQ_taken aQ_news aQ_order aQ_there aQ_back _ Q_thrown_44 Q_all Q_statements Q_hitKind_44 Q_hits_44 Q_tries Q_takenAll Q_takenFirst Q_kinds Q_which Q_firsts Q_seconds Q_thirds Q_variables Q_holes Q_places Q_image_44 Q_bound_44 Q_waits_44 Q_waitsFor_44 Q_seen_44 Q_looked_44 x1_44 (Q_conclusions x2_44.toNatClampNeg) r8 hr8) (bigV 2 hts k5_7 k5_9 ks_Q_firstMatch k1_9 k5_10 rfl rfl hd_Q_firstMatch ⟨Nat.le_of_ble_eq_true rfl, Nat.le_of_ble_eq_true rfl⟩) (wr_preV hK hP hD [0, 1, 2, 3, 4, 5, 6, 7, 8, 16, 17, 18, 19, 20, 21] rfl (by decide) rfl 0 rfl rfl rfl) rfl rfl hl.1 rfl (lv_room (Nat.le_of_ble_eq_true rfl)) d_Q_find_73 ⟨Nat.le_of_ble_eq_true rfl, Nat.le_of_ble_eq_true rfl⟩) hP hD hS hA [0, 1, 2, 3, 4, 5, 6, 7, 8, 16, 17, 18, 19, 20, 21] [9, 10, 11, 12, 13, 14, 15] rfl rfl (by decide) (by decide) [7, 8, 9, 10, 11, 12, 13, 14, 15, 0, 1, 2, 3, 4, 5, 6, 16, 17, 18, 19, 20, 21] (by decide) rfl (fun H locs hP hD hS => ?_)
            refine lv_istore (lv' := [(4, .int r8.1), (3, .int (-1 : Int32)), (0, .ref aQ), (1, .int x1_44), (2, .int x2_44)]) hx hb d_Q_find_76 hl (by decide) rfl (fun ls hl => ?_)
            exact hL78 FU _ _ _ _ _ _ _ _ _ _ _ _ _ _ _ _ _ _ _ hP hD hS _ (lv_sub hl [2, 3, 4, 1, 0] rfl) hf
          · have hf := ite_f c6 hf
            refine lv_aload_n hx hb d_Q_find_50 rfl (lv_at hl 0 rfl) ?_
            refine va_get (D := D) (ci := 7) (v := .ref aQ_seen) (C := RR_Q) (T := FF_Q) (N := 41) hx hb hts kin_Q hown hK.1 hP 0 rfl rfl 28 (by decide) (hts _ k4_95) (fun _ h9 => h9) rfl d_Q_find_51 ?_
            refine lv_iload_n hx hb d_Q_find_54 rfl (lv_at hl 3 rfl) ?_
            refine lv_iconst (v := 0) hx hb d_Q_find_55 (by decide) ?_
            obtain ⟨h9, hf⟩ := of_gd hf
            obtain ⟨g10, eg10⟩ : ∃ y : Nat → Int32, y = upd Q_seen_44 x3_44.toNatClampNeg (vp_nar .boolean (0 : Int32)) := ⟨_, rfl⟩
            have hf := of_nm eg10 hf
            refine va_zast hx hb hK.1 hP hD hS 20 2 rfl rfl (ixb_in h9) d_Q_find_56 (fun H locs hP hD hS => ?_)
            rw [← eg10] at hP hD
            have hP : va_P D vwCl (wv_52 cI cJ cZ aQ aQ_kinds aQ_which aQ_firsts aQ_seconds aQ_thirds aQ_nexts aQ_heads aQ_names aQ_variables aQ_holes aQ_sizes aQ_places aQ_conclusions aQ_premises aQ_counts aQ_hitOf aQ_hitOne aQ_hitTwo aQ_hitTerms aQ_image aQ_bound aQ_waits aQ_waitsFor aQ_seen aQ_goals aQ_steps aQ_looked aQ_under aQ_taken aQ_news aQ_order aQ_there aQ_back Q_thrown_44 Q_all Q_statements Q_hitKind_44 Q_hits_44 Q_tries Q_takenAll Q_takenFirst Q_kinds Q_which Q_firsts Q_seconds Q_thirds Q_variables Q_holes Q_places Q_conclusions Q_premises Q_counts Q_hitOf_44 Q_hitOne_44 Q_hitTwo_44 Q_hitTerms_44 Q_image_44 Q_bound_44 Q_waits_44 Q_waitsFor_44 g10 Q_looked_44) H := hP
            have hD : va_D A (wv_52 cI cJ cZ aQ aQ_kinds aQ_which aQ_firsts aQ_seconds aQ_thirds aQ_nexts aQ_heads aQ_names aQ_variables aQ_holes aQ_sizes aQ_places aQ_conclusions aQ_premises aQ_counts aQ_hitOf aQ_hitOne aQ_hitTwo aQ_hitTerms aQ_image aQ_bound aQ_waits aQ_waitsFor aQ_seen aQ_goals aQ_steps aQ_looked aQ_under aQ_taken aQ_news aQ_order aQ_there aQ_back Q_thrown_44 Q_all Q_statements Q_hitKind_44 Q_hits_44 Q_tries Q_takenAll Q_takenFirst Q_kinds Q_which Q_firsts Q_seconds Q_thirds Q_variables Q_holes Q_places Q_conclusions Q_premises Q_counts Q_hitOf_44 Q_hitOne_44 Q_hitTwo_44 Q_hitTerms_44 Q_image_44 Q_bound_44 Q_waits_44 Q_waitsFor_44 g10 Q_looked_44) := hD
            obtain ⟨x11, ex11⟩ : ∃ y : Int32, y = x3_44 + (1 : Int32) := ⟨_, rfl⟩
            refine lv_iinc (v := x11) (lv' := [(3, .int x11), (0, .ref aQ), (1, .int x1_44), (2, .int x2_44)]) hx hb d_Q_find_57 hl (k := 3) rfl (by rw [ex11]; rfl) (by decide) rfl (fun ls hl => ?_)
            have hf := of_nm ex11 hf
            refine lv_goto (tgt := 44) hx hb d_Q_find_60 (by decide) ?_
            exact ih44 _ _ _ _ _ _ _ _ _ _ _ _ _ _ _ _ _ _ hP hD hS _ (lv_sub hl [1, 2, 3, 0] rfl) hf
      intro Q_thrown_34 Q_hitKind_34 Q_hits_34 Q_hitOf_34 Q_hitOne_34 Q_hitTwo_34 Q_hitTerms_34 Q_image_34 Q_bound_34 Q_waits_34 Q_waitsFor_34 Q_seen_34 Q_looked_34 x1_34 x2_34 H locs hP hD hS ls hl hf
      rw [f_Q_find_L34] at hf
      refine lv_iload_n hx hb d_Q_find_34 rfl (lv_at hl 2 rfl) ?_
      refine lv_aload_n hx hb d_Q_find_35 rfl (lv_at hl 0 rfl) ?_
      refine va_get (D := D) (ci := 7) (v := .int Q_statements) (C := RR_Q) (T := FF_Q) (N := 41) hx hb hts kin_Q hown hK.1 hP 0 rfl rfl 17 (by decide) (hts _ k4_84) (fun _ h9 => h9) rfl d_Q_find_36 ?_
      refine lv_icmp_ge (tgt := 135) hx hb d_Q_find_39 (by decide) (fun c5 => ?_) (fun c5 => ?_)
      · have hf := ite_t c5 hf
        refine lv_aload_n hx hb d_Q_find_135 rfl (lv_at hl 0 rfl) ?_
        refine va_get (D := D) (ci := 7) (v := .int Q_hits_34) (C := RR_Q) (T := FF_Q) (N := 41) hx hb hts kin_Q hown hK.1 hP 0 rfl rfl 19 (by decide) (hts _ k4_86) (fun _ h9 => h9) rfl d_Q_find_136 ?_
        obtain rfl := Option.some.inj hf
        exact W.iret (v := Q_hits_34) hx hb hr (fun t ht hW => ⟨rfl, by rw [ht]; exact hP, hD, hS.F ht⟩) hS.2.2 d_Q_find_139
      · have hf := ite_f c5 hf
        refine lv_iconst (v := 0) hx hb d_Q_find_42 (by decide) ?_
        refine lv_istore_n (lv' := [(3, .int (0 : Int32)), (0, .ref aQ), (1, .int x1_34), (2, .int x2_34)]) hx hb d_Q_find_43 rfl hl (by decide) rfl (fun ls hl => ?_)
        exact hL44 FU _ _ _ _ _ _ _ _ _ _ _ _ _ _ _ _ _ _ hP hD hS _ (lv_sub hl [1, 2, 3, 0] rfl) hf
  have hB14 : ∀ (Q_thrown_14 : Int32) (Q_hitKind_14 : Int32) (Q_hits_14 : Int32) (Q_hitOf_14 : (Nat → Int32)) (Q_hitOne_14 : (Nat → Int32)) (Q_hitTwo_14 : (Nat → Int32)) (Q_hitTerms_14 : (Nat → Int32)) (Q_image_14 : (Nat → Int32)) (Q_bound_14 : (Nat → Int32)) (Q_waits_14 : (Nat → Int32)) (Q_waitsFor_14 : (Nat → Int32)) (Q_seen_14 : (Nat → Int32)) (Q_looked_14 : (Nat → Int32)) (x1_14 : Int32) (s1_14 : Int32), ∀ (H : Heap) (locs : List Loc), va_P D vwCl (wv_52 cI cJ cZ aQ aQ_kinds aQ_which aQ_firsts aQ_seconds aQ_thirds aQ_nexts aQ_heads aQ_names aQ_variables aQ_holes aQ_sizes aQ_places aQ_conclusions aQ_premises aQ_counts aQ_hitOf aQ_hitOne aQ_hitTwo aQ_hitTerms aQ_image aQ_bound aQ_waits aQ_waitsFor aQ_seen aQ_goals aQ_steps aQ_looked aQ_under aQ_taken aQ_news aQ_order aQ_there aQ_back Q_thrown_14 Q_all Q_statements Q_hitKind_14 Q_hits_14 Q_tries Q_takenAll Q_takenFirst Q_kinds Q_which Q_firsts Q_seconds Q_thirds Q_variables Q_holes Q_places Q_conclusions Q_premises Q_counts Q_hitOf_14 Q_hitOne_14 Q_hitTwo_14 Q_hitTerms_14 Q_image_14 Q_bound_14 Q_waits_14 Q_waitsFor_14 Q_seen_14 Q_looked_14) H → va_D A (wv_52 cI cJ cZ aQ aQ_kinds aQ_which aQ_firsts aQ_seconds aQ_thirds aQ_nexts aQ_heads aQ_names aQ_variables aQ_holes aQ_sizes aQ_places aQ_conclusions aQ_premises aQ_counts aQ_hitOf aQ_hitOne aQ_hitTwo aQ_hitTerms aQ_image aQ_bound aQ_waits aQ_waitsFor aQ_seen aQ_goals aQ_steps aQ_looked aQ_under aQ_taken aQ_news aQ_order aQ_there aQ_back Q_thrown_14 Q_all Q_statements Q_hitKind_14 Q_hits_14 Q_tries Q_takenAll Q_takenFirst Q_kinds Q_which Q_firsts Q_seconds Q_thirds Q_variables Q_holes Q_places Q_conclusions Q_premises Q_counts Q_hitOf_14 Q_hitOne_14 Q_hitTwo_14 Q_hitTerms_14 Q_image_14 Q_bound_14 Q_waits_14 Q_waitsFor_14 Q_seen_14 Q_looked_14) → va_S A s.heap H locs → ∀ (ls : Array Slot), lv_has ls 5 [(0, .ref aQ), (1, .int x1_14)] → f_Q_find_B14 Q_all Q_statements Q_kinds Q_which Q_firsts Q_seconds Q_thirds Q_variables Q_holes Q_places Q_conclusions Q_premises Q_counts Q_thrown_14 Q_hitKind_14 Q_hits_14 Q_hitOf_14 Q_hitOne_14 Q_hitTwo_14 Q_hitTerms_14 Q_image_14 Q_bound_14 Q_waits_14 Q_waitsFor_14 Q_seen_14 Q_looked_14 x1_14 s1_14 = some o → W p l e (headSpec (ws_Q_find) rm_Q_find).room s m ([.ref aQ, .int p0] : List Value).toArray below meth c H locs 0 0 (MQ below (WQ D vwCl (some (.int o.1)) (wv_52 cI cJ cZ aQ aQ_kinds aQ_which aQ_firsts aQ_seconds aQ_thirds aQ_nexts aQ_heads aQ_names aQ_variables aQ_holes aQ_sizes aQ_places aQ_conclusions aQ_premises aQ_counts aQ_hitOf aQ_hitOne aQ_hitTwo aQ_hitTerms aQ_image aQ_bound aQ_waits aQ_waitsFor aQ_seen aQ_goals aQ_steps aQ_looked aQ_under aQ_taken aQ_news aQ_order aQ_there aQ_back o.2.1 Q_all Q_statements o.2.2.1 o.2.2.2.1 Q_tries Q_takenAll Q_takenFirst Q_kinds Q_which Q_firsts Q_seconds Q_thirds Q_variables Q_holes Q_places Q_conclusions Q_premises Q_counts o.2.2.2.2.1 o.2.2.2.2.2.1 o.2.2.2.2.2.2.1 o.2.2.2.2.2.2.2.1 o.2.2.2.2.2.2.2.2.1 o.2.2.2.2.2.2.2.2.2.1 o.2.2.2.2.2.2.2.2.2.2.1 o.2.2.2.2.2.2.2.2.2.2.2.1 o.2.2.2.2.2.2.2.2.2.2.2.2.1 o.2.2.2.2.2.2.2.2.2.2.2.2.2) A) ([.ref aQ, .int p0] : List Value).toArray s 0 0 A) (F0 m 14 ls [.int s1_14, .ref aQ]) := by
    intro Q_thrown_14 Q_hitKind_14 Q_hits_14 Q_hitOf_14 Q_hitOne_14 Q_hitTwo_14 Q_hitTerms_14 Q_image_14 Q_bound_14 Q_waits_14 Q_waitsFor_14 Q_seen_14 Q_looked_14 x1_14 s1_14 H locs hP hD hS ls hl hf
    rw [f_Q_find_B14] at hf
    obtain ⟨r3, hr3, hf⟩ := of_bd hf
    refine wr_call (ws' := (wv_52 cI cJ cZ aQ aQ_kinds aQ_which aQ_firsts aQ_seconds aQ_thirds aQ_nexts aQ_heads aQ_names aQ_variables aQ_holes aQ_sizes aQ_places aQ_conclusions aQ_premises aQ_counts aQ_hitOf aQ_hitOne aQ_hitTwo aQ_hitTerms aQ_image aQ_bound aQ_waits aQ_waitsFor aQ_seen aQ_goals aQ_steps aQ_looked aQ_under aQ_taken aQ_news aQ_order aQ_there aQ_back r3.2 Q_all Q_statements Q_hitKind_14 Q_hits_14 Q_tries Q_takenAll Q_takenFirst Q_kinds Q_which Q_firsts Q_seconds Q_thirds Q_variables Q_holes Q_places Q_conclusions Q_premises Q_counts Q_hitOf_14 Q_hitOne_14 Q_hitTwo_14 Q_hitTerms_14 Q_image_14 Q_bound_14 Q_waits_14 Q_waitsFor_14 Q_seen_14 Q_looked_14)) (va_runV (As := [.int s1_14]) (rest := []) ⟨hx, hb, hml, hown, hts⟩ (c_Q_refuses l D cI cJ cZ aQ aQ_kinds aQ_which aQ_firsts aQ_seconds aQ_thirds aQ_nexts aQ_heads aQ_names aQ_variables aQ_holes aQ_sizes aQ_places aQ_conclusions aQ_premises aQ_counts aQ_hitOf aQ_hitOne aQ_hitTwo aQ_hitTerms aQ_image aQ_bound aQ_waits aQ_waitsFor aQ_seen aQ_goals aQ_steps aQ_looked aQ_under aQ_taken aQ_news aQ_order aQ_there aQ_back _ Q_thrown_14 Q_all Q_statements Q_hitKind_14 Q_hits_14 Q_tries Q_takenAll Q_takenFirst s1_14 r3 hr3) (bigV 1 hts k4_203 k4_205 ks_Q_refuses k1_9 k4_206 rfl rfl hd_Q_refuses ⟨Nat.le_of_ble_eq_true rfl, Nat.le_of_ble_eq_true rfl⟩) (wr_preV hK hP hD [0] rfl (by decide) rfl 0 rfl rfl rfl) rfl rfl hl.1 rfl (lv_room (Nat.le_of_ble_eq_true rfl)) d_Q_find_14 ⟨Nat.le_of_ble_eq_true rfl, Nat.le_of_ble_eq_true rfl⟩) hP hD hS hA [0] [1, 2, 3, 4, 5, 6, 7, 8, 9, 10, 11, 12, 13, 14, 15, 16, 17, 18, 19, 20, 21] rfl rfl (by decide) (by decide) [21, 0, 1, 2, 3, 4, 5, 6, 7, 8, 9, 10, 11, 12, 13, 14, 15, 16, 17, 18, 19, 20] (by decide) rfl (fun H locs hP hD hS => ?_)
    refine lv_if_eq (tgt := 22) hx hb d_Q_find_17 (by decide) (fun c4 => ?_) (fun c4 => ?_)
    · have hf := ite_t c4 hf
      refine lv_aload_n hx hb d_Q_find_22 rfl (lv_at hl 0 rfl) ?_
      refine lv_iconst (v := 1) hx hb d_Q_find_23 (by decide) ?_
      refine va_put (D := D) (ci := 7) (v := .int (1 : Int32)) (ty := .int) (C := RR_Q) (T := FF_Q) (N := 41) hx hb hts kin_Q TT_Q tok_Q nok_Q hown hK.1 hP hD hS 0 rfl rfl 18 (by decide) (hts _ k4_85) (fun _ h9 => h9) rfl (by decide +kernel) rfl rfl (Nat.le_of_ble_eq_true rfl) d_Q_find_24 (fun H locs hP hD hS => ?_)
      have hP : va_P D vwCl (wv_52 cI cJ cZ aQ aQ_kinds aQ_which aQ_firsts aQ_seconds aQ_thirds aQ_nexts aQ_heads aQ_names aQ_variables aQ_holes aQ_sizes aQ_places aQ_conclusions aQ_premises aQ_counts aQ_hitOf aQ_hitOne aQ_hitTwo aQ_hitTerms aQ_image aQ_bound aQ_waits aQ_waitsFor aQ_seen aQ_goals aQ_steps aQ_looked aQ_under aQ_taken aQ_news aQ_order aQ_there aQ_back r3.2 Q_all Q_statements (1 : Int32) Q_hits_14 Q_tries Q_takenAll Q_takenFirst Q_kinds Q_which Q_firsts Q_seconds Q_thirds Q_variables Q_holes Q_places Q_conclusions Q_premises Q_counts Q_hitOf_14 Q_hitOne_14 Q_hitTwo_14 Q_hitTerms_14 Q_image_14 Q_bound_14 Q_waits_14 Q_waitsFor_14 Q_seen_14 Q_looked_14) H := hP
      have hD : va_D A (wv_52 cI cJ cZ aQ aQ_kinds aQ_which aQ_firsts aQ_seconds aQ_thirds aQ_nexts aQ_heads aQ_names aQ_variables aQ_holes aQ_sizes aQ_places aQ_conclusions aQ_premises aQ_counts aQ_hitOf aQ_hitOne aQ_hitTwo aQ_hitTerms aQ_image aQ_bound aQ_waits aQ_waitsFor aQ_seen aQ_goals aQ_steps aQ_looked aQ_under aQ_taken aQ_news aQ_order aQ_there aQ_back r3.2 Q_all Q_statements (1 : Int32) Q_hits_14 Q_tries Q_takenAll Q_takenFirst Q_kinds Q_which Q_firsts Q_seconds Q_thirds Q_variables Q_holes Q_places Q_conclusions Q_premises Q_counts Q_hitOf_14 Q_hitOne_14 Q_hitTwo_14 Q_hitTerms_14 Q_image_14 Q_bound_14 Q_waits_14 Q_waitsFor_14 Q_seen_14 Q_looked_14) := hD
      refine lv_aload_n hx hb d_Q_find_27 rfl (lv_at hl 0 rfl) ?_
      refine lv_iconst (v := 0) hx hb d_Q_find_28 (by decide) ?_
      refine va_put (D := D) (ci := 7) (v := .int (0 : Int32)) (ty := .int) (C := RR_Q) (T := FF_Q) (N := 41) hx hb hts kin_Q TT_Q tok_Q nok_Q hown hK.1 hP hD hS 0 rfl rfl 19 (by decide) (hts _ k4_86) (fun _ h9 => h9) rfl (by decide +kernel) rfl rfl (Nat.le_of_ble_eq_true rfl) d_Q_find_29 (fun H locs hP hD hS => ?_)
      have hP : va_P D vwCl (wv_52 cI cJ cZ aQ aQ_kinds aQ_which aQ_firsts aQ_seconds aQ_thirds aQ_nexts aQ_heads aQ_names aQ_variables aQ_holes aQ_sizes aQ_places aQ_conclusions aQ_premises aQ_counts aQ_hitOf aQ_hitOne aQ_hitTwo aQ_hitTerms aQ_image aQ_bound aQ_waits aQ_waitsFor aQ_seen aQ_goals aQ_steps aQ_looked aQ_under aQ_taken aQ_news aQ_order aQ_there aQ_back r3.2 Q_all Q_statements (1 : Int32) (0 : Int32) Q_tries Q_takenAll Q_takenFirst Q_kinds Q_which Q_firsts Q_seconds Q_thirds Q_variables Q_holes Q_places Q_conclusions Q_premises Q_counts Q_hitOf_14 Q_hitOne_14 Q_hitTwo_14 Q_hitTerms_14 Q_image_14 Q_bound_14 Q_waits_14 Q_waitsFor_14 Q_seen_14 Q_looked_14) H := hP
      have hD : va_D A (wv_52 cI cJ cZ aQ aQ_kinds aQ_which aQ_firsts aQ_seconds aQ_thirds aQ_nexts aQ_heads aQ_names aQ_variables aQ_holes aQ_sizes aQ_places aQ_conclusions aQ_premises aQ_counts aQ_hitOf aQ_hitOne aQ_hitTwo aQ_hitTerms aQ_image aQ_bound aQ_waits aQ_waitsFor aQ_seen aQ_goals aQ_steps aQ_looked aQ_under aQ_taken aQ_news aQ_order aQ_there aQ_back r3.2 Q_all Q_statements (1 : Int32) (0 : Int32) Q_tries Q_takenAll Q_takenFirst Q_kinds Q_which Q_firsts Q_seconds Q_thirds Q_variables Q_holes Q_places Q_conclusions Q_premises Q_counts Q_hitOf_14 Q_hitOne_14 Q_hitTwo_14 Q_hitTerms_14 Q_image_14 Q_bound_14 Q_waits_14 Q_waitsFor_14 Q_seen_14 Q_looked_14) := hD
      refine lv_iconst (v := 0) hx hb d_Q_find_32 (by decide) ?_
      refine lv_istore_n (lv' := [(2, .int (0 : Int32)), (0, .ref aQ), (1, .int x1_14)]) hx hb d_Q_find_33 rfl hl (by decide) rfl (fun ls hl => ?_)
      exact hL34 FU _ _ _ _ _ _ _ _ _ _ _ _ _ _ _ _ _ hP hD hS _ (lv_sub hl [1, 2, 0] rfl) hf
    · have hf := ite_f c4 hf
      refine lv_iconst (v := 0) hx hb d_Q_find_20 (by decide) ?_
      obtain rfl := Option.some.inj hf
      exact W.iret (v := (0 : Int32)) hx hb hr (fun t ht hW => ⟨rfl, by rw [ht]; exact hP, hD, hS.F ht⟩) hS.2.2 d_Q_find_21
  rw [f_Q_find] at hf
  refine lv_aload_n hx hb d_Q_find_0 rfl (lv_at hl 0 rfl) ?_
  refine lv_aload_n hx hb d_Q_find_1 rfl (lv_at hl 0 rfl) ?_
  refine lv_iload_n hx hb d_Q_find_2 rfl (lv_at hl 1 rfl) ?_
  obtain ⟨r1, hr1, hf⟩ := of_bd hf
  refine rd_call (va_runV (As := [.int p0]) (rest := [.ref aQ]) ⟨hx, hb, hml, hown, hts⟩ (c_Q_isTerm l D cI cJ cZ aQ aQ_kinds aQ_which aQ_firsts aQ_seconds aQ_thirds aQ_nexts aQ_heads aQ_names aQ_variables aQ_holes aQ_sizes aQ_places aQ_conclusions aQ_premises aQ_counts aQ_hitOf aQ_hitOne aQ_hitTwo aQ_hitTerms aQ_image aQ_bound aQ_waits aQ_waitsFor aQ_seen aQ_goals aQ_steps aQ_looked aQ_under aQ_taken aQ_news aQ_order aQ_there aQ_back Q_thrown Q_all Q_statements Q_hitKind Q_hits Q_tries Q_takenAll Q_takenFirst p0 r1 hr1) (bigV 1 hts k4_199 k4_201 ks_Q_isTerm k1_9 k4_202 rfl rfl hd_Q_isTerm ⟨Nat.le_of_ble_eq_true rfl, Nat.le_of_ble_eq_true rfl⟩) (rd_preV hK hP [0] rfl 0 rfl rfl rfl) rfl rfl hl.1 rfl (lv_room (Nat.le_of_ble_eq_true rfl)) d_Q_find_3 ⟨Nat.le_of_ble_eq_true rfl, Nat.le_of_ble_eq_true rfl⟩) ?_
  refine lv_if_ne (tgt := 13) hx hb d_Q_find_6 (by decide) (fun c2 => ?_) (fun c2 => ?_)
  · have hf := ite_f c2 hf
    refine lv_iconst (v := 0) hx hb d_Q_find_13 (by decide) ?_
    exact hB14 _ _ _ _ _ _ _ _ _ _ _ _ _ _ _ _ _ hP hD hS _ (lv_sub hl [0, 1] rfl) hf
  · have hf := ite_t c2 hf
    refine lv_iconst (v := 1) hx hb d_Q_find_9 (by decide) ?_
    refine lv_goto (tgt := 14) hx hb d_Q_find_10 (by decide) ?_
    exact hB14 _ _ _ _ _ _ _ _ _ _ _ _ _ _ _ _ _ hP hD hS _ (lv_sub hl [0, 1] rfl) hf
def f_Q_wrongGoal (Q_all : Int32) (Q_holes : (Nat → Int32)) (p0 : Int32) : Option (Int32) :=
  (f_Q_isTerm Q_all p0).bind fun r1 =>
  if r1 = 0 then
    some (1 : Int32)
  else
    gd (ixb p0 100) <|
    if (Q_holes p0.toNatClampNeg) = 0 then
      some (0 : Int32)
    else
      some (2 : Int32)
abbrev rm_Q_wrongGoal : Room := { frames := 1, cells := 0, slots := 0, locals := 21 }
set_option maxHeartbeats 4000000 in
set_option maxRecDepth 100000 in
theorem c_Q_wrongGoal (l : Launch) (D : va_G) (cI cJ cZ : ClassId) (aQ aQ_kinds aQ_which aQ_firsts aQ_seconds aQ_thirds aQ_nexts aQ_heads aQ_names aQ_variables aQ_holes aQ_sizes aQ_places aQ_conclusions aQ_premises aQ_counts aQ_hitOf aQ_hitOne aQ_hitTwo aQ_hitTerms aQ_image aQ_bound aQ_waits aQ_waitsFor aQ_seen aQ_goals aQ_steps aQ_looked aQ_under aQ_taken aQ_news aQ_order aQ_there aQ_back : Nat) (Q_thrown : Int32) (Q_all : Int32) (Q_statements : Int32) (Q_hitKind : Int32) (Q_hits : Int32) (Q_tries : Int32) (Q_takenAll : Int32) (Q_takenFirst : Int32) (Q_holes : (Nat → Int32)) (p0 : Int32) (o : Int32) (hf : f_Q_wrongGoal Q_all Q_holes p0 = some o) : Met l y_Q_wrongGoal (ws_Q_wrongGoal) rm_Q_wrongGoal (RPc D vwCl cI cJ cZ [.ref aQ, .int p0] (wv_53 cI cJ cZ aQ aQ_kinds aQ_which aQ_firsts aQ_seconds aQ_thirds aQ_nexts aQ_heads aQ_names aQ_variables aQ_holes aQ_sizes aQ_places aQ_conclusions aQ_premises aQ_counts aQ_hitOf aQ_hitOne aQ_hitTwo aQ_hitTerms aQ_image aQ_bound aQ_waits aQ_waitsFor aQ_seen aQ_goals aQ_steps aQ_looked aQ_under aQ_taken aQ_news aQ_order aQ_there aQ_back Q_thrown Q_all Q_statements Q_hitKind Q_hits Q_tries Q_takenAll Q_takenFirst Q_holes)) (RQ (some (.int o))) 0 0 (fun _ => False) := by
  refine Met.ofW (cc := b_Q_wrongGoal) (maxL := 2) (ret := (some .int)) (by decide) rfl ?_
  intro p e s m args below meth c s₁ B hml hv
  obtain ⟨rfl, hP, hK⟩ := hv
  have hx := B.exec
  have hb := B.bytes
  have hr := B.returns
  have hts : ∀ w ∈ BG, w.before _ s = true := fun w h => atoms_spec (ws := (ws_Q_wrongGoal)) B.pre w (List.mem_cons_of_mem _ h)
  have hown : s.vm.findClass RR_Q = some m.cls := findClass_of_methodNamed B.named
  have hlocks := B.notSynchronized
  have hl := lv_entry ([.ref aQ, .int p0]) (n := 2) (Nat.le_of_ble_eq_true rfl)
  rw [lg_entry_eq]
  generalize (lg_sl ([.ref aQ, .int p0]) ++ List.replicate (2 - (lg_sl ([.ref aQ, .int p0])).length) Slot.unset).toArray = ls at hl ⊢
  have hl : lv_has ls 2 [(0, .ref aQ), (1, .int p0)] := hl
  rw [f_Q_wrongGoal] at hf
  refine lv_aload_n hx hb d_Q_wrongGoal_0 rfl (lv_at hl 0 rfl) ?_
  refine lv_iload_n hx hb d_Q_wrongGoal_1 rfl (lv_at hl 1 rfl) ?_
  obtain ⟨r1, hr1, hf⟩ := of_bd hf
  refine rd_call (va_runV (As := [.int p0]) (rest := []) ⟨hx, hb, hml, hown, hts⟩ (c_Q_isTerm l D cI cJ cZ aQ aQ_kinds aQ_which aQ_firsts aQ_seconds aQ_thirds aQ_nexts aQ_heads aQ_names aQ_variables aQ_holes aQ_sizes aQ_places aQ_conclusions aQ_premises aQ_counts aQ_hitOf aQ_hitOne aQ_hitTwo aQ_hitTerms aQ_image aQ_bound aQ_waits aQ_waitsFor aQ_seen aQ_goals aQ_steps aQ_looked aQ_under aQ_taken aQ_news aQ_order aQ_there aQ_back Q_thrown Q_all Q_statements Q_hitKind Q_hits Q_tries Q_takenAll Q_takenFirst p0 r1 hr1) (bigV 1 hts k4_199 k4_201 ks_Q_isTerm k1_9 k4_202 rfl rfl hd_Q_isTerm ⟨Nat.le_of_ble_eq_true rfl, Nat.le_of_ble_eq_true rfl⟩) (rd_preV hK hP [0] rfl 0 rfl rfl rfl) rfl rfl hl.1 rfl (lv_room (Nat.le_of_ble_eq_true rfl)) d_Q_wrongGoal_2 ⟨Nat.le_of_ble_eq_true rfl, Nat.le_of_ble_eq_true rfl⟩) ?_
  refine lv_if_ne (tgt := 12) hx hb d_Q_wrongGoal_5 (by decide) (fun c2 => ?_) (fun c2 => ?_)
  · have hf := ite_f c2 hf
    refine lv_aload_n hx hb d_Q_wrongGoal_12 rfl (lv_at hl 0 rfl) ?_
    refine va_get (D := D) (ci := 7) (v := .ref aQ_holes) (C := RR_Q) (T := FF_Q) (N := 41) hx hb hts kin_Q hown hK.1 hP 0 rfl rfl 11 (by decide) (hts _ k4_78) (fun _ h9 => h9) rfl d_Q_wrongGoal_13 ?_
    refine lv_iload_n hx hb d_Q_wrongGoal_16 rfl (lv_at hl 1 rfl) ?_
    obtain ⟨h3, hf⟩ := of_gd hf
    refine va_iald hx hb hK.1 hP 1 0 rfl rfl (ixb_in h3) d_Q_wrongGoal_17 ?_
    refine lv_if_eq (tgt := 25) hx hb d_Q_wrongGoal_18 (by decide) (fun c4 => ?_) (fun c4 => ?_)
    · have hf := ite_t c4 hf
      refine lv_iconst (v := 0) hx hb d_Q_wrongGoal_25 (by decide) ?_
      obtain rfl := Option.some.inj hf
      exact W.iret (v := (0 : Int32)) hx hb hr (fun t ht hW => ⟨rfl, ht⟩) (fun q h => by cases h) d_Q_wrongGoal_26
    · have hf := ite_f c4 hf
      refine lv_iconst (v := 2) hx hb d_Q_wrongGoal_21 (by decide) ?_
      refine lv_goto (tgt := 26) hx hb d_Q_wrongGoal_22 (by decide) ?_
      obtain rfl := Option.some.inj hf
      exact W.iret (v := (2 : Int32)) hx hb hr (fun t ht hW => ⟨rfl, ht⟩) (fun q h => by cases h) d_Q_wrongGoal_26
  · have hf := ite_t c2 hf
    refine lv_iconst (v := 1) hx hb d_Q_wrongGoal_8 (by decide) ?_
    refine lv_goto (tgt := 26) hx hb d_Q_wrongGoal_9 (by decide) ?_
    obtain rfl := Option.some.inj hf
    exact W.iret (v := (1 : Int32)) hx hb hr (fun t ht hW => ⟨rfl, ht⟩) (fun q h => by cases h) d_Q_wrongGoal_26
def f_Q_fit_L33 (Q_all : Int32) (Q_statements : Int32) (Q_kinds : (Nat → Int32)) (Q_which : (Nat → Int32)) (Q_firsts : (Nat → Int32)) (Q_seconds : (Nat → Int32)) (Q_thirds : (Nat → Int32)) (Q_variables : (Nat → Int32)) (Q_holes : (Nat → Int32)) (Q_places : (Nat → Int32)) (Q_conclusions : (Nat → Int32)) (Q_premises : (Nat → Int32)) (Q_counts : (Nat → Int32)) (K26 : Int32 → Int32 → Int32 → (Nat → Int32) → (Nat → Int32) → (Nat → Int32) → (Nat → Int32) → (Nat → Int32) → (Nat → Int32) → (Nat → Int32) → (Nat → Int32) → Int32 → Int32 → Option (Int32 × Int32 × Int32 × Int32 × (Nat → Int32) × (Nat → Int32) × (Nat → Int32) × (Nat → Int32) × (Nat → Int32) × (Nat → Int32) × (Nat → Int32) × (Nat → Int32))) : Nat → Int32 → Int32 → Int32 → (Nat → Int32) → (Nat → Int32) → (Nat → Int32) → (Nat → Int32) → (Nat → Int32) → (Nat → Int32) → (Nat → Int32) → (Nat → Int32) → Int32 → Int32 → Int32 → Option (Int32 × Int32 × Int32 × Int32 × (Nat → Int32) × (Nat → Int32) × (Nat → Int32) × (Nat → Int32) × (Nat → Int32) × (Nat → Int32) × (Nat → Int32) × (Nat → Int32))
  | 0, _, _, _, _, _, _, _, _, _, _, _, _, _, _ => none
  | n + 1, Q_thrown_33, Q_hitKind_33, Q_hits_33, Q_hitOf_33, Q_hitOne_33, Q_hitTwo_33, Q_hitTerms_33, Q_image_33, Q_bound_33, Q_waits_33, Q_waitsFor_33, x1_33, x2_33, x3_33 =>
    if Q_statements ≤ x3_33 then
      nm (x2_33 + (1 : Int32)) fun x6 =>
      K26 Q_thrown_33 Q_hitKind_33 Q_hits_33 Q_hitOf_33 Q_hitOne_33 Q_hitTwo_33 Q_hitTerms_33 Q_image_33 Q_bound_33 Q_waits_33 Q_waitsFor_33 x1_33 x6
    else
      gd (ixb x3_33 30) <|
      if (Q_counts x3_33.toNatClampNeg) = x2_33 then
        gd (ixb x3_33 30) <|
        (f_Q_matches Q_kinds Q_which Q_firsts Q_seconds Q_thirds Q_variables Q_holes Q_places Q_image_33 Q_bound_33 Q_waits_33 Q_waitsFor_33 (Q_conclusions x3_33.toNatClampNeg) x1_33 (0 : Int32)).bind fun r11 =>
        if r11.1 = 0 then
          nm (x3_33 + (1 : Int32)) fun x13 =>
          (f_Q_fit_L33 Q_all Q_statements Q_kinds Q_which Q_firsts Q_seconds Q_thirds Q_variables Q_holes Q_places Q_conclusions Q_premises Q_counts K26 n) Q_thrown_33 Q_hitKind_33 Q_hits_33 Q_hitOf_33 Q_hitOne_33 Q_hitTwo_33 Q_hitTerms_33 r11.2.1 r11.2.2.1 r11.2.2.2.1 r11.2.2.2.2 x1_33 x2_33 x13
        else
          (f_Q_open Q_variables Q_conclusions Q_premises Q_counts x3_33).bind fun r14 =>
          (f_Q_many r14).bind fun r15 =>
          (f_Q_hit_III Q_hits_33 Q_hitOf_33 Q_hitOne_33 Q_hitTwo_33 Q_hitTerms_33 r11.2.2.1 x3_33 r15 x2_33).bind fun r16 =>
          nm (x3_33 + (1 : Int32)) fun x17 =>
          (f_Q_fit_L33 Q_all Q_statements Q_kinds Q_which Q_firsts Q_seconds Q_thirds Q_variables Q_holes Q_places Q_conclusions Q_premises Q_counts K26 n) Q_thrown_33 Q_hitKind_33 r16.1 r16.2.1 r16.2.2.1 r16.2.2.2.1 r16.2.2.2.2 r11.2.1 r11.2.2.1 r11.2.2.2.1 r11.2.2.2.2 x1_33 x2_33 x17
      else
        nm (x3_33 + (1 : Int32)) fun x9 =>
        (f_Q_fit_L33 Q_all Q_statements Q_kinds Q_which Q_firsts Q_seconds Q_thirds Q_variables Q_holes Q_places Q_conclusions Q_premises Q_counts K26 n) Q_thrown_33 Q_hitKind_33 Q_hits_33 Q_hitOf_33 Q_hitOne_33 Q_hitTwo_33 Q_hitTerms_33 Q_image_33 Q_bound_33 Q_waits_33 Q_waitsFor_33 x1_33 x2_33 x9
def f_Q_fit_L26 (Q_all : Int32) (Q_statements : Int32) (Q_kinds : (Nat → Int32)) (Q_which : (Nat → Int32)) (Q_firsts : (Nat → Int32)) (Q_seconds : (Nat → Int32)) (Q_thirds : (Nat → Int32)) (Q_variables : (Nat → Int32)) (Q_holes : (Nat → Int32)) (Q_places : (Nat → Int32)) (Q_conclusions : (Nat → Int32)) (Q_premises : (Nat → Int32)) (Q_counts : (Nat → Int32)) : Nat → Int32 → Int32 → Int32 → (Nat → Int32) → (Nat → Int32) → (Nat → Int32) → (Nat → Int32) → (Nat → Int32) → (Nat → Int32) → (Nat → Int32) → (Nat → Int32) → Int32 → Int32 → Option (Int32 × Int32 × Int32 × Int32 × (Nat → Int32) × (Nat → Int32) × (Nat → Int32) × (Nat → Int32) × (Nat → Int32) × (Nat → Int32) × (Nat → Int32) × (Nat → Int32))
  | 0, _, _, _, _, _, _, _, _, _, _, _, _, _ => none
  | n + 1, Q_thrown_26, Q_hitKind_26, Q_hits_26, Q_hitOf_26, Q_hitOne_26, Q_hitTwo_26, Q_hitTerms_26, Q_image_26, Q_bound_26, Q_waits_26, Q_waitsFor_26, x1_26, x2_26 =>
    if (4 : Int32) < x2_26 then
      some (Q_hits_26, Q_thrown_26, Q_hitKind_26, Q_hits_26, Q_hitOf_26, Q_hitOne_26, Q_hitTwo_26, Q_hitTerms_26, Q_image_26, Q_bound_26, Q_waits_26, Q_waitsFor_26)
    else
      f_Q_fit_L33 Q_all Q_statements Q_kinds Q_which Q_firsts Q_seconds Q_thirds Q_variables Q_holes Q_places Q_conclusions Q_premises Q_counts (f_Q_fit_L26 Q_all Q_statements Q_kinds Q_which Q_firsts Q_seconds Q_thirds Q_variables Q_holes Q_places Q_conclusions Q_premises Q_counts n) FU Q_thrown_26 Q_hitKind_26 Q_hits_26 Q_hitOf_26 Q_hitOne_26 Q_hitTwo_26 Q_hitTerms_26 Q_image_26 Q_bound_26 Q_waits_26 Q_waitsFor_26 x1_26 x2_26 (0 : Int32)
def f_Q_fit (Q_thrown : Int32) (Q_all : Int32) (Q_statements : Int32) (Q_hitKind : Int32) (Q_hits : Int32) (Q_kinds : (Nat → Int32)) (Q_which : (Nat → Int32)) (Q_firsts : (Nat → Int32)) (Q_seconds : (Nat → Int32)) (Q_thirds : (Nat → Int32)) (Q_variables : (Nat → Int32)) (Q_holes : (Nat → Int32)) (Q_places : (Nat → Int32)) (Q_conclusions : (Nat → Int32)) (Q_premises : (Nat → Int32)) (Q_counts : (Nat → Int32)) (Q_hitOf : (Nat → Int32)) (Q_hitOne : (Nat → Int32)) (Q_hitTwo : (Nat → Int32)) (Q_hitTerms : (Nat → Int32)) (Q_image : (Nat → Int32)) (Q_bound : (Nat → Int32)) (Q_waits : (Nat → Int32)) (Q_waitsFor : (Nat → Int32)) (p0 : Int32) : Option (Int32 × Int32 × Int32 × Int32 × (Nat → Int32) × (Nat → Int32) × (Nat → Int32) × (Nat → Int32) × (Nat → Int32) × (Nat → Int32) × (Nat → Int32) × (Nat → Int32)) :=
  (f_Q_wrongGoal Q_all Q_holes p0).bind fun r1 =>
  (f_Q_refuses Q_thrown r1).bind fun r2 =>
  if r2.1 = 0 then
    f_Q_fit_L26 Q_all Q_statements Q_kinds Q_which Q_firsts Q_seconds Q_thirds Q_variables Q_holes Q_places Q_conclusions Q_premises Q_counts FU r2.2 (2 : Int32) (0 : Int32) Q_hitOf Q_hitOne Q_hitTwo Q_hitTerms Q_image Q_bound Q_waits Q_waitsFor p0 (0 : Int32)
  else
    some ((0 : Int32), r2.2, Q_hitKind, Q_hits, Q_hitOf, Q_hitOne, Q_hitTwo, Q_hitTerms, Q_image, Q_bound, Q_waits, Q_waitsFor)
abbrev rm_Q_fit : Room := { frames := 2, cells := 0, slots := 0, locals := 49 }
set_option maxHeartbeats 4000000 in
set_option maxRecDepth 100000 in
theorem c_Q_fit (l : Launch) (D : va_G) (cI cJ cZ : ClassId) (aQ aQ_kinds aQ_which aQ_firsts aQ_seconds aQ_thirds aQ_nexts aQ_heads aQ_names aQ_variables aQ_holes aQ_sizes aQ_places aQ_conclusions aQ_premises aQ_counts aQ_hitOf aQ_hitOne aQ_hitTwo aQ_hitTerms aQ_image aQ_bound aQ_waits aQ_waitsFor aQ_seen aQ_goals aQ_steps aQ_looked aQ_under aQ_taken aQ_news aQ_order aQ_there aQ_back : Nat) (sz : Nat) (Q_thrown : Int32) (Q_all : Int32) (Q_statements : Int32) (Q_hitKind : Int32) (Q_hits : Int32) (Q_tries : Int32) (Q_takenAll : Int32) (Q_takenFirst : Int32) (Q_kinds : (Nat → Int32)) (Q_which : (Nat → Int32)) (Q_firsts : (Nat → Int32)) (Q_seconds : (Nat → Int32)) (Q_thirds : (Nat → Int32)) (Q_variables : (Nat → Int32)) (Q_holes : (Nat → Int32)) (Q_places : (Nat → Int32)) (Q_conclusions : (Nat → Int32)) (Q_premises : (Nat → Int32)) (Q_counts : (Nat → Int32)) (Q_hitOf : (Nat → Int32)) (Q_hitOne : (Nat → Int32)) (Q_hitTwo : (Nat → Int32)) (Q_hitTerms : (Nat → Int32)) (Q_image : (Nat → Int32)) (Q_bound : (Nat → Int32)) (Q_waits : (Nat → Int32)) (Q_waitsFor : (Nat → Int32)) (p0 : Int32) (o : Int32 × Int32 × Int32 × Int32 × (Nat → Int32) × (Nat → Int32) × (Nat → Int32) × (Nat → Int32) × (Nat → Int32) × (Nat → Int32) × (Nat → Int32) × (Nat → Int32)) (hf : f_Q_fit Q_thrown Q_all Q_statements Q_hitKind Q_hits Q_kinds Q_which Q_firsts Q_seconds Q_thirds Q_variables Q_holes Q_places Q_conclusions Q_premises Q_counts Q_hitOf Q_hitOne Q_hitTwo Q_hitTerms Q_image Q_bound Q_waits Q_waitsFor p0 = some o) : Met l y_Q_fit (ws_Q_fit) rm_Q_fit (WPc D vwCl cI cJ cZ [.ref aQ, .int p0] (wv_54 cI cJ cZ aQ aQ_kinds aQ_which aQ_firsts aQ_seconds aQ_thirds aQ_nexts aQ_heads aQ_names aQ_variables aQ_holes aQ_sizes aQ_places aQ_conclusions aQ_premises aQ_counts aQ_hitOf aQ_hitOne aQ_hitTwo aQ_hitTerms aQ_image aQ_bound aQ_waits aQ_waitsFor aQ_seen aQ_goals aQ_steps aQ_looked aQ_under aQ_taken aQ_news aQ_order aQ_there aQ_back Q_thrown Q_all Q_statements Q_hitKind Q_hits Q_tries Q_takenAll Q_takenFirst Q_kinds Q_which Q_firsts Q_seconds Q_thirds Q_variables Q_holes Q_places Q_conclusions Q_premises Q_counts Q_hitOf Q_hitOne Q_hitTwo Q_hitTerms Q_image Q_bound Q_waits Q_waitsFor) sz) (WQ D vwCl (some (.int o.1)) (wv_54 cI cJ cZ aQ aQ_kinds aQ_which aQ_firsts aQ_seconds aQ_thirds aQ_nexts aQ_heads aQ_names aQ_variables aQ_holes aQ_sizes aQ_places aQ_conclusions aQ_premises aQ_counts aQ_hitOf aQ_hitOne aQ_hitTwo aQ_hitTerms aQ_image aQ_bound aQ_waits aQ_waitsFor aQ_seen aQ_goals aQ_steps aQ_looked aQ_under aQ_taken aQ_news aQ_order aQ_there aQ_back o.2.1 Q_all Q_statements o.2.2.1 o.2.2.2.1 Q_tries Q_takenAll Q_takenFirst Q_kinds Q_which Q_firsts Q_seconds Q_thirds Q_variables Q_holes Q_places Q_conclusions Q_premises Q_counts o.2.2.2.2.1 o.2.2.2.2.2.1 o.2.2.2.2.2.2.1 o.2.2.2.2.2.2.2.1 o.2.2.2.2.2.2.2.2.1 o.2.2.2.2.2.2.2.2.2.1 o.2.2.2.2.2.2.2.2.2.2.1 o.2.2.2.2.2.2.2.2.2.2.2) (va_A (wv_54 cI cJ cZ aQ aQ_kinds aQ_which aQ_firsts aQ_seconds aQ_thirds aQ_nexts aQ_heads aQ_names aQ_variables aQ_holes aQ_sizes aQ_places aQ_conclusions aQ_premises aQ_counts aQ_hitOf aQ_hitOne aQ_hitTwo aQ_hitTerms aQ_image aQ_bound aQ_waits aQ_waitsFor aQ_seen aQ_goals aQ_steps aQ_looked aQ_under aQ_taken aQ_news aQ_order aQ_there aQ_back Q_thrown Q_all Q_statements Q_hitKind Q_hits Q_tries Q_takenAll Q_takenFirst Q_kinds Q_which Q_firsts Q_seconds Q_thirds Q_variables Q_holes Q_places Q_conclusions Q_premises Q_counts Q_hitOf Q_hitOne Q_hitTwo Q_hitTerms Q_image Q_bound Q_waits Q_waitsFor) sz)) 0 0 (va_A (wv_54 cI cJ cZ aQ aQ_kinds aQ_which aQ_firsts aQ_seconds aQ_thirds aQ_nexts aQ_heads aQ_names aQ_variables aQ_holes aQ_sizes aQ_places aQ_conclusions aQ_premises aQ_counts aQ_hitOf aQ_hitOne aQ_hitTwo aQ_hitTerms aQ_image aQ_bound aQ_waits aQ_waitsFor aQ_seen aQ_goals aQ_steps aQ_looked aQ_under aQ_taken aQ_news aQ_order aQ_there aQ_back Q_thrown Q_all Q_statements Q_hitKind Q_hits Q_tries Q_takenAll Q_takenFirst Q_kinds Q_which Q_firsts Q_seconds Q_thirds Q_variables Q_holes Q_places Q_conclusions Q_premises Q_counts Q_hitOf Q_hitOne Q_hitTwo Q_hitTerms Q_image Q_bound Q_waits Q_waitsFor) sz) := by
  refine Met.ofW (cc := b_Q_fit) (maxL := 4) (ret := (some .int)) (by decide) rfl ?_
  intro p e s m args below meth c s₁ B hml hv
  obtain ⟨rfl, rfl, hP, hK, hD0⟩ := hv
  have hx := B.exec
  have hb := B.bytes
  have hr := B.returns
  have hts : ∀ w ∈ BG, w.before _ s = true := fun w h => atoms_spec (ws := (ws_Q_fit)) B.pre w (List.mem_cons_of_mem _ h)
  have hown : s.vm.findClass RR_Q = some m.cls := findClass_of_methodNamed B.named
  have hlocks := B.notSynchronized
  have hD := hD0.self (sz := s.heap.size)
  have hA : ∀ q : Nat, s.heap.size ≤ q → va_A (wv_54 cI cJ cZ aQ aQ_kinds aQ_which aQ_firsts aQ_seconds aQ_thirds aQ_nexts aQ_heads aQ_names aQ_variables aQ_holes aQ_sizes aQ_places aQ_conclusions aQ_premises aQ_counts aQ_hitOf aQ_hitOne aQ_hitTwo aQ_hitTerms aQ_image aQ_bound aQ_waits aQ_waitsFor aQ_seen aQ_goals aQ_steps aQ_looked aQ_under aQ_taken aQ_news aQ_order aQ_there aQ_back Q_thrown Q_all Q_statements Q_hitKind Q_hits Q_tries Q_takenAll Q_takenFirst Q_kinds Q_which Q_firsts Q_seconds Q_thirds Q_variables Q_holes Q_places Q_conclusions Q_premises Q_counts Q_hitOf Q_hitOne Q_hitTwo Q_hitTerms Q_image Q_bound Q_waits Q_waitsFor) s.heap.size q := fun q h => Or.inr h
  have hS : va_S (va_A (wv_54 cI cJ cZ aQ aQ_kinds aQ_which aQ_firsts aQ_seconds aQ_thirds aQ_nexts aQ_heads aQ_names aQ_variables aQ_holes aQ_sizes aQ_places aQ_conclusions aQ_premises aQ_counts aQ_hitOf aQ_hitOne aQ_hitTwo aQ_hitTerms aQ_image aQ_bound aQ_waits aQ_waitsFor aQ_seen aQ_goals aQ_steps aQ_looked aQ_under aQ_taken aQ_news aQ_order aQ_there aQ_back Q_thrown Q_all Q_statements Q_hitKind Q_hits Q_tries Q_takenAll Q_takenFirst Q_kinds Q_which Q_firsts Q_seconds Q_thirds Q_variables Q_holes Q_places Q_conclusions Q_premises Q_counts Q_hitOf Q_hitOne Q_hitTwo Q_hitTerms Q_image Q_bound Q_waits Q_waitsFor) s.heap.size) s.heap s.heap [] := va_S.rf
  generalize va_A (wv_54 cI cJ cZ aQ aQ_kinds aQ_which aQ_firsts aQ_seconds aQ_thirds aQ_nexts aQ_heads aQ_names aQ_variables aQ_holes aQ_sizes aQ_places aQ_conclusions aQ_premises aQ_counts aQ_hitOf aQ_hitOne aQ_hitTwo aQ_hitTerms aQ_image aQ_bound aQ_waits aQ_waitsFor aQ_seen aQ_goals aQ_steps aQ_looked aQ_under aQ_taken aQ_news aQ_order aQ_there aQ_back Q_thrown Q_all Q_statements Q_hitKind Q_hits Q_tries Q_takenAll Q_takenFirst Q_kinds Q_which Q_firsts Q_seconds Q_thirds Q_variables Q_holes Q_places Q_conclusions Q_premises Q_counts Q_hitOf Q_hitOne Q_hitTwo Q_hitTerms Q_image Q_bound Q_waits Q_waitsFor) s.heap.size = A at hD hA hS ⊢
  have hl := lv_entry ([.ref aQ, .int p0]) (n := 4) (Nat.le_of_ble_eq_true rfl)
  rw [lg_entry_eq]
  generalize (lg_sl ([.ref aQ, .int p0]) ++ List.replicate (4 - (lg_sl ([.ref aQ, .int p0])).length) Slot.unset).toArray = ls at hl ⊢
  have hl : lv_has ls 4 [(0, .ref aQ), (1, .int p0)] := hl
  have hL26 : ∀ (n26 : Nat), ∀ (Q_thrown_26 : Int32) (Q_hitKind_26 : Int32) (Q_hits_26 : Int32) (Q_hitOf_26 : (Nat → Int32)) (Q_hitOne_26 : (Nat → Int32)) (Q_hitTwo_26 : (Nat → Int32)) (Q_hitTerms_26 : (Nat → Int32)) (Q_image_26 : (Nat → Int32)) (Q_bound_26 : (Nat → Int32)) (Q_waits_26 : (Nat → Int32)) (Q_waitsFor_26 : (Nat → Int32)) (x1_26 : Int32) (x2_26 : Int32), ∀ (H : Heap) (locs : List Loc), va_P D vwCl (wv_54 cI cJ cZ aQ aQ_kinds aQ_which aQ_firsts aQ_seconds aQ_thirds aQ_nexts aQ_heads aQ_names aQ_variables aQ_holes aQ_sizes aQ_places aQ_conclusions aQ_premises aQ_counts aQ_hitOf aQ_hitOne aQ_hitTwo aQ_hitTerms aQ_image aQ_bound aQ_waits aQ_waitsFor aQ_seen aQ_goals aQ_steps aQ_looked aQ_under aQ_taken aQ_news aQ_order aQ_there aQ_back Q_thrown_26 Q_all Q_statements Q_hitKind_26 Q_hits_26 Q_tries Q_takenAll Q_takenFirst Q_kinds Q_which Q_firsts Q_seconds Q_thirds Q_variables Q_holes Q_places Q_conclusions Q_premises Q_counts Q_hitOf_26 Q_hitOne_26 Q_hitTwo_26 Q_hitTerms_26 Q_image_26 Q_bound_26 Q_waits_26 Q_waitsFor_26) H → va_D A (wv_54 cI cJ cZ aQ aQ_kinds aQ_which aQ_firsts aQ_seconds aQ_thirds aQ_nexts aQ_heads aQ_names aQ_variables aQ_holes aQ_sizes aQ_places aQ_conclusions aQ_premises aQ_counts aQ_hitOf aQ_hitOne aQ_hitTwo aQ_hitTerms aQ_image aQ_bound aQ_waits aQ_waitsFor aQ_seen aQ_goals aQ_steps aQ_looked aQ_under aQ_taken aQ_news aQ_order aQ_there aQ_back Q_thrown_26 Q_all Q_statements Q_hitKind_26 Q_hits_26 Q_tries Q_takenAll Q_takenFirst Q_kinds Q_which Q_firsts Q_seconds Q_thirds Q_variables Q_holes Q_places Q_conclusions Q_premises Q_counts Q_hitOf_26 Q_hitOne_26 Q_hitTwo_26 Q_hitTerms_26 Q_image_26 Q_bound_26 Q_waits_26 Q_waitsFor_26) → va_S A s.heap H locs → ∀ (ls : Array Slot), lv_has ls 4 [(0, .ref aQ), (1, .int x1_26), (2, .int x2_26)] → f_Q_fit_L26 Q_all Q_statements Q_kinds Q_which Q_firsts Q_seconds Q_thirds Q_variables Q_holes Q_places Q_conclusions Q_premises Q_counts n26 Q_thrown_26 Q_hitKind_26 Q_hits_26 Q_hitOf_26 Q_hitOne_26 Q_hitTwo_26 Q_hitTerms_26 Q_image_26 Q_bound_26 Q_waits_26 Q_waitsFor_26 x1_26 x2_26 = some o → W p l e (headSpec (ws_Q_fit) rm_Q_fit).room s m ([.ref aQ, .int p0] : List Value).toArray below meth c H locs 0 0 (MQ below (WQ D vwCl (some (.int o.1)) (wv_54 cI cJ cZ aQ aQ_kinds aQ_which aQ_firsts aQ_seconds aQ_thirds aQ_nexts aQ_heads aQ_names aQ_variables aQ_holes aQ_sizes aQ_places aQ_conclusions aQ_premises aQ_counts aQ_hitOf aQ_hitOne aQ_hitTwo aQ_hitTerms aQ_image aQ_bound aQ_waits aQ_waitsFor aQ_seen aQ_goals aQ_steps aQ_looked aQ_under aQ_taken aQ_news aQ_order aQ_there aQ_back o.2.1 Q_all Q_statements o.2.2.1 o.2.2.2.1 Q_tries Q_takenAll Q_takenFirst Q_kinds Q_which Q_firsts Q_seconds Q_thirds Q_variables Q_holes Q_places Q_conclusions Q_premises Q_counts o.2.2.2.2.1 o.2.2.2.2.2.1 o.2.2.2.2.2.2.1 o.2.2.2.2.2.2.2.1 o.2.2.2.2.2.2.2.2.1 o.2.2.2.2.2.2.2.2.2.1 o.2.2.2.2.2.2.2.2.2.2.1 o.2.2.2.2.2.2.2.2.2.2.2) A) ([.ref aQ, .int p0] : List Value).toArray s 0 0 A) (F0 m 26 ls []) := by
    intro n26
    induction n26 with
    | zero =>
      intro Q_thrown_26 Q_hitKind_26 Q_hits_26 Q_hitOf_26 Q_hitOne_26 Q_hitTwo_26 Q_hitTerms_26 Q_image_26 Q_bound_26 Q_waits_26 Q_waitsFor_26 x1_26 x2_26 H locs hP hD hS ls hl hf
      rw [f_Q_fit_L26] at hf
      cases hf
    | succ n26 ih26 =>
      have hL33 : ∀ (n33 : Nat), ∀ (Q_thrown_33 : Int32) (Q_hitKind_33 : Int32) (Q_hits_33 : Int32) (Q_hitOf_33 : (Nat → Int32)) (Q_hitOne_33 : (Nat → Int32)) (Q_hitTwo_33 : (Nat → Int32)) (Q_hitTerms_33 : (Nat → Int32)) (Q_image_33 : (Nat → Int32)) (Q_bound_33 : (Nat → Int32)) (Q_waits_33 : (Nat → Int32)) (Q_waitsFor_33 : (Nat → Int32)) (x1_33 : Int32) (x2_33 : Int32) (x3_33 : Int32), ∀ (H : Heap) (locs : List Loc), va_P D vwCl (wv_54 cI cJ cZ aQ aQ_kinds aQ_which aQ_firsts aQ_seconds aQ_thirds aQ_nexts aQ_heads aQ_names aQ_variables aQ_holes aQ_sizes aQ_places aQ_conclusions aQ_premises aQ_counts aQ_hitOf aQ_hitOne aQ_hitTwo aQ_hitTerms aQ_image aQ_bound aQ_waits aQ_waitsFor aQ_seen aQ_goals aQ_steps aQ_looked aQ_under aQ_taken aQ_news aQ_order aQ_there aQ_back Q_thrown_33 Q_all Q_statements Q_hitKind_33 Q_hits_33 Q_tries Q_takenAll Q_takenFirst Q_kinds Q_which Q_firsts Q_seconds Q_thirds Q_variables Q_holes Q_places Q_conclusions Q_premises Q_counts Q_hitOf_33 Q_hitOne_33 Q_hitTwo_33 Q_hitTerms_33 Q_image_33 Q_bound_33 Q_waits_33 Q_waitsFor_33) H → va_D A (wv_54 cI cJ cZ aQ aQ_kinds aQ_which aQ_firsts aQ_seconds aQ_thirds aQ_nexts aQ_heads aQ_names aQ_variables aQ_holes aQ_sizes aQ_places aQ_conclusions aQ_premises aQ_counts aQ_hitOf aQ_hitOne aQ_hitTwo aQ_hitTerms aQ_image aQ_bound aQ_waits aQ_waitsFor aQ_seen aQ_goals aQ_steps aQ_looked aQ_under aQ_taken aQ_news aQ_order aQ_there aQ_back Q_thrown_33 Q_all Q_statements Q_hitKind_33 Q_hits_33 Q_tries Q_takenAll Q_takenFirst Q_kinds Q_which Q_firsts Q_seconds Q_thirds Q_variables Q_holes Q_places Q_conclusions Q_premises Q_counts Q_hitOf_33 Q_hitOne_33 Q_hitTwo_33 Q_hitTerms_33 Q_image_33 Q_bound_33 Q_waits_33 Q_waitsFor_33) → va_S A s.heap H locs → ∀ (ls : Array Slot), lv_has ls 4 [(0, .ref aQ), (1, .int x1_33), (2, .int x2_33), (3, .int x3_33)] → f_Q_fit_L33 Q_all Q_statements Q_kinds Q_which Q_firsts Q_seconds Q_thirds Q_variables Q_holes Q_places Q_conclusions Q_premises Q_counts (f_Q_fit_L26 Q_all Q_statements Q_kinds Q_which Q_firsts Q_seconds Q_thirds Q_variables Q_holes Q_places Q_conclusions Q_premises Q_counts n26) n33 Q_thrown_33 Q_hitKind_33 Q_hits_33 Q_hitOf_33 Q_hitOne_33 Q_hitTwo_33 Q_hitTerms_33 Q_image_33 Q_bound_33 Q_waits_33 Q_waitsFor_33 x1_33 x2_33 x3_33 = some o → W p l e (headSpec (ws_Q_fit) rm_Q_fit).room s m ([.ref aQ, .int p0] : List Value).toArray below meth c H locs 0 0 (MQ below (WQ D vwCl (some (.int o.1)) (wv_54 cI cJ cZ aQ aQ_kinds aQ_which aQ_firsts aQ_seconds aQ_thirds aQ_nexts aQ_heads aQ_names aQ_variables aQ_holes aQ_sizes aQ_places aQ_conclusions aQ_premises aQ_counts aQ_hitOf aQ_hitOne aQ_hitTwo aQ_hitTerms aQ_image aQ_bound aQ_waits aQ_waitsFor aQ_seen aQ_goals aQ_steps aQ_looked aQ_under aQ_taken aQ_news aQ_order aQ_there aQ_back o.2.1 Q_all Q_statements o.2.2.1 o.2.2.2.1 Q_tries Q_takenAll Q_takenFirst Q_kinds Q_which Q_firsts Q_seconds Q_thirds Q_variables Q_holes Q_places Q_conclusions Q_premises Q_counts o.2.2.2.2.1 o.2.2.2.2.2.1 o.2.2.2.2.2.2.1 o.2.2.2.2.2.2.2.1 o.2.2.2.2.2.2.2.2.1 o.2.2.2.2.2.2.2.2.2.1 o.2.2.2.2.2.2.2.2.2.2.1 o.2.2.2.2.2.2.2.2.2.2.2) A) ([.ref aQ, .int p0] : List Value).toArray s 0 0 A) (F0 m 33 ls []) := by
        intro n33
        induction n33 with
        | zero =>
          intro Q_thrown_33 Q_hitKind_33 Q_hits_33 Q_hitOf_33 Q_hitOne_33 Q_hitTwo_33 Q_hitTerms_33 Q_image_33 Q_bound_33 Q_waits_33 Q_waitsFor_33 x1_33 x2_33 x3_33 H locs hP hD hS ls hl hf
          rw [f_Q_fit_L33] at hf
          cases hf
        | succ n33 ih33 =>
          intro Q_thrown_33 Q_hitKind_33 Q_hits_33 Q_hitOf_33 Q_hitOne_33 Q_hitTwo_33 Q_hitTerms_33 Q_image_33 Q_bound_33 Q_waits_33 Q_waitsFor_33 x1_33 x2_33 x3_33 H locs hP hD hS ls hl hf
          rw [f_Q_fit_L33] at hf
          refine lv_iload_n hx hb d_Q_fit_33 rfl (lv_at hl 3 rfl) ?_
          refine lv_aload_n hx hb d_Q_fit_34 rfl (lv_at hl 0 rfl) ?_
          refine va_get (D := D) (ci := 7) (v := .int Q_statements) (C := RR_Q) (T := FF_Q) (N := 41) hx hb hts kin_Q hown hK.1 hP 0 rfl rfl 17 (by decide) (hts _ k4_84) (fun _ h9 => h9) rfl d_Q_fit_35 ?_
          refine lv_icmp_ge (tgt := 86) hx hb d_Q_fit_38 (by decide) (fun c5 => ?_) (fun c5 => ?_)
          · have hf := ite_t c5 hf
            obtain ⟨x6, ex6⟩ : ∃ y : Int32, y = x2_33 + (1 : Int32) := ⟨_, rfl⟩
            refine lv_iinc (v := x6) (lv' := [(2, .int x6), (0, .ref aQ), (1, .int x1_33), (3, .int x3_33)]) hx hb d_Q_fit_86 hl (k := 2) rfl (by rw [ex6]; rfl) (by decide) rfl (fun ls hl => ?_)
            have hf := of_nm ex6 hf
            refine lv_goto (tgt := 26) hx hb d_Q_fit_89 (by decide) ?_
            exact ih26 _ _ _ _ _ _ _ _ _ _ _ _ _ _ _ hP hD hS _ (lv_sub hl [1, 2, 0] rfl) hf
          · have hf := ite_f c5 hf
            refine lv_aload_n hx hb d_Q_fit_41 rfl (lv_at hl 0 rfl) ?_
            refine va_get (D := D) (ci := 7) (v := .ref aQ_counts) (C := RR_Q) (T := FF_Q) (N := 41) hx hb hts kin_Q hown hK.1 hP 0 rfl rfl 16 (by decide) (hts _ k4_83) (fun _ h9 => h9) rfl d_Q_fit_42 ?_
            refine lv_iload_n hx hb d_Q_fit_45 rfl (lv_at hl 3 rfl) ?_
            obtain ⟨h7, hf⟩ := of_gd hf
            refine va_iald hx hb hK.1 hP 11 0 rfl rfl (ixb_in h7) d_Q_fit_46 ?_
            refine lv_iload_n hx hb d_Q_fit_47 rfl (lv_at hl 2 rfl) ?_
            refine lv_icmp_ne (tgt := 80) hx hb d_Q_fit_48 (by decide) (fun c8 => ?_) (fun c8 => ?_)
            · have hf := ite_f c8 hf
              obtain ⟨x9, ex9⟩ : ∃ y : Int32, y = x3_33 + (1 : Int32) := ⟨_, rfl⟩
              refine lv_iinc (v := x9) (lv' := [(3, .int x9), (0, .ref aQ), (1, .int x1_33), (2, .int x2_33)]) hx hb d_Q_fit_80 hl (k := 3) rfl (by rw [ex9]; rfl) (by decide) rfl (fun ls hl => ?_)
              have hf := of_nm ex9 hf
              refine lv_goto (tgt := 33) hx hb d_Q_fit_83 (by decide) ?_
              exact ih33 _ _ _ _ _ _ _ _ _ _ _ _ _ _ _ _ hP hD hS _ (lv_sub hl [1, 2, 3, 0] rfl) hf
            · have hf := ite_t c8 hf
              refine lv_aload_n hx hb d_Q_fit_51 rfl (lv_at hl 0 rfl) ?_
              refine lv_aload_n hx hb d_Q_fit_52 rfl (lv_at hl 0 rfl) ?_
              refine va_get (D := D) (ci := 7) (v := .ref aQ_conclusions) (C := RR_Q) (T := FF_Q) (N := 41) hx hb hts kin_Q hown hK.1 hP 0 rfl rfl 14 (by decide) (hts _ k4_81) (fun _ h9 => h9) rfl d_Q_fit_53 ?_
              refine lv_iload_n hx hb d_Q_fit_56 rfl (lv_at hl 3 rfl) ?_
              obtain ⟨h10, hf⟩ := of_gd hf
              refine va_iald hx hb hK.1 hP 9 0 rfl rfl (ixb_in h10) d_Q_fit_57 ?_
              refine lv_iload_n hx hb d_Q_fit_58 rfl (lv_at hl 1 rfl) ?_
              refine lv_iconst (v := 0) hx hb d_Q_fit_59 (by decide) ?_
              obtain ⟨r11, hr11, hf⟩ := of_bd hf
              refine wr_call (ws' := (wv_54 cI cJ cZ aQ aQ_kinds aQ_which aQ_firsts aQ_seconds aQ_thirds aQ_nexts aQ_heads aQ_names aQ_variables aQ_holes aQ_sizes aQ_places aQ_conclusions aQ_premises aQ_counts aQ_hitOf aQ_hitOne aQ_hitTwo aQ_hitTerms aQ_image aQ_bound aQ_waits aQ_waitsFor aQ_seen aQ_goals aQ_steps aQ_looked aQ_under aQ_taken aQ_news aQ_order aQ_there aQ_back Q_thrown_33 Q_all Q_statements Q_hitKind_33 Q_hits_33 Q_tries Q_takenAll Q_takenFirst Q_kinds Q_which Q_firsts Q_seconds Q_thirds Q_variables Q_holes Q_places Q_conclusions Q_premises Q_counts Q_hitOf_33 Q_hitOne_33 Q_hitTwo_33 Q_hitTerms_33 r11.2.1 r11.2.2.1 r11.2.2.2.1 r11.2.2.2.2)) (va_runV (As := [.int (Q_conclusions x3_33.toNatClampNeg), .int x1_33, .int (0 : Int32)]) (rest := []) ⟨hx, hb, hml, hown, hts⟩ (c_Q_matches l D cI cJ cZ aQ aQ_kinds aQ_which aQ_firsts aQ_seconds aQ_thirds aQ_nexts aQ_heads aQ_names aQ_variables aQ_holes aQ_sizes aQ_places aQ_conclusions aQ_premises aQ_counts aQ_hitOf aQ_hitOne aQ_hitTwo aQ_hitTerms aQ_image aQ_bound aQ_waits aQ_waitsFor aQ_seen aQ_goals aQ_steps aQ_looked aQ_under aQ_taken aQ_news aQ_order aQ_there aQ_back _ Q_thrown_33 Q_all Q_statements Q_hitKind_33 Q_hits_33 Q_tries Q_takenAll Q_takenFirst Q_kinds Q_which Q_firsts Q_seconds Q_thirds Q_variables Q_holes Q_places Q_image_33 Q_bound_33 Q_waits_33 Q_waitsFor_33 (Q_conclusions x3_33.toNatClampNeg) x1_33 (0 : Int32) r11 hr11) (bigV 3 hts k5_11 k5_13 ks_Q_matches k1_9 k5_14 rfl rfl hd_Q_matches ⟨Nat.le_of_ble_eq_true rfl, Nat.le_of_ble_eq_true rfl⟩) (wr_preV hK hP hD [0, 1, 2, 3, 4, 5, 6, 7, 8, 16, 17, 18, 19] rfl (by decide) rfl 0 rfl rfl rfl) rfl rfl hl.1 rfl (lv_room (Nat.le_of_ble_eq_true rfl)) d_Q_fit_60 ⟨Nat.le_of_ble_eq_true rfl, Nat.le_of_ble_eq_true rfl⟩) hP hD hS hA [0, 1, 2, 3, 4, 5, 6, 7, 8, 16, 17, 18, 19] [9, 10, 11, 12, 13, 14, 15] rfl rfl (by decide) (by decide) [7, 8, 9, 10, 11, 12, 13, 14, 15, 0, 1, 2, 3, 4, 5, 6, 16, 17, 18, 19] (by decide) rfl (fun H locs hP hD hS => ?_)
              refine lv_if_eq (tgt := 80) hx hb d_Q_fit_63 (by decide) (fun c12 => ?_) (fun c12 => ?_)
              · have hf := ite_t c12 hf
                obtain ⟨x13, ex13⟩ : ∃ y : Int32, y = x3_33 + (1 : Int32) := ⟨_, rfl⟩
                refine lv_iinc (v := x13) (lv' := [(3, .int x13), (0, .ref aQ), (1, .int x1_33), (2, .int x2_33)]) hx hb d_Q_fit_80 hl (k := 3) rfl (by rw [ex13]; rfl) (by decide) rfl (fun ls hl => ?_)
                have hf := of_nm ex13 hf
                refine lv_goto (tgt := 33) hx hb d_Q_fit_83 (by decide) ?_
                exact ih33 _ _ _ _ _ _ _ _ _ _ _ _ _ _ _ _ hP hD hS _ (lv_sub hl [1, 2, 3, 0] rfl) hf
              · have hf := ite_f c12 hf
                refine lv_aload_n hx hb d_Q_fit_66 rfl (lv_at hl 0 rfl) ?_
                refine lv_iload_n hx hb d_Q_fit_67 rfl (lv_at hl 3 rfl) ?_
                refine lv_aload_n hx hb d_Q_fit_68 rfl (lv_at hl 0 rfl) ?_
                refine lv_iload_n hx hb d_Q_fit_69 rfl (lv_at hl 3 rfl) ?_
                obtain ⟨r14, hr14, hf⟩ := of_bd hf
                refine rd_call (va_runV (As := [.int x3_33]) (rest := [.int x3_33, .ref aQ]) ⟨hx, hb, hml, hown, hts⟩ (c_Q_open l D cI cJ cZ aQ aQ_kinds aQ_which aQ_firsts aQ_seconds aQ_thirds aQ_nexts aQ_heads aQ_names aQ_variables aQ_holes aQ_sizes aQ_places aQ_conclusions aQ_premises aQ_counts aQ_hitOf aQ_hitOne aQ_hitTwo aQ_hitTerms aQ_image aQ_bound aQ_waits aQ_waitsFor aQ_seen aQ_goals aQ_steps aQ_looked aQ_under aQ_taken aQ_news aQ_order aQ_there aQ_back Q_thrown_33 Q_all Q_statements Q_hitKind_33 Q_hits_33 Q_tries Q_takenAll Q_takenFirst Q_variables Q_conclusions Q_premises Q_counts x3_33 r14 hr14) (bigV 1 hts k5_31 k5_33 ks_Q_open k1_9 k5_34 rfl rfl hd_Q_open ⟨Nat.le_of_ble_eq_true rfl, Nat.le_of_ble_eq_true rfl⟩) (rd_preV hK hP [0, 6, 9, 10, 11] rfl 0 rfl rfl rfl) rfl rfl hl.1 rfl (lv_room (Nat.le_of_ble_eq_true rfl)) d_Q_fit_70 ⟨Nat.le_of_ble_eq_true rfl, Nat.le_of_ble_eq_true rfl⟩) ?_
                obtain ⟨r15, hr15, hf⟩ := of_bd hf
                refine rd_call (va_runS (As := [.int r14]) (rest := [.int x3_33, .ref aQ]) ⟨hx, hb, hml, hown, hts⟩ (c_Q_many l D cI cJ cZ r14 r15 hr15) (bigS 1 hts k5_35 k5_36 k1_9 k5_37 rfl rfl hd_Q_many ⟨Nat.le_of_ble_eq_true rfl, Nat.le_of_ble_eq_true rfl⟩) (rd_preS hK hP [] rfl) rfl rfl hl.1 rfl (lv_room (Nat.le_of_ble_eq_true rfl)) d_Q_fit_73 ⟨Nat.le_of_ble_eq_true rfl, Nat.le_of_ble_eq_true rfl⟩) ?_
                refine lv_iload_n hx hb d_Q_fit_76 rfl (lv_at hl 2 rfl) ?_
                obtain ⟨r16, hr16, hf⟩ := of_bd hf
                refine wr_call (ws' := (wv_54 cI cJ cZ aQ aQ_kinds aQ_which aQ_firsts aQ_seconds aQ_thirds aQ_nexts aQ_heads aQ_names aQ_variables aQ_holes aQ_sizes aQ_places aQ_conclusions aQ_premises aQ_counts aQ_hitOf aQ_hitOne aQ_hitTwo aQ_hitTerms aQ_image aQ_bound aQ_waits aQ_waitsFor aQ_seen aQ_goals aQ_steps aQ_looked aQ_under aQ_taken aQ_news aQ_order aQ_there aQ_back Q_thrown_33 Q_all Q_statements Q_hitKind_33 r16.1 Q_tries Q_takenAll Q_takenFirst Q_kinds Q_which Q_firsts Q_seconds Q_thirds Q_variables Q_holes Q_places Q_conclusions Q_premises Q_counts r16.2.1 r16.2.2.1 r16.2.2.2.1 r16.2.2.2.2 r11.2.1 r11.2.2.1 r11.2.2.2.1 r11.2.2.2.2)) (va_runV (As := [.int x3_33, .int r15, .int x2_33]) (rest := []) ⟨hx, hb, hml, hown, hts⟩ (c_Q_hit_III l D cI cJ cZ aQ aQ_kinds aQ_which aQ_firsts aQ_seconds aQ_thirds aQ_nexts aQ_heads aQ_names aQ_variables aQ_holes aQ_sizes aQ_places aQ_conclusions aQ_premises aQ_counts aQ_hitOf aQ_hitOne aQ_hitTwo aQ_hitTerms aQ_image aQ_bound aQ_waits aQ_waitsFor aQ_seen aQ_goals aQ_steps aQ_looked aQ_under aQ_taken aQ_news aQ_order aQ_there aQ_back _ Q_thrown_33 Q_all Q_statements Q_hitKind_33 Q_hits_33 Q_tries Q_takenAll Q_takenFirst Q_hitOf_33 Q_hitOne_33 Q_hitTwo_33 Q_hitTerms_33 r11.2.2.1 x3_33 r15 x2_33 r16 hr16) (bigV 3 hts k5_19 k5_21 ks_Q_hit_III k1_9 k5_22 rfl rfl hd_Q_hit_III ⟨Nat.le_of_ble_eq_true rfl, Nat.le_of_ble_eq_true rfl⟩) (wr_preV hK hP hD [0, 12, 13, 14, 15, 17] rfl (by decide) rfl 0 rfl rfl rfl) rfl rfl hl.1 rfl (lv_room (Nat.le_of_ble_eq_true rfl)) d_Q_fit_77 ⟨Nat.le_of_ble_eq_true rfl, Nat.le_of_ble_eq_true rfl⟩) hP hD hS hA [0, 12, 13, 14, 15, 17] [1, 2, 3, 4, 5, 6, 7, 8, 9, 10, 11, 16, 18, 19] rfl rfl (by decide) (by decide) [14, 0, 1, 2, 3, 4, 5, 6, 7, 8, 9, 10, 15, 16, 17, 18, 11, 19, 12, 13] (by decide) rfl (fun H locs hP hD hS => ?_)
                obtain ⟨x17, ex17⟩ : ∃ y : Int32, y = x3_33 + (1 : Int32) := ⟨_, rfl⟩
                refine lv_iinc (v := x17) (lv' := [(3, .int x17), (0, .ref aQ), (1, .int x1_33), (2, .int x2_33)]) hx hb d_Q_fit_80 hl (k := 3) rfl (by rw [ex17]; rfl) (by decide) rfl (fun ls hl => ?_)
                have hf := of_nm ex17 hf
                refine lv_goto (tgt := 33) hx hb d_Q_fit_83 (by decide) ?_
                exact ih33 _ _ _ _ _ _ _ _ _ _ _ _ _ _ _ _ hP hD hS _ (lv_sub hl [1, 2, 3, 0] rfl) hf
      intro Q_thrown_26 Q_hitKind_26 Q_hits_26 Q_hitOf_26 Q_hitOne_26 Q_hitTwo_26 Q_hitTerms_26 Q_image_26 Q_bound_26 Q_waits_26 Q_waitsFor_26 x1_26 x2_26 H locs hP hD hS ls hl hf
      rw [f_Q_fit_L26] at hf
      refine lv_iload_n hx hb d_Q_fit_26 rfl (lv_at hl 2 rfl) ?_
      refine lv_iconst (v := 4) hx hb d_Q_fit_27 (by decide) ?_
      refine lv_icmp_gt (tgt := 92) hx hb d_Q_fit_28 (by decide) (fun c4 => ?_) (fun c4 => ?_)
      · have hf := ite_t c4 hf
        refine lv_aload_n hx hb d_Q_fit_92 rfl (lv_at hl 0 rfl) ?_
        refine va_get (D := D) (ci := 7) (v := .int Q_hits_26) (C := RR_Q) (T := FF_Q) (N := 41) hx hb hts kin_Q hown hK.1 hP 0 rfl rfl 19 (by decide) (hts _ k4_86) (fun _ h9 => h9) rfl d_Q_fit_93 ?_
        obtain rfl := Option.some.inj hf
        exact W.iret (v := Q_hits_26) hx hb hr (fun t ht hW => ⟨rfl, by rw [ht]; exact hP, hD, hS.F ht⟩) hS.2.2 d_Q_fit_96
      · have hf := ite_f c4 hf
        refine lv_iconst (v := 0) hx hb d_Q_fit_31 (by decide) ?_
        refine lv_istore_n (lv' := [(3, .int (0 : Int32)), (0, .ref aQ), (1, .int x1_26), (2, .int x2_26)]) hx hb d_Q_fit_32 rfl hl (by decide) rfl (fun ls hl => ?_)
        exact hL33 FU _ _ _ _ _ _ _ _ _ _ _ _ _ _ _ _ hP hD hS _ (lv_sub hl [1, 2, 3, 0] rfl) hf
  rw [f_Q_fit] at hf
  refine lv_aload_n hx hb d_Q_fit_0 rfl (lv_at hl 0 rfl) ?_
  refine lv_aload_n hx hb d_Q_fit_1 rfl (lv_at hl 0 rfl) ?_
  refine lv_iload_n hx hb d_Q_fit_2 rfl (lv_at hl 1 rfl) ?_
  obtain ⟨r1, hr1, hf⟩ := of_bd hf
  refine rd_call (va_runV (As := [.int p0]) (rest := [.ref aQ]) ⟨hx, hb, hml, hown, hts⟩ (c_Q_wrongGoal l D cI cJ cZ aQ aQ_kinds aQ_which aQ_firsts aQ_seconds aQ_thirds aQ_nexts aQ_heads aQ_names aQ_variables aQ_holes aQ_sizes aQ_places aQ_conclusions aQ_premises aQ_counts aQ_hitOf aQ_hitOne aQ_hitTwo aQ_hitTerms aQ_image aQ_bound aQ_waits aQ_waitsFor aQ_seen aQ_goals aQ_steps aQ_looked aQ_under aQ_taken aQ_news aQ_order aQ_there aQ_back Q_thrown Q_all Q_statements Q_hitKind Q_hits Q_tries Q_takenAll Q_takenFirst Q_holes p0 r1 hr1) (bigV 1 hts k5_27 k5_29 ks_Q_wrongGoal k1_9 k5_30 rfl rfl hd_Q_wrongGoal ⟨Nat.le_of_ble_eq_true rfl, Nat.le_of_ble_eq_true rfl⟩) (rd_preV hK hP [0, 7] rfl 0 rfl rfl rfl) rfl rfl hl.1 rfl (lv_room (Nat.le_of_ble_eq_true rfl)) d_Q_fit_3 ⟨Nat.le_of_ble_eq_true rfl, Nat.le_of_ble_eq_true rfl⟩) ?_
  obtain ⟨r2, hr2, hf⟩ := of_bd hf
  refine wr_call (ws' := (wv_54 cI cJ cZ aQ aQ_kinds aQ_which aQ_firsts aQ_seconds aQ_thirds aQ_nexts aQ_heads aQ_names aQ_variables aQ_holes aQ_sizes aQ_places aQ_conclusions aQ_premises aQ_counts aQ_hitOf aQ_hitOne aQ_hitTwo aQ_hitTerms aQ_image aQ_bound aQ_waits aQ_waitsFor aQ_seen aQ_goals aQ_steps aQ_looked aQ_under aQ_taken aQ_news aQ_order aQ_there aQ_back r2.2 Q_all Q_statements Q_hitKind Q_hits Q_tries Q_takenAll Q_takenFirst Q_kinds Q_which Q_firsts Q_seconds Q_thirds Q_variables Q_holes Q_places Q_conclusions Q_premises Q_counts Q_hitOf Q_hitOne Q_hitTwo Q_hitTerms Q_image Q_bound Q_waits Q_waitsFor)) (va_runV (As := [.int r1]) (rest := []) ⟨hx, hb, hml, hown, hts⟩ (c_Q_refuses l D cI cJ cZ aQ aQ_kinds aQ_which aQ_firsts aQ_seconds aQ_thirds aQ_nexts aQ_heads aQ_names aQ_variables aQ_holes aQ_sizes aQ_places aQ_conclusions aQ_premises aQ_counts aQ_hitOf aQ_hitOne aQ_hitTwo aQ_hitTerms aQ_image aQ_bound aQ_waits aQ_waitsFor aQ_seen aQ_goals aQ_steps aQ_looked aQ_under aQ_taken aQ_news aQ_order aQ_there aQ_back _ Q_thrown Q_all Q_statements Q_hitKind Q_hits Q_tries Q_takenAll Q_takenFirst r1 r2 hr2) (bigV 1 hts k4_203 k4_205 ks_Q_refuses k1_9 k4_206 rfl rfl hd_Q_refuses ⟨Nat.le_of_ble_eq_true rfl, Nat.le_of_ble_eq_true rfl⟩) (wr_preV hK hP hD [0] rfl (by decide) rfl 0 rfl rfl rfl) rfl rfl hl.1 rfl (lv_room (Nat.le_of_ble_eq_true rfl)) d_Q_fit_6 ⟨Nat.le_of_ble_eq_true rfl, Nat.le_of_ble_eq_true rfl⟩) hP hD hS hA [0] [1, 2, 3, 4, 5, 6, 7, 8, 9, 10, 11, 12, 13, 14, 15, 16, 17, 18, 19] rfl rfl (by decide) (by decide) [19, 0, 1, 2, 3, 4, 5, 6, 7, 8, 9, 10, 11, 12, 13, 14, 15, 16, 17, 18] (by decide) rfl (fun H locs hP hD hS => ?_)
  refine lv_if_eq (tgt := 14) hx hb d_Q_fit_9 (by decide) (fun c3 => ?_) (fun c3 => ?_)
  · have hf := ite_t c3 hf
    refine lv_aload_n hx hb d_Q_fit_14 rfl (lv_at hl 0 rfl) ?_
    refine lv_iconst (v := 2) hx hb d_Q_fit_15 (by decide) ?_
    refine va_put (D := D) (ci := 7) (v := .int (2 : Int32)) (ty := .int) (C := RR_Q) (T := FF_Q) (N := 41) hx hb hts kin_Q TT_Q tok_Q nok_Q hown hK.1 hP hD hS 0 rfl rfl 18 (by decide) (hts _ k4_85) (fun _ h9 => h9) rfl (by decide +kernel) rfl rfl (Nat.le_of_ble_eq_true rfl) d_Q_fit_16 (fun H locs hP hD hS => ?_)
    have hP : va_P D vwCl (wv_54 cI cJ cZ aQ aQ_kinds aQ_which aQ_firsts aQ_seconds aQ_thirds aQ_nexts aQ_heads aQ_names aQ_variables aQ_holes aQ_sizes aQ_places aQ_conclusions aQ_premises aQ_counts aQ_hitOf aQ_hitOne aQ_hitTwo aQ_hitTerms aQ_image aQ_bound aQ_waits aQ_waitsFor aQ_seen aQ_goals aQ_steps aQ_looked aQ_under aQ_taken aQ_news aQ_order aQ_there aQ_back r2.2 Q_all Q_statements (2 : Int32) Q_hits Q_tries Q_takenAll Q_takenFirst Q_kinds Q_which Q_firsts Q_seconds Q_thirds Q_variables Q_holes Q_places Q_conclusions Q_premises Q_counts Q_hitOf Q_hitOne Q_hitTwo Q_hitTerms Q_image Q_bound Q_waits Q_waitsFor) H := hP
    have hD : va_D A (wv_54 cI cJ cZ aQ aQ_kinds aQ_which aQ_firsts aQ_seconds aQ_thirds aQ_nexts aQ_heads aQ_names aQ_variables aQ_holes aQ_sizes aQ_places aQ_conclusions aQ_premises aQ_counts aQ_hitOf aQ_hitOne aQ_hitTwo aQ_hitTerms aQ_image aQ_bound aQ_waits aQ_waitsFor aQ_seen aQ_goals aQ_steps aQ_looked aQ_under aQ_taken aQ_news aQ_order aQ_there aQ_back r2.2 Q_all Q_statements (2 : Int32) Q_hits Q_tries Q_takenAll Q_takenFirst Q_kinds Q_which Q_firsts Q_seconds Q_thirds Q_variables Q_holes Q_places Q_conclusions Q_premises Q_counts Q_hitOf Q_hitOne Q_hitTwo Q_hitTerms Q_image Q_bound Q_waits Q_waitsFor) := hD
    refine lv_aload_n hx hb d_Q_fit_19 rfl (lv_at hl 0 rfl) ?_
    refine lv_iconst (v := 0) hx hb d_Q_fit_20 (by decide) ?_
    refine va_put (D := D) (ci := 7) (v := .int (0 : Int32)) (ty := .int) (C := RR_Q) (T := FF_Q) (N := 41) hx hb hts kin_Q TT_Q tok_Q nok_Q hown hK.1 hP hD hS 0 rfl rfl 19 (by decide) (hts _ k4_86) (fun _ h9 => h9) rfl (by decide +kernel) rfl rfl (Nat.le_of_ble_eq_true rfl) d_Q_fit_21 (fun H locs hP hD hS => ?_)
    have hP : va_P D vwCl (wv_54 cI cJ cZ aQ aQ_kinds aQ_which aQ_firsts aQ_seconds aQ_thirds aQ_nexts aQ_heads aQ_names aQ_variables aQ_holes aQ_sizes aQ_places aQ_conclusions aQ_premises aQ_counts aQ_hitOf aQ_hitOne aQ_hitTwo aQ_hitTerms aQ_image aQ_bound aQ_waits aQ_waitsFor aQ_seen aQ_goals aQ_steps aQ_looked aQ_under aQ_taken aQ_news aQ_order aQ_there aQ_back r2.2 Q_all Q_statements (2 : Int32) (0 : Int32) Q_tries Q_takenAll Q_takenFirst Q_kinds Q_which Q_firsts Q_seconds Q_thirds Q_variables Q_holes Q_places Q_conclusions Q_premises Q_counts Q_hitOf Q_hitOne Q_hitTwo Q_hitTerms Q_image Q_bound Q_waits Q_waitsFor) H := hP
    have hD : va_D A (wv_54 cI cJ cZ aQ aQ_kinds aQ_which aQ_firsts aQ_seconds aQ_thirds aQ_nexts aQ_heads aQ_names aQ_variables aQ_holes aQ_sizes aQ_places aQ_conclusions aQ_premises aQ_counts aQ_hitOf aQ_hitOne aQ_hitTwo aQ_hitTerms aQ_image aQ_bound aQ_waits aQ_waitsFor aQ_seen aQ_goals aQ_steps aQ_looked aQ_under aQ_taken aQ_news aQ_order aQ_there aQ_back r2.2 Q_all Q_statements (2 : Int32) (0 : Int32) Q_tries Q_takenAll Q_takenFirst Q_kinds Q_which Q_firsts Q_seconds Q_thirds Q_variables Q_holes Q_places Q_conclusions Q_premises Q_counts Q_hitOf Q_hitOne Q_hitTwo Q_hitTerms Q_image Q_bound Q_waits Q_waitsFor) := hD
    refine lv_iconst (v := 0) hx hb d_Q_fit_24 (by decide) ?_
    refine lv_istore_n (lv' := [(2, .int (0 : Int32)), (0, .ref aQ), (1, .int p0)]) hx hb d_Q_fit_25 rfl hl (by decide) rfl (fun ls hl => ?_)
    exact hL26 FU _ _ _ _ _ _ _ _ _ _ _ _ _ _ _ hP hD hS _ (lv_sub hl [1, 2, 0] rfl) hf
  · have hf := ite_f c3 hf
    refine lv_iconst (v := 0) hx hb d_Q_fit_12 (by decide) ?_
    obtain rfl := Option.some.inj hf
    exact W.iret (v := (0 : Int32)) hx hb hr (fun t ht hW => ⟨rfl, by rw [ht]; exact hP, hD, hS.F ht⟩) hS.2.2 d_Q_fit_13
def f_Q_namesOf_L14 (Q_names : (Nat → Int32)) (Q_conclusions : (Nat → Int32)) (Q_premises : (Nat → Int32)) (Q_counts : (Nat → Int32)) : Nat → Int32 → Int32 → Int32 → Option (Int32)
  | 0, _, _, _ => none
  | n + 1, x1_14, x2_14, x3_14 =>
    gd (ixb x1_14 30) <|
    if (Q_counts x1_14.toNatClampNeg) ≤ x3_14 then
      some x2_14
    else
      (f_Q_premise Q_premises x1_14 x3_14).bind fun r6 =>
      gd (ixb r6 100) <|
      nm (x2_14 ||| (Q_names r6.toNatClampNeg)) fun x8 =>
      nm (x3_14 + (1 : Int32)) fun x9 =>
      (f_Q_namesOf_L14 Q_names Q_conclusions Q_premises Q_counts n) x1_14 x8 x9
def f_Q_namesOf (Q_names : (Nat → Int32)) (Q_conclusions : (Nat → Int32)) (Q_premises : (Nat → Int32)) (Q_counts : (Nat → Int32)) (p0 : Int32) : Option (Int32) :=
  gd (ixb p0 30) <|
  gd (ixb (Q_conclusions p0.toNatClampNeg) 100) <|
  nm (Q_names (Q_conclusions p0.toNatClampNeg).toNatClampNeg) fun x3 =>
  f_Q_namesOf_L14 Q_names Q_conclusions Q_premises Q_counts FU p0 x3 (0 : Int32)
abbrev rm_Q_namesOf : Room := { frames := 1, cells := 0, slots := 0, locals := 22 }
set_option maxHeartbeats 4000000 in
set_option maxRecDepth 100000 in
theorem c_Q_namesOf (l : Launch) (D : va_G) (cI cJ cZ : ClassId) (aQ aQ_kinds aQ_which aQ_firsts aQ_seconds aQ_thirds aQ_nexts aQ_heads aQ_names aQ_variables aQ_holes aQ_sizes aQ_places aQ_conclusions aQ_premises aQ_counts aQ_hitOf aQ_hitOne aQ_hitTwo aQ_hitTerms aQ_image aQ_bound aQ_waits aQ_waitsFor aQ_seen aQ_goals aQ_steps aQ_looked aQ_under aQ_taken aQ_news aQ_order aQ_there aQ_back : Nat) (Q_thrown : Int32) (Q_all : Int32) (Q_statements : Int32) (Q_hitKind : Int32) (Q_hits : Int32) (Q_tries : Int32) (Q_takenAll : Int32) (Q_takenFirst : Int32) (Q_names : (Nat → Int32)) (Q_conclusions : (Nat → Int32)) (Q_premises : (Nat → Int32)) (Q_counts : (Nat → Int32)) (p0 : Int32) (o : Int32) (hf : f_Q_namesOf Q_names Q_conclusions Q_premises Q_counts p0 = some o) : Met l y_Q_namesOf (ws_Q_namesOf) rm_Q_namesOf (RPc D vwCl cI cJ cZ [.ref aQ, .int p0] (wv_55 cI cJ cZ aQ aQ_kinds aQ_which aQ_firsts aQ_seconds aQ_thirds aQ_nexts aQ_heads aQ_names aQ_variables aQ_holes aQ_sizes aQ_places aQ_conclusions aQ_premises aQ_counts aQ_hitOf aQ_hitOne aQ_hitTwo aQ_hitTerms aQ_image aQ_bound aQ_waits aQ_waitsFor aQ_seen aQ_goals aQ_steps aQ_looked aQ_under aQ_taken aQ_news aQ_order aQ_there aQ_back Q_thrown Q_all Q_statements Q_hitKind Q_hits Q_tries Q_takenAll Q_takenFirst Q_names Q_conclusions Q_premises Q_counts)) (RQ (some (.int o))) 0 0 (fun _ => False) := by
  refine Met.ofW (cc := b_Q_namesOf) (maxL := 4) (ret := (some .int)) (by decide) rfl ?_
  intro p e s m args below meth c s₁ B hml hv
  obtain ⟨rfl, hP, hK⟩ := hv
  have hx := B.exec
  have hb := B.bytes
  have hr := B.returns
  have hts : ∀ w ∈ BG, w.before _ s = true := fun w h => atoms_spec (ws := (ws_Q_namesOf)) B.pre w (List.mem_cons_of_mem _ h)
  have hown : s.vm.findClass RR_Q = some m.cls := findClass_of_methodNamed B.named
  have hlocks := B.notSynchronized
  have hl := lv_entry ([.ref aQ, .int p0]) (n := 4) (Nat.le_of_ble_eq_true rfl)
  rw [lg_entry_eq]
  generalize (lg_sl ([.ref aQ, .int p0]) ++ List.replicate (4 - (lg_sl ([.ref aQ, .int p0])).length) Slot.unset).toArray = ls at hl ⊢
  have hl : lv_has ls 4 [(0, .ref aQ), (1, .int p0)] := hl
  have hL14 : ∀ (n14 : Nat), ∀ (x1_14 : Int32) (x2_14 : Int32) (x3_14 : Int32), ∀ (ls : Array Slot), lv_has ls 4 [(0, .ref aQ), (1, .int x1_14), (2, .int x2_14), (3, .int x3_14)] → f_Q_namesOf_L14 Q_names Q_conclusions Q_premises Q_counts n14 x1_14 x2_14 x3_14 = some o → W p l e (headSpec (ws_Q_namesOf) rm_Q_namesOf).room s m ([.ref aQ, .int p0] : List Value).toArray below meth c s.heap [] 0 0 (MQ below (RQ (some (.int o))) ([.ref aQ, .int p0] : List Value).toArray s 0 0 (fun _ => False)) (F0 m 14 ls []) := by
    intro n14
    induction n14 with
    | zero =>
      intro x1_14 x2_14 x3_14 ls hl hf
      rw [f_Q_namesOf_L14] at hf
      cases hf
    | succ n14 ih14 =>
      intro x1_14 x2_14 x3_14 ls hl hf
      rw [f_Q_namesOf_L14] at hf
      refine lv_iload_n hx hb d_Q_namesOf_14 rfl (lv_at hl 3 rfl) ?_
      refine lv_aload_n hx hb d_Q_namesOf_15 rfl (lv_at hl 0 rfl) ?_
      refine va_get (D := D) (ci := 7) (v := .ref aQ_counts) (C := RR_Q) (T := FF_Q) (N := 41) hx hb hts kin_Q hown hK.1 hP 0 rfl rfl 16 (by decide) (hts _ k4_83) (fun _ h9 => h9) rfl d_Q_namesOf_16 ?_
      refine lv_iload_n hx hb d_Q_namesOf_19 rfl (lv_at hl 1 rfl) ?_
      obtain ⟨h4, hf⟩ := of_gd hf
      refine va_iald hx hb hK.1 hP 4 0 rfl rfl (ixb_in h4) d_Q_namesOf_20 ?_
      refine lv_icmp_ge (tgt := 44) hx hb d_Q_namesOf_21 (by decide) (fun c5 => ?_) (fun c5 => ?_)
      · have hf := ite_t c5 hf
        refine lv_iload_n hx hb d_Q_namesOf_44 rfl (lv_at hl 2 rfl) ?_
        obtain rfl := Option.some.inj hf
        exact W.iret (v := x2_14) hx hb hr (fun t ht hW => ⟨rfl, ht⟩) (fun q h => by cases h) d_Q_namesOf_45
      · have hf := ite_f c5 hf
        refine lv_iload_n hx hb d_Q_namesOf_24 rfl (lv_at hl 2 rfl) ?_
        refine lv_aload_n hx hb d_Q_namesOf_25 rfl (lv_at hl 0 rfl) ?_
        refine va_get (D := D) (ci := 7) (v := .ref aQ_names) (C := RR_Q) (T := FF_Q) (N := 41) hx hb hts kin_Q hown hK.1 hP 0 rfl rfl 9 (by decide) (hts _ k4_76) (fun _ h9 => h9) rfl d_Q_namesOf_26 ?_
        refine lv_aload_n hx hb d_Q_namesOf_29 rfl (lv_at hl 0 rfl) ?_
        refine lv_iload_n hx hb d_Q_namesOf_30 rfl (lv_at hl 1 rfl) ?_
        refine lv_iload_n hx hb d_Q_namesOf_31 rfl (lv_at hl 3 rfl) ?_
        obtain ⟨r6, hr6, hf⟩ := of_bd hf
        refine rd_call (va_runV (As := [.int x1_14, .int x3_14]) (rest := [.ref aQ_names, .int x2_14]) ⟨hx, hb, hml, hown, hts⟩ (c_Q_premise l D cI cJ cZ aQ aQ_kinds aQ_which aQ_firsts aQ_seconds aQ_thirds aQ_nexts aQ_heads aQ_names aQ_variables aQ_holes aQ_sizes aQ_places aQ_conclusions aQ_premises aQ_counts aQ_hitOf aQ_hitOne aQ_hitTwo aQ_hitTerms aQ_image aQ_bound aQ_waits aQ_waitsFor aQ_seen aQ_goals aQ_steps aQ_looked aQ_under aQ_taken aQ_news aQ_order aQ_there aQ_back Q_thrown Q_all Q_statements Q_hitKind Q_hits Q_tries Q_takenAll Q_takenFirst Q_premises x1_14 x3_14 r6 hr6) (bigV 2 hts k5_15 k5_17 ks_Q_premise k1_9 k5_18 rfl rfl hd_Q_premise ⟨Nat.le_of_ble_eq_true rfl, Nat.le_of_ble_eq_true rfl⟩) (rd_preV hK hP [0, 3] rfl 0 rfl rfl rfl) rfl rfl hl.1 rfl (lv_room (Nat.le_of_ble_eq_true rfl)) d_Q_namesOf_32 ⟨Nat.le_of_ble_eq_true rfl, Nat.le_of_ble_eq_true rfl⟩) ?_
        obtain ⟨h7, hf⟩ := of_gd hf
        refine va_iald hx hb hK.1 hP 1 0 rfl rfl (ixb_in h7) d_Q_namesOf_35 ?_
        refine lv_ior hx hb d_Q_namesOf_36 ?_
        refine lv_topi (fun x8 ex8 => ?_)
        have hf := of_nm ex8 hf
        refine lv_istore_n (lv' := [(2, .int x8), (0, .ref aQ), (1, .int x1_14), (3, .int x3_14)]) hx hb d_Q_namesOf_37 rfl hl (by decide) rfl (fun ls hl => ?_)
        obtain ⟨x9, ex9⟩ : ∃ y : Int32, y = x3_14 + (1 : Int32) := ⟨_, rfl⟩
        refine lv_iinc (v := x9) (lv' := [(3, .int x9), (2, .int x8), (0, .ref aQ), (1, .int x1_14)]) hx hb d_Q_namesOf_38 hl (k := 3) rfl (by rw [ex9]; rfl) (by decide) rfl (fun ls hl => ?_)
        have hf := of_nm ex9 hf
        refine lv_goto (tgt := 14) hx hb d_Q_namesOf_41 (by decide) ?_
        exact ih14 _ _ _ _ (lv_sub hl [2, 3, 1, 0] rfl) hf
  rw [f_Q_namesOf] at hf
  refine lv_aload_n hx hb d_Q_namesOf_0 rfl (lv_at hl 0 rfl) ?_
  refine va_get (D := D) (ci := 7) (v := .ref aQ_names) (C := RR_Q) (T := FF_Q) (N := 41) hx hb hts kin_Q hown hK.1 hP 0 rfl rfl 9 (by decide) (hts _ k4_76) (fun _ h9 => h9) rfl d_Q_namesOf_1 ?_
  refine lv_aload_n hx hb d_Q_namesOf_4 rfl (lv_at hl 0 rfl) ?_
  refine va_get (D := D) (ci := 7) (v := .ref aQ_conclusions) (C := RR_Q) (T := FF_Q) (N := 41) hx hb hts kin_Q hown hK.1 hP 0 rfl rfl 14 (by decide) (hts _ k4_81) (fun _ h9 => h9) rfl d_Q_namesOf_5 ?_
  refine lv_iload_n hx hb d_Q_namesOf_8 rfl (lv_at hl 1 rfl) ?_
  obtain ⟨h1, hf⟩ := of_gd hf
  refine va_iald hx hb hK.1 hP 2 0 rfl rfl (ixb_in h1) d_Q_namesOf_9 ?_
  obtain ⟨h2, hf⟩ := of_gd hf
  refine va_iald hx hb hK.1 hP 1 0 rfl rfl (ixb_in h2) d_Q_namesOf_10 ?_
  refine lv_topi (fun x3 ex3 => ?_)
  have hf := of_nm ex3 hf
  refine lv_istore_n (lv' := [(2, .int x3), (0, .ref aQ), (1, .int p0)]) hx hb d_Q_namesOf_11 rfl hl (by decide) rfl (fun ls hl => ?_)
  refine lv_iconst (v := 0) hx hb d_Q_namesOf_12 (by decide) ?_
  refine lv_istore_n (lv' := [(3, .int (0 : Int32)), (2, .int x3), (0, .ref aQ), (1, .int p0)]) hx hb d_Q_namesOf_13 rfl hl (by decide) rfl (fun ls hl => ?_)
  exact hL14 FU _ _ _ _ (lv_sub hl [2, 3, 1, 0] rfl) hf
def f_Q_rank_B171 (Q_all : Int32) (Q_statements : Int32) (Q_names : (Nat → Int32)) (Q_holes : (Nat → Int32)) (Q_conclusions : (Nat → Int32)) (Q_premises : (Nat → Int32)) (Q_counts : (Nat → Int32)) (K26 : Int32 → Int32 → Int32 → (Nat → Int32) → (Nat → Int32) → (Nat → Int32) → Int32 → Int32 → Option (Int32 × Int32 × Int32 × Int32 × (Nat → Int32) × (Nat → Int32) × (Nat → Int32))) (Q_thrown_171 : Int32) (Q_hitKind_171 : Int32) (Q_hits_171 : Int32) (Q_hitOf_171 : (Nat → Int32)) (Q_hitOne_171 : (Nat → Int32)) (Q_hitTwo_171 : (Nat → Int32)) (x1_171 : Int32) (x2_171 : Int32) (x3_171 : Int32) (x4_171 : Int32) (x5_171 : Int32) : Option (Int32 × Int32 × Int32 × Int32 × (Nat → Int32) × (Nat → Int32) × (Nat → Int32)) :=
  gd (ixb x5_171 30) <| nm (upd Q_hitOf_171 x5_171.toNatClampNeg x2_171) fun g27 =>
  gd (ixb x5_171 30) <| nm (upd Q_hitOne_171 x5_171.toNatClampNeg x3_171) fun g29 =>
  gd (ixb x5_171 30) <| nm (upd Q_hitTwo_171 x5_171.toNatClampNeg x4_171) fun g31 =>
  nm (Q_hits_171 + (1 : Int32)) fun x32 =>
  nm (x2_171 + (1 : Int32)) fun x33 =>
  K26 Q_thrown_171 Q_hitKind_171 x32 g27 g29 g31 x1_171 x33
def f_Q_rank_L86 (Q_all : Int32) (Q_statements : Int32) (Q_names : (Nat → Int32)) (Q_holes : (Nat → Int32)) (Q_conclusions : (Nat → Int32)) (Q_premises : (Nat → Int32)) (Q_counts : (Nat → Int32)) (K26 : Int32 → Int32 → Int32 → (Nat → Int32) → (Nat → Int32) → (Nat → Int32) → Int32 → Int32 → Option (Int32 × Int32 × Int32 × Int32 × (Nat → Int32) × (Nat → Int32) × (Nat → Int32))) : Nat → Int32 → Int32 → Int32 → (Nat → Int32) → (Nat → Int32) → (Nat → Int32) → Int32 → Int32 → Int32 → Int32 → Int32 → Option (Int32 × Int32 × Int32 × Int32 × (Nat → Int32) × (Nat → Int32) × (Nat → Int32))
  | 0, _, _, _, _, _, _, _, _, _, _, _ => none
  | n + 1, Q_thrown_86, Q_hitKind_86, Q_hits_86, Q_hitOf_86, Q_hitOne_86, Q_hitTwo_86, x1_86, x2_86, x3_86, x4_86, x5_86 =>
    if x5_86 ≤ 0 then
      f_Q_rank_B171 Q_all Q_statements Q_names Q_holes Q_conclusions Q_premises Q_counts K26 Q_thrown_86 Q_hitKind_86 Q_hits_86 Q_hitOf_86 Q_hitOne_86 Q_hitTwo_86 x1_86 x2_86 x3_86 x4_86 x5_86
    else
      gd (ixb (x5_86 - (1 : Int32)) 30) <|
      gd (ixb (x5_86 - (1 : Int32)) 30) <|
      if (x3_86 * (Q_hitTwo_86 (x5_86 - (1 : Int32)).toNatClampNeg)) ≤ ((Q_hitOne_86 (x5_86 - (1 : Int32)).toNatClampNeg) * x4_86) then
        f_Q_rank_B171 Q_all Q_statements Q_names Q_holes Q_conclusions Q_premises Q_counts K26 Q_thrown_86 Q_hitKind_86 Q_hits_86 Q_hitOf_86 Q_hitOne_86 Q_hitTwo_86 x1_86 x2_86 x3_86 x4_86 x5_86
      else
        gd (ixb (x5_86 - (1 : Int32)) 30) <|
        gd (ixb x5_86 30) <| nm (upd Q_hitOf_86 x5_86.toNatClampNeg (Q_hitOf_86 (x5_86 - (1 : Int32)).toNatClampNeg)) fun g18 =>
        gd (ixb (x5_86 - (1 : Int32)) 30) <|
        gd (ixb x5_86 30) <| nm (upd Q_hitOne_86 x5_86.toNatClampNeg (Q_hitOne_86 (x5_86 - (1 : Int32)).toNatClampNeg)) fun g21 =>
        gd (ixb (x5_86 - (1 : Int32)) 30) <|
        gd (ixb x5_86 30) <| nm (upd Q_hitTwo_86 x5_86.toNatClampNeg (Q_hitTwo_86 (x5_86 - (1 : Int32)).toNatClampNeg)) fun g24 =>
        nm (x5_86 + (-1 : Int32)) fun x25 =>
        (f_Q_rank_L86 Q_all Q_statements Q_names Q_holes Q_conclusions Q_premises Q_counts K26 n) Q_thrown_86 Q_hitKind_86 Q_hits_86 g18 g21 g24 x1_86 x2_86 x3_86 x4_86 x25
def f_Q_rank_L26 (Q_all : Int32) (Q_statements : Int32) (Q_names : (Nat → Int32)) (Q_holes : (Nat → Int32)) (Q_conclusions : (Nat → Int32)) (Q_premises : (Nat → Int32)) (Q_counts : (Nat → Int32)) : Nat → Int32 → Int32 → Int32 → (Nat → Int32) → (Nat → Int32) → (Nat → Int32) → Int32 → Int32 → Option (Int32 × Int32 × Int32 × Int32 × (Nat → Int32) × (Nat → Int32) × (Nat → Int32))
  | 0, _, _, _, _, _, _, _, _ => none
  | n + 1, Q_thrown_26, Q_hitKind_26, Q_hits_26, Q_hitOf_26, Q_hitOne_26, Q_hitTwo_26, x1_26, x2_26 =>
    if Q_statements ≤ x2_26 then
      some (Q_hits_26, Q_thrown_26, Q_hitKind_26, Q_hits_26, Q_hitOf_26, Q_hitOne_26, Q_hitTwo_26)
    else
      (f_Q_namesOf Q_names Q_conclusions Q_premises Q_counts x2_26).bind fun r5 =>
      gd (ixb x1_26 100) <|
      (f_Q_many (r5 &&& (Q_names x1_26.toNatClampNeg))).bind fun r7 =>
      (f_Q_namesOf Q_names Q_conclusions Q_premises Q_counts x2_26).bind fun r8 =>
      gd (ixb x1_26 100) <|
      (f_Q_many (r8 ||| (Q_names x1_26.toNatClampNeg))).bind fun r10 =>
      if r10 = 0 then
        f_Q_rank_L86 Q_all Q_statements Q_names Q_holes Q_conclusions Q_premises Q_counts (f_Q_rank_L26 Q_all Q_statements Q_names Q_holes Q_conclusions Q_premises Q_counts n) FU Q_thrown_26 Q_hitKind_26 Q_hits_26 Q_hitOf_26 Q_hitOne_26 Q_hitTwo_26 x1_26 x2_26 r7 (1 : Int32) Q_hits_26
      else
        f_Q_rank_L86 Q_all Q_statements Q_names Q_holes Q_conclusions Q_premises Q_counts (f_Q_rank_L26 Q_all Q_statements Q_names Q_holes Q_conclusions Q_premises Q_counts n) FU Q_thrown_26 Q_hitKind_26 Q_hits_26 Q_hitOf_26 Q_hitOne_26 Q_hitTwo_26 x1_26 x2_26 r7 r10 Q_hits_26
def f_Q_rank (Q_thrown : Int32) (Q_all : Int32) (Q_statements : Int32) (Q_hitKind : Int32) (Q_hits : Int32) (Q_names : (Nat → Int32)) (Q_holes : (Nat → Int32)) (Q_conclusions : (Nat → Int32)) (Q_premises : (Nat → Int32)) (Q_counts : (Nat → Int32)) (Q_hitOf : (Nat → Int32)) (Q_hitOne : (Nat → Int32)) (Q_hitTwo : (Nat → Int32)) (p0 : Int32) : Option (Int32 × Int32 × Int32 × Int32 × (Nat → Int32) × (Nat → Int32) × (Nat → Int32)) :=
  (f_Q_wrongGoal Q_all Q_holes p0).bind fun r1 =>
  (f_Q_refuses Q_thrown r1).bind fun r2 =>
  if r2.1 = 0 then
    f_Q_rank_L26 Q_all Q_statements Q_names Q_holes Q_conclusions Q_premises Q_counts FU r2.2 (3 : Int32) (0 : Int32) Q_hitOf Q_hitOne Q_hitTwo p0 (0 : Int32)
  else
    some ((0 : Int32), r2.2, Q_hitKind, Q_hits, Q_hitOf, Q_hitOne, Q_hitTwo)
abbrev rm_Q_rank : Room := { frames := 2, cells := 0, slots := 0, locals := 45 }
set_option maxHeartbeats 4000000 in
set_option maxRecDepth 100000 in
theorem c_Q_rank (l : Launch) (D : va_G) (cI cJ cZ : ClassId) (aQ aQ_kinds aQ_which aQ_firsts aQ_seconds aQ_thirds aQ_nexts aQ_heads aQ_names aQ_variables aQ_holes aQ_sizes aQ_places aQ_conclusions aQ_premises aQ_counts aQ_hitOf aQ_hitOne aQ_hitTwo aQ_hitTerms aQ_image aQ_bound aQ_waits aQ_waitsFor aQ_seen aQ_goals aQ_steps aQ_looked aQ_under aQ_taken aQ_news aQ_order aQ_there aQ_back : Nat) (sz : Nat) (Q_thrown : Int32) (Q_all : Int32) (Q_statements : Int32) (Q_hitKind : Int32) (Q_hits : Int32) (Q_tries : Int32) (Q_takenAll : Int32) (Q_takenFirst : Int32) (Q_names : (Nat → Int32)) (Q_holes : (Nat → Int32)) (Q_conclusions : (Nat → Int32)) (Q_premises : (Nat → Int32)) (Q_counts : (Nat → Int32)) (Q_hitOf : (Nat → Int32)) (Q_hitOne : (Nat → Int32)) (Q_hitTwo : (Nat → Int32)) (p0 : Int32) (o : Int32 × Int32 × Int32 × Int32 × (Nat → Int32) × (Nat → Int32) × (Nat → Int32)) (hf : f_Q_rank Q_thrown Q_all Q_statements Q_hitKind Q_hits Q_names Q_holes Q_conclusions Q_premises Q_counts Q_hitOf Q_hitOne Q_hitTwo p0 = some o) : Met l y_Q_rank (ws_Q_rank) rm_Q_rank (WPc D vwCl cI cJ cZ [.ref aQ, .int p0] (wv_56 cI cJ cZ aQ aQ_kinds aQ_which aQ_firsts aQ_seconds aQ_thirds aQ_nexts aQ_heads aQ_names aQ_variables aQ_holes aQ_sizes aQ_places aQ_conclusions aQ_premises aQ_counts aQ_hitOf aQ_hitOne aQ_hitTwo aQ_hitTerms aQ_image aQ_bound aQ_waits aQ_waitsFor aQ_seen aQ_goals aQ_steps aQ_looked aQ_under aQ_taken aQ_news aQ_order aQ_there aQ_back Q_thrown Q_all Q_statements Q_hitKind Q_hits Q_tries Q_takenAll Q_takenFirst Q_names Q_holes Q_conclusions Q_premises Q_counts Q_hitOf Q_hitOne Q_hitTwo) sz) (WQ D vwCl (some (.int o.1)) (wv_56 cI cJ cZ aQ aQ_kinds aQ_which aQ_firsts aQ_seconds aQ_thirds aQ_nexts aQ_heads aQ_names aQ_variables aQ_holes aQ_sizes aQ_places aQ_conclusions aQ_premises aQ_counts aQ_hitOf aQ_hitOne aQ_hitTwo aQ_hitTerms aQ_image aQ_bound aQ_waits aQ_waitsFor aQ_seen aQ_goals aQ_steps aQ_looked aQ_under aQ_taken aQ_news aQ_order aQ_there aQ_back o.2.1 Q_all Q_statements o.2.2.1 o.2.2.2.1 Q_tries Q_takenAll Q_takenFirst Q_names Q_holes Q_conclusions Q_premises Q_counts o.2.2.2.2.1 o.2.2.2.2.2.1 o.2.2.2.2.2.2) (va_A (wv_56 cI cJ cZ aQ aQ_kinds aQ_which aQ_firsts aQ_seconds aQ_thirds aQ_nexts aQ_heads aQ_names aQ_variables aQ_holes aQ_sizes aQ_places aQ_conclusions aQ_premises aQ_counts aQ_hitOf aQ_hitOne aQ_hitTwo aQ_hitTerms aQ_image aQ_bound aQ_waits aQ_waitsFor aQ_seen aQ_goals aQ_steps aQ_looked aQ_under aQ_taken aQ_news aQ_order aQ_there aQ_back Q_thrown Q_all Q_statements Q_hitKind Q_hits Q_tries Q_takenAll Q_takenFirst Q_names Q_holes Q_conclusions Q_premises Q_counts Q_hitOf Q_hitOne Q_hitTwo) sz)) 0 0 (va_A (wv_56 cI cJ cZ aQ aQ_kinds aQ_which aQ_firsts aQ_seconds aQ_thirds aQ_nexts aQ_heads aQ_names aQ_variables aQ_holes aQ_sizes aQ_places aQ_conclusions aQ_premises aQ_counts aQ_hitOf aQ_hitOne aQ_hitTwo aQ_hitTerms aQ_image aQ_bound aQ_waits aQ_waitsFor aQ_seen aQ_goals aQ_steps aQ_looked aQ_under aQ_taken aQ_news aQ_order aQ_there aQ_back Q_thrown Q_all Q_statements Q_hitKind Q_hits Q_tries Q_takenAll Q_takenFirst Q_names Q_holes Q_conclusions Q_premises Q_counts Q_hitOf Q_hitOne Q_hitTwo) sz) := by
  refine Met.ofW (cc := b_Q_rank) (maxL := 6) (ret := (some .int)) (by decide) rfl ?_
  intro p e s m args below meth c s₁ B hml hv
  obtain ⟨rfl, rfl, hP, hK, hD0⟩ := hv
  have hx := B.exec
  have hb := B.bytes
  have hr := B.returns
  have hts : ∀ w ∈ BG, w.before _ s = true := fun w h => atoms_spec (ws := (ws_Q_rank)) B.pre w (List.mem_cons_of_mem _ h)
  have hown : s.vm.findClass RR_Q = some m.cls := findClass_of_methodNamed B.named
  have hlocks := B.notSynchronized
  have hD := hD0.self (sz := s.heap.size)
  have hA : ∀ q : Nat, s.heap.size ≤ q → va_A (wv_56 cI cJ cZ aQ aQ_kinds aQ_which aQ_firsts aQ_seconds aQ_thirds aQ_nexts aQ_heads aQ_names aQ_variables aQ_holes aQ_sizes aQ_places aQ_conclusions aQ_premises aQ_counts aQ_hitOf aQ_hitOne aQ_hitTwo aQ_hitTerms aQ_image aQ_bound aQ_waits aQ_waitsFor aQ_seen aQ_goals aQ_steps aQ_looked aQ_under aQ_taken aQ_news aQ_order aQ_there aQ_back Q_thrown Q_all Q_statements Q_hitKind Q_hits Q_tries Q_takenAll Q_takenFirst Q_names Q_holes Q_conclusions Q_premises Q_counts Q_hitOf Q_hitOne Q_hitTwo) s.heap.size q := fun q h => Or.inr h
  have hS : va_S (va_A (wv_56 cI cJ cZ aQ aQ_kinds aQ_which aQ_firsts aQ_seconds aQ_thirds aQ_nexts aQ_heads aQ_names aQ_variables aQ_holes aQ_sizes aQ_places aQ_conclusions aQ_premises aQ_counts aQ_hitOf aQ_hitOne aQ_hitTwo aQ_hitTerms aQ_image aQ_bound aQ_waits aQ_waitsFor aQ_seen aQ_goals aQ_steps aQ_looked aQ_under aQ_taken aQ_news aQ_order aQ_there aQ_back Q_thrown Q_all Q_statements Q_hitKind Q_hits Q_tries Q_takenAll Q_takenFirst Q_names Q_holes Q_conclusions Q_premises Q_counts Q_hitOf Q_hitOne Q_hitTwo) s.heap.size) s.heap s.heap [] := va_S.rf
  generalize va_A (wv_56 cI cJ cZ aQ aQ_kinds aQ_which aQ_firsts aQ_seconds aQ_thirds aQ_nexts aQ_heads aQ_names aQ_variables aQ_holes aQ_sizes aQ_places aQ_conclusions aQ_premises aQ_counts aQ_hitOf aQ_hitOne aQ_hitTwo aQ_hitTerms aQ_image aQ_bound aQ_waits aQ_waitsFor aQ_seen aQ_goals aQ_steps aQ_looked aQ_under aQ_taken aQ_news aQ_order aQ_there aQ_back Q_thrown Q_all Q_statements Q_hitKind Q_hits Q_tries Q_takenAll Q_takenFirst Q_names Q_holes Q_conclusions Q_premises Q_counts Q_hitOf Q_hitOne Q_hitTwo) s.heap.size = A at hD hA hS ⊢
  have hl := lv_entry ([.ref aQ, .int p0]) (n := 6) (Nat.le_of_ble_eq_true rfl)
  rw [lg_entry_eq]
  generalize (lg_sl ([.ref aQ, .int p0]) ++ List.replicate (6 - (lg_sl ([.ref aQ, .int p0])).length) Slot.unset).toArray = ls at hl ⊢
  have hl : lv_has ls 6 [(0, .ref aQ), (1, .int p0)] := hl
  have hL26 : ∀ (n26 : Nat), ∀ (Q_thrown_26 : Int32) (Q_hitKind_26 : Int32) (Q_hits_26 : Int32) (Q_hitOf_26 : (Nat → Int32)) (Q_hitOne_26 : (Nat → Int32)) (Q_hitTwo_26 : (Nat → Int32)) (x1_26 : Int32) (x2_26 : Int32), ∀ (H : Heap) (locs : List Loc), va_P D vwCl (wv_56 cI cJ cZ aQ aQ_kinds aQ_which aQ_firsts aQ_seconds aQ_thirds aQ_nexts aQ_heads aQ_names aQ_variables aQ_holes aQ_sizes aQ_places aQ_conclusions aQ_premises aQ_counts aQ_hitOf aQ_hitOne aQ_hitTwo aQ_hitTerms aQ_image aQ_bound aQ_waits aQ_waitsFor aQ_seen aQ_goals aQ_steps aQ_looked aQ_under aQ_taken aQ_news aQ_order aQ_there aQ_back Q_thrown_26 Q_all Q_statements Q_hitKind_26 Q_hits_26 Q_tries Q_takenAll Q_takenFirst Q_names Q_holes Q_conclusions Q_premises Q_counts Q_hitOf_26 Q_hitOne_26 Q_hitTwo_26) H → va_D A (wv_56 cI cJ cZ aQ aQ_kinds aQ_which aQ_firsts aQ_seconds aQ_thirds aQ_nexts aQ_heads aQ_names aQ_variables aQ_holes aQ_sizes aQ_places aQ_conclusions aQ_premises aQ_counts aQ_hitOf aQ_hitOne aQ_hitTwo aQ_hitTerms aQ_image aQ_bound aQ_waits aQ_waitsFor aQ_seen aQ_goals aQ_steps aQ_looked aQ_under aQ_taken aQ_news aQ_order aQ_there aQ_back Q_thrown_26 Q_all Q_statements Q_hitKind_26 Q_hits_26 Q_tries Q_takenAll Q_takenFirst Q_names Q_holes Q_conclusions Q_premises Q_counts Q_hitOf_26 Q_hitOne_26 Q_hitTwo_26) → va_S A s.heap H locs → ∀ (ls : Array Slot), lv_has ls 6 [(0, .ref aQ), (1, .int x1_26), (2, .int x2_26)] → f_Q_rank_L26 Q_all Q_statements Q_names Q_holes Q_conclusions Q_premises Q_counts n26 Q_thrown_26 Q_hitKind_26 Q_hits_26 Q_hitOf_26 Q_hitOne_26 Q_hitTwo_26 x1_26 x2_26 = some o → W p l e (headSpec (ws_Q_rank) rm_Q_rank).room s m ([.ref aQ, .int p0] : List Value).toArray below meth c H locs 0 0 (MQ below (WQ D vwCl (some (.int o.1)) (wv_56 cI cJ cZ aQ aQ_kinds aQ_which aQ_firsts aQ_seconds aQ_thirds aQ_nexts aQ_heads aQ_names aQ_variables aQ_holes aQ_sizes aQ_places aQ_conclusions aQ_premises aQ_counts aQ_hitOf aQ_hitOne aQ_hitTwo aQ_hitTerms aQ_image aQ_bound aQ_waits aQ_waitsFor aQ_seen aQ_goals aQ_steps aQ_looked aQ_under aQ_taken aQ_news aQ_order aQ_there aQ_back o.2.1 Q_all Q_statements o.2.2.1 o.2.2.2.1 Q_tries Q_takenAll Q_takenFirst Q_names Q_holes Q_conclusions Q_premises Q_counts o.2.2.2.2.1 o.2.2.2.2.2.1 o.2.2.2.2.2.2) A) ([.ref aQ, .int p0] : List Value).toArray s 0 0 A) (F0 m 26 ls []) := by
    intro n26
    induction n26 with
    | zero =>
      intro Q_thrown_26 Q_hitKind_26 Q_hits_26 Q_hitOf_26 Q_hitOne_26 Q_hitTwo_26 x1_26 x2_26 H locs hP hD hS ls hl hf
      rw [f_Q_rank_L26] at hf
      cases hf
    | succ n26 ih26 =>
      have hB171 : ∀ (Q_thrown_171 : Int32) (Q_hitKind_171 : Int32) (Q_hits_171 : Int32) (Q_hitOf_171 : (Nat → Int32)) (Q_hitOne_171 : (Nat → Int32)) (Q_hitTwo_171 : (Nat → Int32)) (x1_171 : Int32) (x2_171 : Int32) (x3_171 : Int32) (x4_171 : Int32) (x5_171 : Int32), ∀ (H : Heap) (locs : List Loc), va_P D vwCl (wv_56 cI cJ cZ aQ aQ_kinds aQ_which aQ_firsts aQ_seconds aQ_thirds aQ_nexts aQ_heads aQ_names aQ_variables aQ_holes aQ_sizes aQ_places aQ_conclusions aQ_premises aQ_counts aQ_hitOf aQ_hitOne aQ_hitTwo aQ_hitTerms aQ_image aQ_bound aQ_waits aQ_waitsFor aQ_seen aQ_goals aQ_steps aQ_looked aQ_under aQ_taken aQ_news aQ_order aQ_there aQ_back Q_thrown_171 Q_all Q_statements Q_hitKind_171 Q_hits_171 Q_tries Q_takenAll Q_takenFirst Q_names Q_holes Q_conclusions Q_premises Q_counts Q_hitOf_171 Q_hitOne_171 Q_hitTwo_171) H → va_D A (wv_56 cI cJ cZ aQ aQ_kinds aQ_which aQ_firsts aQ_seconds aQ_thirds aQ_nexts aQ_heads aQ_names aQ_variables aQ_holes aQ_sizes aQ_places aQ_conclusions aQ_premises aQ_counts aQ_hitOf aQ_hitOne aQ_hitTwo aQ_hitTerms aQ_image aQ_bound aQ_waits aQ_waitsFor aQ_seen aQ_goals aQ_steps aQ_looked aQ_under aQ_taken aQ_news aQ_order aQ_there aQ_back Q_thrown_171 Q_all Q_statements Q_hitKind_171 Q_hits_171 Q_tries Q_takenAll Q_takenFirst Q_names Q_holes Q_conclusions Q_premises Q_counts Q_hitOf_171 Q_hitOne_171 Q_hitTwo_171) → va_S A s.heap H locs → ∀ (ls : Array Slot), lv_has ls 6 [(0, .ref aQ), (1, .int x1_171), (2, .int x2_171), (3, .int x3_171), (4, .int x4_171), (5, .int x5_171)] → f_Q_rank_B171 Q_all Q_statements Q_names Q_holes Q_conclusions Q_premises Q_counts (f_Q_rank_L26 Q_all Q_statements Q_names Q_holes Q_conclusions Q_premises Q_counts n26) Q_thrown_171 Q_hitKind_171 Q_hits_171 Q_hitOf_171 Q_hitOne_171 Q_hitTwo_171 x1_171 x2_171 x3_171 x4_171 x5_171 = some o → W p l e (headSpec (ws_Q_rank) rm_Q_rank).room s m ([.ref aQ, .int p0] : List Value).toArray below meth c H locs 0 0 (MQ below (WQ D vwCl (some (.int o.1)) (wv_56 cI cJ cZ aQ aQ_kinds aQ_which aQ_firsts aQ_seconds aQ_thirds aQ_nexts aQ_heads aQ_names aQ_variables aQ_holes aQ_sizes aQ_places aQ_conclusions aQ_premises aQ_counts aQ_hitOf aQ_hitOne aQ_hitTwo aQ_hitTerms aQ_image aQ_bound aQ_waits aQ_waitsFor aQ_seen aQ_goals aQ_steps aQ_looked aQ_under aQ_taken aQ_news aQ_order aQ_there aQ_back o.2.1 Q_all Q_statements o.2.2.1 o.2.2.2.1 Q_tries Q_takenAll Q_takenFirst Q_names Q_holes Q_conclusions Q_premises Q_counts o.2.2.2.2.1 o.2.2.2.2.2.1 o.2.2.2.2.2.2) A) ([.ref aQ, .int p0] : List Value).toArray s 0 0 A) (F0 m 171 ls []) := by
        intro Q_thrown_171 Q_hitKind_171 Q_hits_171 Q_hitOf_171 Q_hitOne_171 Q_hitTwo_171 x1_171 x2_171 x3_171 x4_171 x5_171 H locs hP hD hS ls hl hf
        rw [f_Q_rank_B171] at hf
        refine lv_aload_n hx hb d_Q_rank_171 rfl (lv_at hl 0 rfl) ?_
        refine va_get (D := D) (ci := 7) (v := .ref aQ_hitOf) (C := RR_Q) (T := FF_Q) (N := 41) hx hb hts kin_Q hown hK.1 hP 0 rfl rfl 20 (by decide) (hts _ k4_87) (fun _ h9 => h9) rfl d_Q_rank_172 ?_
        refine lv_iload hx hb d_Q_rank_175 (lv_at hl 5 rfl) ?_
        refine lv_iload_n hx hb d_Q_rank_177 rfl (lv_at hl 2 rfl) ?_
        obtain ⟨h26, hf⟩ := of_gd hf
        obtain ⟨g27, eg27⟩ : ∃ y : Nat → Int32, y = upd Q_hitOf_171 x5_171.toNatClampNeg x2_171 := ⟨_, rfl⟩
        have hf := of_nm eg27 hf
        refine va_iast hx hb hK.1 hP hD hS 6 0 rfl rfl (ixb_in h26) d_Q_rank_178 (fun H locs hP hD hS => ?_)
        rw [← eg27] at hP hD
        have hP : va_P D vwCl (wv_56 cI cJ cZ aQ aQ_kinds aQ_which aQ_firsts aQ_seconds aQ_thirds aQ_nexts aQ_heads aQ_names aQ_variables aQ_holes aQ_sizes aQ_places aQ_conclusions aQ_premises aQ_counts aQ_hitOf aQ_hitOne aQ_hitTwo aQ_hitTerms aQ_image aQ_bound aQ_waits aQ_waitsFor aQ_seen aQ_goals aQ_steps aQ_looked aQ_under aQ_taken aQ_news aQ_order aQ_there aQ_back Q_thrown_171 Q_all Q_statements Q_hitKind_171 Q_hits_171 Q_tries Q_takenAll Q_takenFirst Q_names Q_holes Q_conclusions Q_premises Q_counts g27 Q_hitOne_171 Q_hitTwo_171) H := hP
        have hD : va_D A (wv_56 cI cJ cZ aQ aQ_kinds aQ_which aQ_firsts aQ_seconds aQ_thirds aQ_nexts aQ_heads aQ_names aQ_variables aQ_holes aQ_sizes aQ_places aQ_conclusions aQ_premises aQ_counts aQ_hitOf aQ_hitOne aQ_hitTwo aQ_hitTerms aQ_image aQ_bound aQ_waits aQ_waitsFor aQ_seen aQ_goals aQ_steps aQ_looked aQ_under aQ_taken aQ_news aQ_order aQ_there aQ_back Q_thrown_171 Q_all Q_statements Q_hitKind_171 Q_hits_171 Q_tries Q_takenAll Q_takenFirst Q_names Q_holes Q_conclusions Q_premises Q_counts g27 Q_hitOne_171 Q_hitTwo_171) := hD
        refine lv_aload_n hx hb d_Q_rank_179 rfl (lv_at hl 0 rfl) ?_
        refine va_get (D := D) (ci := 7) (v := .ref aQ_hitOne) (C := RR_Q) (T := FF_Q) (N := 41) hx hb hts kin_Q hown hK.1 hP 0 rfl rfl 21 (by decide) (hts _ k4_88) (fun _ h9 => h9) rfl d_Q_rank_180 ?_
        refine lv_iload hx hb d_Q_rank_183 (lv_at hl 5 rfl) ?_
        refine lv_iload_n hx hb d_Q_rank_185 rfl (lv_at hl 3 rfl) ?_
        obtain ⟨h28, hf⟩ := of_gd hf
        obtain ⟨g29, eg29⟩ : ∃ y : Nat → Int32, y = upd Q_hitOne_171 x5_171.toNatClampNeg x3_171 := ⟨_, rfl⟩
        have hf := of_nm eg29 hf
        refine va_iast hx hb hK.1 hP hD hS 7 0 rfl rfl (ixb_in h28) d_Q_rank_186 (fun H locs hP hD hS => ?_)
        rw [← eg29] at hP hD
        have hP : va_P D vwCl (wv_56 cI cJ cZ aQ aQ_kinds aQ_which aQ_firsts aQ_seconds aQ_thirds aQ_nexts aQ_heads aQ_names aQ_variables aQ_holes aQ_sizes aQ_places aQ_conclusions aQ_premises aQ_counts aQ_hitOf aQ_hitOne aQ_hitTwo aQ_hitTerms aQ_image aQ_bound aQ_waits aQ_waitsFor aQ_seen aQ_goals aQ_steps aQ_looked aQ_under aQ_taken aQ_news aQ_order aQ_there aQ_back Q_thrown_171 Q_all Q_statements Q_hitKind_171 Q_hits_171 Q_tries Q_takenAll Q_takenFirst Q_names Q_holes Q_conclusions Q_premises Q_counts g27 g29 Q_hitTwo_171) H := hP
        have hD : va_D A (wv_56 cI cJ cZ aQ aQ_kinds aQ_which aQ_firsts aQ_seconds aQ_thirds aQ_nexts aQ_heads aQ_names aQ_variables aQ_holes aQ_sizes aQ_places aQ_conclusions aQ_premises aQ_counts aQ_hitOf aQ_hitOne aQ_hitTwo aQ_hitTerms aQ_image aQ_bound aQ_waits aQ_waitsFor aQ_seen aQ_goals aQ_steps aQ_looked aQ_under aQ_taken aQ_news aQ_order aQ_there aQ_back Q_thrown_171 Q_all Q_statements Q_hitKind_171 Q_hits_171 Q_tries Q_takenAll Q_takenFirst Q_names Q_holes Q_conclusions Q_premises Q_counts g27 g29 Q_hitTwo_171) := hD
        refine lv_aload_n hx hb d_Q_rank_187 rfl (lv_at hl 0 rfl) ?_
        refine va_get (D := D) (ci := 7) (v := .ref aQ_hitTwo) (C := RR_Q) (T := FF_Q) (N := 41) hx hb hts kin_Q hown hK.1 hP 0 rfl rfl 22 (by decide) (hts _ k4_89) (fun _ h9 => h9) rfl d_Q_rank_188 ?_
        refine lv_iload hx hb d_Q_rank_191 (lv_at hl 5 rfl) ?_
        refine lv_iload hx hb d_Q_rank_193 (lv_at hl 4 rfl) ?_
        obtain ⟨h30, hf⟩ := of_gd hf
        obtain ⟨g31, eg31⟩ : ∃ y : Nat → Int32, y = upd Q_hitTwo_171 x5_171.toNatClampNeg x4_171 := ⟨_, rfl⟩
        have hf := of_nm eg31 hf
        refine va_iast hx hb hK.1 hP hD hS 8 0 rfl rfl (ixb_in h30) d_Q_rank_195 (fun H locs hP hD hS => ?_)
        rw [← eg31] at hP hD
        have hP : va_P D vwCl (wv_56 cI cJ cZ aQ aQ_kinds aQ_which aQ_firsts aQ_seconds aQ_thirds aQ_nexts aQ_heads aQ_names aQ_variables aQ_holes aQ_sizes aQ_places aQ_conclusions aQ_premises aQ_counts aQ_hitOf aQ_hitOne aQ_hitTwo aQ_hitTerms aQ_image aQ_bound aQ_waits aQ_waitsFor aQ_seen aQ_goals aQ_steps aQ_looked aQ_under aQ_taken aQ_news aQ_order aQ_there aQ_back Q_thrown_171 Q_all Q_statements Q_hitKind_171 Q_hits_171 Q_tries Q_takenAll Q_takenFirst Q_names Q_holes Q_conclusions Q_premises Q_counts g27 g29 g31) H := hP
        have hD : va_D A (wv_56 cI cJ cZ aQ aQ_kinds aQ_which aQ_firsts aQ_seconds aQ_thirds aQ_nexts aQ_heads aQ_names aQ_variables aQ_holes aQ_sizes aQ_places aQ_conclusions aQ_premises aQ_counts aQ_hitOf aQ_hitOne aQ_hitTwo aQ_hitTerms aQ_image aQ_bound aQ_waits aQ_waitsFor aQ_seen aQ_goals aQ_steps aQ_looked aQ_under aQ_taken aQ_news aQ_order aQ_there aQ_back Q_thrown_171 Q_all Q_statements Q_hitKind_171 Q_hits_171 Q_tries Q_takenAll Q_takenFirst Q_names Q_holes Q_conclusions Q_premises Q_counts g27 g29 g31) := hD
        refine lv_aload_n hx hb d_Q_rank_196 rfl (lv_at hl 0 rfl) ?_
        refine lv_dup hx hb d_Q_rank_197 rfl ?_
        refine va_get (D := D) (ci := 7) (v := .int Q_hits_171) (C := RR_Q) (T := FF_Q) (N := 41) hx hb hts kin_Q hown hK.1 hP 0 rfl rfl 19 (by decide) (hts _ k4_86) (fun _ h9 => h9) rfl d_Q_rank_198 ?_
        refine lv_iconst (v := 1) hx hb d_Q_rank_201 (by decide) ?_
        refine lv_iadd hx hb d_Q_rank_202 ?_
        refine lv_topi (fun x32 ex32 => ?_)
        have hf := of_nm ex32 hf
        refine va_put (D := D) (ci := 7) (v := .int x32) (ty := .int) (C := RR_Q) (T := FF_Q) (N := 41) hx hb hts kin_Q TT_Q tok_Q nok_Q hown hK.1 hP hD hS 0 rfl rfl 19 (by decide) (hts _ k4_86) (fun _ h9 => h9) rfl (by decide +kernel) rfl rfl (Nat.le_of_ble_eq_true rfl) d_Q_rank_203 (fun H locs hP hD hS => ?_)
        have hP : va_P D vwCl (wv_56 cI cJ cZ aQ aQ_kinds aQ_which aQ_firsts aQ_seconds aQ_thirds aQ_nexts aQ_heads aQ_names aQ_variables aQ_holes aQ_sizes aQ_places aQ_conclusions aQ_premises aQ_counts aQ_hitOf aQ_hitOne aQ_hitTwo aQ_hitTerms aQ_image aQ_bound aQ_waits aQ_waitsFor aQ_seen aQ_goals aQ_steps aQ_looked aQ_under aQ_taken aQ_news aQ_order aQ_there aQ_back Q_thrown_171 Q_all Q_statements Q_hitKind_171 x32 Q_tries Q_takenAll Q_takenFirst Q_names Q_holes Q_conclusions Q_premises Q_counts g27 g29 g31) H := hP
        have hD : va_D A (wv_56 cI cJ cZ aQ aQ_kinds aQ_which aQ_firsts aQ_seconds aQ_thirds aQ_nexts aQ_heads aQ_names aQ_variables aQ_holes aQ_sizes aQ_places aQ_conclusions aQ_premises aQ_counts aQ_hitOf aQ_hitOne aQ_hitTwo aQ_hitTerms aQ_image aQ_bound aQ_waits aQ_waitsFor aQ_seen aQ_goals aQ_steps aQ_looked aQ_under aQ_taken aQ_news aQ_order aQ_there aQ_back Q_thrown_171 Q_all Q_statements Q_hitKind_171 x32 Q_tries Q_takenAll Q_takenFirst Q_names Q_holes Q_conclusions Q_premises Q_counts g27 g29 g31) := hD
        obtain ⟨x33, ex33⟩ : ∃ y : Int32, y = x2_171 + (1 : Int32) := ⟨_, rfl⟩
        refine lv_iinc (v := x33) (lv' := [(2, .int x33), (0, .ref aQ), (1, .int x1_171), (3, .int x3_171), (4, .int x4_171), (5, .int x5_171)]) hx hb d_Q_rank_206 hl (k := 2) rfl (by rw [ex33]; rfl) (by decide) rfl (fun ls hl => ?_)
        have hf := of_nm ex33 hf
        refine lv_goto (tgt := 26) hx hb d_Q_rank_209 (by decide) ?_
        exact ih26 _ _ _ _ _ _ _ _ _ _ hP hD hS _ (lv_sub hl [1, 2, 0] rfl) hf
      have hL86 : ∀ (n86 : Nat), ∀ (Q_thrown_86 : Int32) (Q_hitKind_86 : Int32) (Q_hits_86 : Int32) (Q_hitOf_86 : (Nat → Int32)) (Q_hitOne_86 : (Nat → Int32)) (Q_hitTwo_86 : (Nat → Int32)) (x1_86 : Int32) (x2_86 : Int32) (x3_86 : Int32) (x4_86 : Int32) (x5_86 : Int32), ∀ (H : Heap) (locs : List Loc), va_P D vwCl (wv_56 cI cJ cZ aQ aQ_kinds aQ_which aQ_firsts aQ_seconds aQ_thirds aQ_nexts aQ_heads aQ_names aQ_variables aQ_holes aQ_sizes aQ_places aQ_conclusions aQ_premises aQ_counts aQ_hitOf aQ_hitOne aQ_hitTwo aQ_hitTerms aQ_image aQ_bound aQ_waits aQ_waitsFor aQ_seen aQ_goals aQ_steps aQ_looked aQ_under aQ_taken aQ_news aQ_order aQ_there aQ_back Q_thrown_86 Q_all Q_statements Q_hitKind_86 Q_hits_86 Q_tries Q_takenAll Q_takenFirst Q_names Q_holes Q_conclusions Q_premises Q_counts Q_hitOf_86 Q_hitOne_86 Q_hitTwo_86) H → va_D A (wv_56 cI cJ cZ aQ aQ_kinds aQ_which aQ_firsts aQ_seconds aQ_thirds aQ_nexts aQ_heads aQ_names aQ_variables aQ_holes aQ_sizes aQ_places aQ_conclusions aQ_premises aQ_counts aQ_hitOf aQ_hitOne aQ_hitTwo aQ_hitTerms aQ_image aQ_bound aQ_waits aQ_waitsFor aQ_seen aQ_goals aQ_steps aQ_looked aQ_under aQ_taken aQ_news aQ_order aQ_there aQ_back Q_thrown_86 Q_all Q_statements Q_hitKind_86 Q_hits_86 Q_tries Q_takenAll Q_takenFirst Q_names Q_holes Q_conclusions Q_premises Q_counts Q_hitOf_86 Q_hitOne_86 Q_hitTwo_86) → va_S A s.heap H locs → ∀ (ls : Array Slot), lv_has ls 6 [(0, .ref aQ), (1, .int x1_86), (2, .int x2_86), (3, .int x3_86), (4, .int x4_86), (5, .int x5_86)] → f_Q_rank_L86 Q_all Q_statements Q_names Q_holes Q_conclusions Q_premises Q_counts (f_Q_rank_L26 Q_all Q_statements Q_names Q_holes Q_conclusions Q_premises Q_counts n26) n86 Q_thrown_86 Q_hitKind_86 Q_hits_86 Q_hitOf_86 Q_hitOne_86 Q_hitTwo_86 x1_86 x2_86 x3_86 x4_86 x5_86 = some o → W p l e (headSpec (ws_Q_rank) rm_Q_rank).room s m ([.ref aQ, .int p0] : List Value).toArray below meth c H locs 0 0 (MQ below (WQ D vwCl (some (.int o.1)) (wv_56 cI cJ cZ aQ aQ_kinds aQ_which aQ_firsts aQ_seconds aQ_thirds aQ_nexts aQ_heads aQ_names aQ_variables aQ_holes aQ_sizes aQ_places aQ_conclusions aQ_premises aQ_counts aQ_hitOf aQ_hitOne aQ_hitTwo aQ_hitTerms aQ_image aQ_bound aQ_waits aQ_waitsFor aQ_seen aQ_goals aQ_steps aQ_looked aQ_under aQ_taken aQ_news aQ_order aQ_there aQ_back o.2.1 Q_all Q_statements o.2.2.1 o.2.2.2.1 Q_tries Q_takenAll Q_takenFirst Q_names Q_holes Q_conclusions Q_premises Q_counts o.2.2.2.2.1 o.2.2.2.2.2.1 o.2.2.2.2.2.2) A) ([.ref aQ, .int p0] : List Value).toArray s 0 0 A) (F0 m 86 ls []) := by
        intro n86
        induction n86 with
        | zero =>
          intro Q_thrown_86 Q_hitKind_86 Q_hits_86 Q_hitOf_86 Q_hitOne_86 Q_hitTwo_86 x1_86 x2_86 x3_86 x4_86 x5_86 H locs hP hD hS ls hl hf
          rw [f_Q_rank_L86] at hf
          cases hf
        | succ n86 ih86 =>
          intro Q_thrown_86 Q_hitKind_86 Q_hits_86 Q_hitOf_86 Q_hitOne_86 Q_hitTwo_86 x1_86 x2_86 x3_86 x4_86 x5_86 H locs hP hD hS ls hl hf
          rw [f_Q_rank_L86] at hf
          refine lv_iload hx hb d_Q_rank_86 (lv_at hl 5 rfl) ?_
          refine lv_if_le (tgt := 171) hx hb d_Q_rank_88 (by decide) (fun c12 => ?_) (fun c12 => ?_)
          · have hf := ite_t c12 hf
            exact hB171 _ _ _ _ _ _ _ _ _ _ _ _ _ hP hD hS _ (lv_sub hl [0, 1, 2, 3, 4, 5] rfl) hf
          · have hf := ite_f c12 hf
            refine lv_iload_n hx hb d_Q_rank_91 rfl (lv_at hl 3 rfl) ?_
            refine lv_aload_n hx hb d_Q_rank_92 rfl (lv_at hl 0 rfl) ?_
            refine va_get (D := D) (ci := 7) (v := .ref aQ_hitTwo) (C := RR_Q) (T := FF_Q) (N := 41) hx hb hts kin_Q hown hK.1 hP 0 rfl rfl 22 (by decide) (hts _ k4_89) (fun _ h9 => h9) rfl d_Q_rank_93 ?_
            refine lv_iload hx hb d_Q_rank_96 (lv_at hl 5 rfl) ?_
            refine lv_iconst (v := 1) hx hb d_Q_rank_98 (by decide) ?_
            refine lv_isub hx hb d_Q_rank_99 ?_
            obtain ⟨h13, hf⟩ := of_gd hf
            refine va_iald hx hb hK.1 hP 8 0 rfl rfl (ixb_in h13) d_Q_rank_100 ?_
            refine lv_imul hx hb d_Q_rank_101 ?_
            refine lv_aload_n hx hb d_Q_rank_102 rfl (lv_at hl 0 rfl) ?_
            refine va_get (D := D) (ci := 7) (v := .ref aQ_hitOne) (C := RR_Q) (T := FF_Q) (N := 41) hx hb hts kin_Q hown hK.1 hP 0 rfl rfl 21 (by decide) (hts _ k4_88) (fun _ h9 => h9) rfl d_Q_rank_103 ?_
            refine lv_iload hx hb d_Q_rank_106 (lv_at hl 5 rfl) ?_
            refine lv_iconst (v := 1) hx hb d_Q_rank_108 (by decide) ?_
            refine lv_isub hx hb d_Q_rank_109 ?_
            obtain ⟨h14, hf⟩ := of_gd hf
            refine va_iald hx hb hK.1 hP 7 0 rfl rfl (ixb_in h14) d_Q_rank_110 ?_
            refine lv_iload hx hb d_Q_rank_111 (lv_at hl 4 rfl) ?_
            refine lv_imul hx hb d_Q_rank_113 ?_
            refine lv_icmp_le (tgt := 171) hx hb d_Q_rank_114 (by decide) (fun c15 => ?_) (fun c15 => ?_)
            · have hf := ite_t c15 hf
              exact hB171 _ _ _ _ _ _ _ _ _ _ _ _ _ hP hD hS _ (lv_sub hl [0, 1, 2, 3, 4, 5] rfl) hf
            · have hf := ite_f c15 hf
              refine lv_aload_n hx hb d_Q_rank_117 rfl (lv_at hl 0 rfl) ?_
              refine va_get (D := D) (ci := 7) (v := .ref aQ_hitOf) (C := RR_Q) (T := FF_Q) (N := 41) hx hb hts kin_Q hown hK.1 hP 0 rfl rfl 20 (by decide) (hts _ k4_87) (fun _ h9 => h9) rfl d_Q_rank_118 ?_
              refine lv_iload hx hb d_Q_rank_121 (lv_at hl 5 rfl) ?_
              refine lv_aload_n hx hb d_Q_rank_123 rfl (lv_at hl 0 rfl) ?_
              refine va_get (D := D) (ci := 7) (v := .ref aQ_hitOf) (C := RR_Q) (T := FF_Q) (N := 41) hx hb hts kin_Q hown hK.1 hP 0 rfl rfl 20 (by decide) (hts _ k4_87) (fun _ h9 => h9) rfl d_Q_rank_124 ?_
              refine lv_iload hx hb d_Q_rank_127 (lv_at hl 5 rfl) ?_
              refine lv_iconst (v := 1) hx hb d_Q_rank_129 (by decide) ?_
              refine lv_isub hx hb d_Q_rank_130 ?_
              obtain ⟨h16, hf⟩ := of_gd hf
              refine va_iald hx hb hK.1 hP 6 0 rfl rfl (ixb_in h16) d_Q_rank_131 ?_
              obtain ⟨h17, hf⟩ := of_gd hf
              obtain ⟨g18, eg18⟩ : ∃ y : Nat → Int32, y = upd Q_hitOf_86 x5_86.toNatClampNeg (Q_hitOf_86 (x5_86 - (1 : Int32)).toNatClampNeg) := ⟨_, rfl⟩
              have hf := of_nm eg18 hf
              refine va_iast hx hb hK.1 hP hD hS 6 0 rfl rfl (ixb_in h17) d_Q_rank_132 (fun H locs hP hD hS => ?_)
              rw [← eg18] at hP hD
              have hP : va_P D vwCl (wv_56 cI cJ cZ aQ aQ_kinds aQ_which aQ_firsts aQ_seconds aQ_thirds aQ_nexts aQ_heads aQ_names aQ_variables aQ_holes aQ_sizes aQ_places aQ_conclusions aQ_premises aQ_counts aQ_hitOf aQ_hitOne aQ_hitTwo aQ_hitTerms aQ_image aQ_bound aQ_waits aQ_waitsFor aQ_seen aQ_goals aQ_steps aQ_looked aQ_under aQ_taken aQ_news aQ_order aQ_there aQ_back Q_thrown_86 Q_all Q_statements Q_hitKind_86 Q_hits_86 Q_tries Q_takenAll Q_takenFirst Q_names Q_holes Q_conclusions Q_premises Q_counts g18 Q_hitOne_86 Q_hitTwo_86) H := hP
              have hD : va_D A (wv_56 cI cJ cZ aQ aQ_kinds aQ_which aQ_firsts aQ_seconds aQ_thirds aQ_nexts aQ_heads aQ_names aQ_variables aQ_holes aQ_sizes aQ_places aQ_conclusions aQ_premises aQ_counts aQ_hitOf aQ_hitOne aQ_hitTwo aQ_hitTerms aQ_image aQ_bound aQ_waits aQ_waitsFor aQ_seen aQ_goals aQ_steps aQ_looked aQ_under aQ_taken aQ_news aQ_order aQ_there aQ_back Q_thrown_86 Q_all Q_statements Q_hitKind_86 Q_hits_86 Q_tries Q_takenAll Q_takenFirst Q_names Q_holes Q_conclusions Q_premises Q_counts g18 Q_hitOne_86 Q_hitTwo_86) := hD
              refine lv_aload_n hx hb d_Q_rank_133 rfl (lv_at hl 0 rfl) ?_
              refine va_get (D := D) (ci := 7) (v := .ref aQ_hitOne) (C := RR_Q) (T := FF_Q) (N := 41) hx hb hts kin_Q hown hK.1 hP 0 rfl rfl 21 (by decide) (hts _ k4_88) (fun _ h9 => h9) rfl d_Q_rank_134 ?_
              refine lv_iload hx hb d_Q_rank_137 (lv_at hl 5 rfl) ?_
              refine lv_aload_n hx hb d_Q_rank_139 rfl (lv_at hl 0 rfl) ?_
              refine va_get (D := D) (ci := 7) (v := .ref aQ_hitOne) (C := RR_Q) (T := FF_Q) (N := 41) hx hb hts kin_Q hown hK.1 hP 0 rfl rfl 21 (by decide) (hts _ k4_88) (fun _ h9 => h9) rfl d_Q_rank_140 ?_
              refine lv_iload hx hb d_Q_rank_143 (lv_at hl 5 rfl) ?_
              refine lv_iconst (v := 1) hx hb d_Q_rank_145 (by decide) ?_
              refine lv_isub hx hb d_Q_rank_146 ?_
              obtain ⟨h19, hf⟩ := of_gd hf
              refine va_iald hx hb hK.1 hP 7 0 rfl rfl (ixb_in h19) d_Q_rank_147 ?_
              obtain ⟨h20, hf⟩ := of_gd hf
              obtain ⟨g21, eg21⟩ : ∃ y : Nat → Int32, y = upd Q_hitOne_86 x5_86.toNatClampNeg (Q_hitOne_86 (x5_86 - (1 : Int32)).toNatClampNeg) := ⟨_, rfl⟩
              have hf := of_nm eg21 hf
              refine va_iast hx hb hK.1 hP hD hS 7 0 rfl rfl (ixb_in h20) d_Q_rank_148 (fun H locs hP hD hS => ?_)
              rw [← eg21] at hP hD
              have hP : va_P D vwCl (wv_56 cI cJ cZ aQ aQ_kinds aQ_which aQ_firsts aQ_seconds aQ_thirds aQ_nexts aQ_heads aQ_names aQ_variables aQ_holes aQ_sizes aQ_places aQ_conclusions aQ_premises aQ_counts aQ_hitOf aQ_hitOne aQ_hitTwo aQ_hitTerms aQ_image aQ_bound aQ_waits aQ_waitsFor aQ_seen aQ_goals aQ_steps aQ_looked aQ_under aQ_taken aQ_news aQ_order aQ_there aQ_back Q_thrown_86 Q_all Q_statements Q_hitKind_86 Q_hits_86 Q_tries Q_takenAll Q_takenFirst Q_names Q_holes Q_conclusions Q_premises Q_counts g18 g21 Q_hitTwo_86) H := hP
              have hD : va_D A (wv_56 cI cJ cZ aQ aQ_kinds aQ_which aQ_firsts aQ_seconds aQ_thirds aQ_nexts aQ_heads aQ_names aQ_variables aQ_holes aQ_sizes aQ_places aQ_conclusions aQ_premises aQ_counts aQ_hitOf aQ_hitOne aQ_hitTwo aQ_hitTerms aQ_image aQ_bound aQ_waits aQ_waitsFor aQ_seen aQ_goals aQ_steps aQ_looked aQ_under aQ_taken aQ_news aQ_order aQ_there aQ_back Q_thrown_86 Q_all Q_statements Q_hitKind_86 Q_hits_86 Q_tries Q_takenAll Q_takenFirst Q_names Q_holes Q_conclusions Q_premises Q_counts g18 g21 Q_hitTwo_86) := hD
              refine lv_aload_n hx hb d_Q_rank_149 rfl (lv_at hl 0 rfl) ?_
              refine va_get (D := D) (ci := 7) (v := .ref aQ_hitTwo) (C := RR_Q) (T := FF_Q) (N := 41) hx hb hts kin_Q hown hK.1 hP 0 rfl rfl 22 (by decide) (hts _ k4_89) (fun _ h9 => h9) rfl d_Q_rank_150 ?_
              refine lv_iload hx hb d_Q_rank_153 (lv_at hl 5 rfl) ?_
              refine lv_aload_n hx hb d_Q_rank_155 rfl (lv_at hl 0 rfl) ?_
              refine va_get (D := D) (ci := 7) (v := .ref aQ_hitTwo) (C := RR_Q) (T := FF_Q) (N := 41) hx hb hts kin_Q hown hK.1 hP 0 rfl rfl 22 (by decide) (hts _ k4_89) (fun _ h9 => h9) rfl d_Q_rank_156 ?_
              refine lv_iload hx hb d_Q_rank_159 (lv_at hl 5 rfl) ?_
              refine lv_iconst (v := 1) hx hb d_Q_rank_161 (by decide) ?_
              refine lv_isub hx hb d_Q_rank_162 ?_
              obtain ⟨h22, hf⟩ := of_gd hf
              refine va_iald hx hb hK.1 hP 8 0 rfl rfl (ixb_in h22) d_Q_rank_163 ?_
              obtain ⟨h23, hf⟩ := of_gd hf
              obtain ⟨g24, eg24⟩ : ∃ y : Nat → Int32, y = upd Q_hitTwo_86 x5_86.toNatClampNeg (Q_hitTwo_86 (x5_86 - (1 : Int32)).toNatClampNeg) := ⟨_, rfl⟩
              have hf := of_nm eg24 hf
              refine va_iast hx hb hK.1 hP hD hS 8 0 rfl rfl (ixb_in h23) d_Q_rank_164 (fun H locs hP hD hS => ?_)
              rw [← eg24] at hP hD
              have hP : va_P D vwCl (wv_56 cI cJ cZ aQ aQ_kinds aQ_which aQ_firsts aQ_seconds aQ_thirds aQ_nexts aQ_heads aQ_names aQ_variables aQ_holes aQ_sizes aQ_places aQ_conclusions aQ_premises aQ_counts aQ_hitOf aQ_hitOne aQ_hitTwo aQ_hitTerms aQ_image aQ_bound aQ_waits aQ_waitsFor aQ_seen aQ_goals aQ_steps aQ_looked aQ_under aQ_taken aQ_news aQ_order aQ_there aQ_back Q_thrown_86 Q_all Q_statements Q_hitKind_86 Q_hits_86 Q_tries Q_takenAll Q_takenFirst Q_names Q_holes Q_conclusions Q_premises Q_counts g18 g21 g24) H := hP
              have hD : va_D A (wv_56 cI cJ cZ aQ aQ_kinds aQ_which aQ_firsts aQ_seconds aQ_thirds aQ_nexts aQ_heads aQ_names aQ_variables aQ_holes aQ_sizes aQ_places aQ_conclusions aQ_premises aQ_counts aQ_hitOf aQ_hitOne aQ_hitTwo aQ_hitTerms aQ_image aQ_bound aQ_waits aQ_waitsFor aQ_seen aQ_goals aQ_steps aQ_looked aQ_under aQ_taken aQ_news aQ_order aQ_there aQ_back Q_thrown_86 Q_all Q_statements Q_hitKind_86 Q_hits_86 Q_tries Q_takenAll Q_takenFirst Q_names Q_holes Q_conclusions Q_premises Q_counts g18 g21 g24) := hD
              obtain ⟨x25, ex25⟩ : ∃ y : Int32, y = x5_86 + (-1 : Int32) := ⟨_, rfl⟩
              refine lv_iinc (v := x25) (lv' := [(5, .int x25), (0, .ref aQ), (1, .int x1_86), (2, .int x2_86), (3, .int x3_86), (4, .int x4_86)]) hx hb d_Q_rank_165 hl (k := 5) rfl (by rw [ex25]; rfl) (by decide) rfl (fun ls hl => ?_)
              have hf := of_nm ex25 hf
              refine lv_goto (tgt := 86) hx hb d_Q_rank_168 (by decide) ?_
              exact ih86 _ _ _ _ _ _ _ _ _ _ _ _ _ hP hD hS _ (lv_sub hl [1, 2, 3, 4, 5, 0] rfl) hf
      intro Q_thrown_26 Q_hitKind_26 Q_hits_26 Q_hitOf_26 Q_hitOne_26 Q_hitTwo_26 x1_26 x2_26 H locs hP hD hS ls hl hf
      rw [f_Q_rank_L26] at hf
      refine lv_iload_n hx hb d_Q_rank_26 rfl (lv_at hl 2 rfl) ?_
      refine lv_aload_n hx hb d_Q_rank_27 rfl (lv_at hl 0 rfl) ?_
      refine va_get (D := D) (ci := 7) (v := .int Q_statements) (C := RR_Q) (T := FF_Q) (N := 41) hx hb hts kin_Q hown hK.1 hP 0 rfl rfl 17 (by decide) (hts _ k4_84) (fun _ h9 => h9) rfl d_Q_rank_28 ?_
      refine lv_icmp_ge (tgt := 212) hx hb d_Q_rank_31 (by decide) (fun c4 => ?_) (fun c4 => ?_)
      · have hf := ite_t c4 hf
        refine lv_aload_n hx hb d_Q_rank_212 rfl (lv_at hl 0 rfl) ?_
        refine va_get (D := D) (ci := 7) (v := .int Q_hits_26) (C := RR_Q) (T := FF_Q) (N := 41) hx hb hts kin_Q hown hK.1 hP 0 rfl rfl 19 (by decide) (hts _ k4_86) (fun _ h9 => h9) rfl d_Q_rank_213 ?_
        obtain rfl := Option.some.inj hf
        exact W.iret (v := Q_hits_26) hx hb hr (fun t ht hW => ⟨rfl, by rw [ht]; exact hP, hD, hS.F ht⟩) hS.2.2 d_Q_rank_216
      · have hf := ite_f c4 hf
        refine lv_aload_n hx hb d_Q_rank_34 rfl (lv_at hl 0 rfl) ?_
        refine lv_iload_n hx hb d_Q_rank_35 rfl (lv_at hl 2 rfl) ?_
        obtain ⟨r5, hr5, hf⟩ := of_bd hf
        refine rd_call (va_runV (As := [.int x2_26]) (rest := []) ⟨hx, hb, hml, hown, hts⟩ (c_Q_namesOf l D cI cJ cZ aQ aQ_kinds aQ_which aQ_firsts aQ_seconds aQ_thirds aQ_nexts aQ_heads aQ_names aQ_variables aQ_holes aQ_sizes aQ_places aQ_conclusions aQ_premises aQ_counts aQ_hitOf aQ_hitOne aQ_hitTwo aQ_hitTerms aQ_image aQ_bound aQ_waits aQ_waitsFor aQ_seen aQ_goals aQ_steps aQ_looked aQ_under aQ_taken aQ_news aQ_order aQ_there aQ_back Q_thrown_26 Q_all Q_statements Q_hitKind_26 Q_hits_26 Q_tries Q_takenAll Q_takenFirst Q_names Q_conclusions Q_premises Q_counts x2_26 r5 hr5) (bigV 1 hts k5_42 k5_44 ks_Q_namesOf k1_9 k5_45 rfl rfl hd_Q_namesOf ⟨Nat.le_of_ble_eq_true rfl, Nat.le_of_ble_eq_true rfl⟩) (rd_preV hK hP [0, 1, 3, 4, 5] rfl 0 rfl rfl rfl) rfl rfl hl.1 rfl (lv_room (Nat.le_of_ble_eq_true rfl)) d_Q_rank_36 ⟨Nat.le_of_ble_eq_true rfl, Nat.le_of_ble_eq_true rfl⟩) ?_
        refine lv_aload_n hx hb d_Q_rank_39 rfl (lv_at hl 0 rfl) ?_
        refine va_get (D := D) (ci := 7) (v := .ref aQ_names) (C := RR_Q) (T := FF_Q) (N := 41) hx hb hts kin_Q hown hK.1 hP 0 rfl rfl 9 (by decide) (hts _ k4_76) (fun _ h9 => h9) rfl d_Q_rank_40 ?_
        refine lv_iload_n hx hb d_Q_rank_43 rfl (lv_at hl 1 rfl) ?_
        obtain ⟨h6, hf⟩ := of_gd hf
        refine va_iald hx hb hK.1 hP 1 0 rfl rfl (ixb_in h6) d_Q_rank_44 ?_
        refine lv_iand hx hb d_Q_rank_45 ?_
        obtain ⟨r7, hr7, hf⟩ := of_bd hf
        refine rd_call (va_runS (As := [.int (r5 &&& (Q_names x1_26.toNatClampNeg))]) (rest := []) ⟨hx, hb, hml, hown, hts⟩ (c_Q_many l D cI cJ cZ (r5 &&& (Q_names x1_26.toNatClampNeg)) r7 hr7) (bigS 1 hts k5_35 k5_36 k1_9 k5_37 rfl rfl hd_Q_many ⟨Nat.le_of_ble_eq_true rfl, Nat.le_of_ble_eq_true rfl⟩) (rd_preS hK hP [] rfl) rfl rfl hl.1 rfl (lv_room (Nat.le_of_ble_eq_true rfl)) d_Q_rank_46 ⟨Nat.le_of_ble_eq_true rfl, Nat.le_of_ble_eq_true rfl⟩) ?_
        refine lv_istore_n (lv' := [(3, .int r7), (0, .ref aQ), (1, .int x1_26), (2, .int x2_26)]) hx hb d_Q_rank_49 rfl hl (by decide) rfl (fun ls hl => ?_)
        refine lv_aload_n hx hb d_Q_rank_50 rfl (lv_at hl 1 rfl) ?_
        refine lv_iload_n hx hb d_Q_rank_51 rfl (lv_at hl 3 rfl) ?_
        obtain ⟨r8, hr8, hf⟩ := of_bd hf
        refine rd_call (va_runV (As := [.int x2_26]) (rest := []) ⟨hx, hb, hml, hown, hts⟩ (c_Q_namesOf l D cI cJ cZ aQ aQ_kinds aQ_which aQ_firsts aQ_seconds aQ_thirds aQ_nexts aQ_heads aQ_names aQ_variables aQ_holes aQ_sizes aQ_places aQ_conclusions aQ_premises aQ_counts aQ_hitOf aQ_hitOne aQ_hitTwo aQ_hitTerms aQ_image aQ_bound aQ_waits aQ_waitsFor aQ_seen aQ_goals aQ_steps aQ_looked aQ_under aQ_taken aQ_news aQ_order aQ_there aQ_back Q_thrown_26 Q_all Q_statements Q_hitKind_26 Q_hits_26 Q_tries Q_takenAll Q_takenFirst Q_names Q_conclusions Q_premises Q_counts x2_26 r8 hr8) (bigV 1 hts k5_42 k5_44 ks_Q_namesOf k1_9 k5_45 rfl rfl hd_Q_namesOf ⟨Nat.le_of_ble_eq_true rfl, Nat.le_of_ble_eq_true rfl⟩) (rd_preV hK hP [0, 1, 3, 4, 5] rfl 0 rfl rfl rfl) rfl rfl hl.1 rfl (lv_room (Nat.le_of_ble_eq_true rfl)) d_Q_rank_52 ⟨Nat.le_of_ble_eq_true rfl, Nat.le_of_ble_eq_true rfl⟩) ?_
        refine lv_aload_n hx hb d_Q_rank_55 rfl (lv_at hl 1 rfl) ?_
        refine va_get (D := D) (ci := 7) (v := .ref aQ_names) (C := RR_Q) (T := FF_Q) (N := 41) hx hb hts kin_Q hown hK.1 hP 0 rfl rfl 9 (by decide) (hts _ k4_76) (fun _ h9 => h9) rfl d_Q_rank_56 ?_
        refine lv_iload_n hx hb d_Q_rank_59 rfl (lv_at hl 2 rfl) ?_
        obtain ⟨h9, hf⟩ := of_gd hf
        refine va_iald hx hb hK.1 hP 1 0 rfl rfl (ixb_in h9) d_Q_rank_60 ?_
        refine lv_ior hx hb d_Q_rank_61 ?_
        obtain ⟨r10, hr10, hf⟩ := of_bd hf
        refine rd_call (va_runS (As := [.int (r8 ||| (Q_names x1_26.toNatClampNeg))]) (rest := []) ⟨hx, hb, hml, hown, hts⟩ (c_Q_many l D cI cJ cZ (r8 ||| (Q_names x1_26.toNatClampNeg)) r10 hr10) (bigS 1 hts k5_35 k5_36 k1_9 k5_37 rfl rfl hd_Q_many ⟨Nat.le_of_ble_eq_true rfl, Nat.le_of_ble_eq_true rfl⟩) (rd_preS hK hP [] rfl) rfl rfl hl.1 rfl (lv_room (Nat.le_of_ble_eq_true rfl)) d_Q_rank_62 ⟨Nat.le_of_ble_eq_true rfl, Nat.le_of_ble_eq_true rfl⟩) ?_
        refine lv_istore (lv' := [(4, .int r10), (3, .int r7), (0, .ref aQ), (1, .int x1_26), (2, .int x2_26)]) hx hb d_Q_rank_65 hl (by decide) rfl (fun ls hl => ?_)
        refine lv_iload hx hb d_Q_rank_67 (lv_at hl 0 rfl) ?_
        refine lv_if_ne (tgt := 76) hx hb d_Q_rank_69 (by decide) (fun c11 => ?_) (fun c11 => ?_)
        · have hf := ite_f c11 hf
          refine lv_iload hx hb d_Q_rank_76 (lv_at hl 0 rfl) ?_
          refine lv_istore (lv' := [(4, .int r10), (3, .int r7), (0, .ref aQ), (1, .int x1_26), (2, .int x2_26)]) hx hb d_Q_rank_78 hl (by decide) rfl (fun ls hl => ?_)
          refine lv_aload_n hx hb d_Q_rank_80 rfl (lv_at hl 2 rfl) ?_
          refine va_get (D := D) (ci := 7) (v := .int Q_hits_26) (C := RR_Q) (T := FF_Q) (N := 41) hx hb hts kin_Q hown hK.1 hP 0 rfl rfl 19 (by decide) (hts _ k4_86) (fun _ h9 => h9) rfl d_Q_rank_81 ?_
          refine lv_istore (lv' := [(5, .int Q_hits_26), (4, .int r10), (3, .int r7), (0, .ref aQ), (1, .int x1_26), (2, .int x2_26)]) hx hb d_Q_rank_84 hl (by decide) rfl (fun ls hl => ?_)
          exact hL86 FU _ _ _ _ _ _ _ _ _ _ _ _ _ hP hD hS _ (lv_sub hl [3, 4, 5, 2, 1, 0] rfl) hf
        · have hf := ite_t c11 hf
          refine lv_iconst (v := 1) hx hb d_Q_rank_72 (by decide) ?_
          refine lv_goto (tgt := 78) hx hb d_Q_rank_73 (by decide) ?_
          refine lv_istore (lv' := [(4, .int (1 : Int32)), (3, .int r7), (0, .ref aQ), (1, .int x1_26), (2, .int x2_26)]) hx hb d_Q_rank_78 hl (by decide) rfl (fun ls hl => ?_)
          refine lv_aload_n hx hb d_Q_rank_80 rfl (lv_at hl 2 rfl) ?_
          refine va_get (D := D) (ci := 7) (v := .int Q_hits_26) (C := RR_Q) (T := FF_Q) (N := 41) hx hb hts kin_Q hown hK.1 hP 0 rfl rfl 19 (by decide) (hts _ k4_86) (fun _ h9 => h9) rfl d_Q_rank_81 ?_
          refine lv_istore (lv' := [(5, .int Q_hits_26), (4, .int (1 : Int32)), (3, .int r7), (0, .ref aQ), (1, .int x1_26), (2, .int x2_26)]) hx hb d_Q_rank_84 hl (by decide) rfl (fun ls hl => ?_)
          exact hL86 FU _ _ _ _ _ _ _ _ _ _ _ _ _ hP hD hS _ (lv_sub hl [3, 4, 5, 2, 1, 0] rfl) hf
  rw [f_Q_rank] at hf
  refine lv_aload_n hx hb d_Q_rank_0 rfl (lv_at hl 0 rfl) ?_
  refine lv_aload_n hx hb d_Q_rank_1 rfl (lv_at hl 0 rfl) ?_
  refine lv_iload_n hx hb d_Q_rank_2 rfl (lv_at hl 1 rfl) ?_
  obtain ⟨r1, hr1, hf⟩ := of_bd hf
  refine rd_call (va_runV (As := [.int p0]) (rest := [.ref aQ]) ⟨hx, hb, hml, hown, hts⟩ (c_Q_wrongGoal l D cI cJ cZ aQ aQ_kinds aQ_which aQ_firsts aQ_seconds aQ_thirds aQ_nexts aQ_heads aQ_names aQ_variables aQ_holes aQ_sizes aQ_places aQ_conclusions aQ_premises aQ_counts aQ_hitOf aQ_hitOne aQ_hitTwo aQ_hitTerms aQ_image aQ_bound aQ_waits aQ_waitsFor aQ_seen aQ_goals aQ_steps aQ_looked aQ_under aQ_taken aQ_news aQ_order aQ_there aQ_back Q_thrown Q_all Q_statements Q_hitKind Q_hits Q_tries Q_takenAll Q_takenFirst Q_holes p0 r1 hr1) (bigV 1 hts k5_27 k5_29 ks_Q_wrongGoal k1_9 k5_30 rfl rfl hd_Q_wrongGoal ⟨Nat.le_of_ble_eq_true rfl, Nat.le_of_ble_eq_true rfl⟩) (rd_preV hK hP [0, 2] rfl 0 rfl rfl rfl) rfl rfl hl.1 rfl (lv_room (Nat.le_of_ble_eq_true rfl)) d_Q_rank_3 ⟨Nat.le_of_ble_eq_true rfl, Nat.le_of_ble_eq_true rfl⟩) ?_
  obtain ⟨r2, hr2, hf⟩ := of_bd hf
  refine wr_call (ws' := (wv_56 cI cJ cZ aQ aQ_kinds aQ_which aQ_firsts aQ_seconds aQ_thirds aQ_nexts aQ_heads aQ_names aQ_variables aQ_holes aQ_sizes aQ_places aQ_conclusions aQ_premises aQ_counts aQ_hitOf aQ_hitOne aQ_hitTwo aQ_hitTerms aQ_image aQ_bound aQ_waits aQ_waitsFor aQ_seen aQ_goals aQ_steps aQ_looked aQ_under aQ_taken aQ_news aQ_order aQ_there aQ_back r2.2 Q_all Q_statements Q_hitKind Q_hits Q_tries Q_takenAll Q_takenFirst Q_names Q_holes Q_conclusions Q_premises Q_counts Q_hitOf Q_hitOne Q_hitTwo)) (va_runV (As := [.int r1]) (rest := []) ⟨hx, hb, hml, hown, hts⟩ (c_Q_refuses l D cI cJ cZ aQ aQ_kinds aQ_which aQ_firsts aQ_seconds aQ_thirds aQ_nexts aQ_heads aQ_names aQ_variables aQ_holes aQ_sizes aQ_places aQ_conclusions aQ_premises aQ_counts aQ_hitOf aQ_hitOne aQ_hitTwo aQ_hitTerms aQ_image aQ_bound aQ_waits aQ_waitsFor aQ_seen aQ_goals aQ_steps aQ_looked aQ_under aQ_taken aQ_news aQ_order aQ_there aQ_back _ Q_thrown Q_all Q_statements Q_hitKind Q_hits Q_tries Q_takenAll Q_takenFirst r1 r2 hr2) (bigV 1 hts k4_203 k4_205 ks_Q_refuses k1_9 k4_206 rfl rfl hd_Q_refuses ⟨Nat.le_of_ble_eq_true rfl, Nat.le_of_ble_eq_true rfl⟩) (wr_preV hK hP hD [0] rfl (by decide) rfl 0 rfl rfl rfl) rfl rfl hl.1 rfl (lv_room (Nat.le_of_ble_eq_true rfl)) d_Q_rank_6 ⟨Nat.le_of_ble_eq_true rfl, Nat.le_of_ble_eq_true rfl⟩) hP hD hS hA [0] [1, 2, 3, 4, 5, 6, 7, 8] rfl rfl (by decide) (by decide) [8, 0, 1, 2, 3, 4, 5, 6, 7] (by decide) rfl (fun H locs hP hD hS => ?_)
  refine lv_if_eq (tgt := 14) hx hb d_Q_rank_9 (by decide) (fun c3 => ?_) (fun c3 => ?_)
  · have hf := ite_t c3 hf
    refine lv_aload_n hx hb d_Q_rank_14 rfl (lv_at hl 0 rfl) ?_
    refine lv_iconst (v := 3) hx hb d_Q_rank_15 (by decide) ?_
    refine va_put (D := D) (ci := 7) (v := .int (3 : Int32)) (ty := .int) (C := RR_Q) (T := FF_Q) (N := 41) hx hb hts kin_Q TT_Q tok_Q nok_Q hown hK.1 hP hD hS 0 rfl rfl 18 (by decide) (hts _ k4_85) (fun _ h9 => h9) rfl (by decide +kernel) rfl rfl (Nat.le_of_ble_eq_true rfl) d_Q_rank_16 (fun H locs hP hD hS => ?_)
    have hP : va_P D vwCl (wv_56 cI cJ cZ aQ aQ_kinds aQ_which aQ_firsts aQ_seconds aQ_thirds aQ_nexts aQ_heads aQ_names aQ_variables aQ_holes aQ_sizes aQ_places aQ_conclusions aQ_premises aQ_counts aQ_hitOf aQ_hitOne aQ_hitTwo aQ_hitTerms aQ_image aQ_bound aQ_waits aQ_waitsFor aQ_seen aQ_goals aQ_steps aQ_looked aQ_under aQ_taken aQ_news aQ_order aQ_there aQ_back r2.2 Q_all Q_statements (3 : Int32) Q_hits Q_tries Q_takenAll Q_takenFirst Q_names Q_holes Q_conclusions Q_premises Q_counts Q_hitOf Q_hitOne Q_hitTwo) H := hP
    have hD : va_D A (wv_56 cI cJ cZ aQ aQ_kinds aQ_which aQ_firsts aQ_seconds aQ_thirds aQ_nexts aQ_heads aQ_names aQ_variables aQ_holes aQ_sizes aQ_places aQ_conclusions aQ_premises aQ_counts aQ_hitOf aQ_hitOne aQ_hitTwo aQ_hitTerms aQ_image aQ_bound aQ_waits aQ_waitsFor aQ_seen aQ_goals aQ_steps aQ_looked aQ_under aQ_taken aQ_news aQ_order aQ_there aQ_back r2.2 Q_all Q_statements (3 : Int32) Q_hits Q_tries Q_takenAll Q_takenFirst Q_names Q_holes Q_conclusions Q_premises Q_counts Q_hitOf Q_hitOne Q_hitTwo) := hD
    refine lv_aload_n hx hb d_Q_rank_19 rfl (lv_at hl 0 rfl) ?_
    refine lv_iconst (v := 0) hx hb d_Q_rank_20 (by decide) ?_
    refine va_put (D := D) (ci := 7) (v := .int (0 : Int32)) (ty := .int) (C := RR_Q) (T := FF_Q) (N := 41) hx hb hts kin_Q TT_Q tok_Q nok_Q hown hK.1 hP hD hS 0 rfl rfl 19 (by decide) (hts _ k4_86) (fun _ h9 => h9) rfl (by decide +kernel) rfl rfl (Nat.le_of_ble_eq_true rfl) d_Q_rank_21 (fun H locs hP hD hS => ?_)
    have hP : va_P D vwCl (wv_56 cI cJ cZ aQ aQ_kinds aQ_which aQ_firsts aQ_seconds aQ_thirds aQ_nexts aQ_heads aQ_names aQ_variables aQ_holes aQ_sizes aQ_places aQ_conclusions aQ_premises aQ_counts aQ_hitOf aQ_hitOne aQ_hitTwo aQ_hitTerms aQ_image aQ_bound aQ_waits aQ_waitsFor aQ_seen aQ_goals aQ_steps aQ_looked aQ_under aQ_taken aQ_news aQ_order aQ_there aQ_back r2.2 Q_all Q_statements (3 : Int32) (0 : Int32) Q_tries Q_takenAll Q_takenFirst Q_names Q_holes Q_conclusions Q_premises Q_counts Q_hitOf Q_hitOne Q_hitTwo) H := hP
    have hD : va_D A (wv_56 cI cJ cZ aQ aQ_kinds aQ_which aQ_firsts aQ_seconds aQ_thirds aQ_nexts aQ_heads aQ_names aQ_variables aQ_holes aQ_sizes aQ_places aQ_conclusions aQ_premises aQ_counts aQ_hitOf aQ_hitOne aQ_hitTwo aQ_hitTerms aQ_image aQ_bound aQ_waits aQ_waitsFor aQ_seen aQ_goals aQ_steps aQ_looked aQ_under aQ_taken aQ_news aQ_order aQ_there aQ_back r2.2 Q_all Q_statements (3 : Int32) (0 : Int32) Q_tries Q_takenAll Q_takenFirst Q_names Q_holes Q_conclusions Q_premises Q_counts Q_hitOf Q_hitOne Q_hitTwo) := hD
    refine lv_iconst (v := 0) hx hb d_Q_rank_24 (by decide) ?_
    refine lv_istore_n (lv' := [(2, .int (0 : Int32)), (0, .ref aQ), (1, .int p0)]) hx hb d_Q_rank_25 rfl hl (by decide) rfl (fun ls hl => ?_)
    exact hL26 FU _ _ _ _ _ _ _ _ _ _ hP hD hS _ (lv_sub hl [1, 2, 0] rfl) hf
  · have hf := ite_f c3 hf
    refine lv_iconst (v := 0) hx hb d_Q_rank_12 (by decide) ?_
    obtain rfl := Option.some.inj hf
    exact W.iret (v := (0 : Int32)) hx hb hr (fun t ht hW => ⟨rfl, by rw [ht]; exact hP, hD, hS.F ht⟩) hS.2.2 d_Q_rank_13
def f_Q_hit_II_B88 (Q_hitKind : Int32) (Q_hits : Int32) (Q_hitOf : (Nat → Int32)) (Q_hitOne : (Nat → Int32)) (Q_hitTwo : (Nat → Int32)) (Q_hitTerms : (Nat → Int32)) (Q_thrown_88 : Int32) (x1_88 : Int32) (x2_88 : Int32) (s0_88 : Int32) : Option (Int32 × Int32) :=
  if x2_88 < (4 : Int32) then
    some ((-1 : Int32), Q_thrown_88)
  else
    if x2_88 < ((4 : Int32) + s0_88) then
      gd (ixb ((((8 : Int32) * x1_88) + x2_88) - (4 : Int32)) 240) <|
      some (Q_hitTerms ((((8 : Int32) * x1_88) + x2_88) - (4 : Int32)).toNatClampNeg, Q_thrown_88)
    else
      some ((-1 : Int32), Q_thrown_88)
def f_Q_hit_II (Q_thrown : Int32) (Q_hitKind : Int32) (Q_hits : Int32) (Q_hitOf : (Nat → Int32)) (Q_hitOne : (Nat → Int32)) (Q_hitTwo : (Nat → Int32)) (Q_hitTerms : (Nat → Int32)) (p0 : Int32) (p1 : Int32) : Option (Int32 × Int32) :=
  if p0 < 0 then
    some ((-1 : Int32), (0 : Int32))
  else
    if Q_hits ≤ p0 then
      some ((-1 : Int32), (0 : Int32))
    else
      if 0 ≤ p1 then
        if (3 : Int32) ≤ p1 then
          if Q_hitKind = (1 : Int32) then
            f_Q_hit_II_B88 Q_hitKind Q_hits Q_hitOf Q_hitOne Q_hitTwo Q_hitTerms (0 : Int32) p0 p1 (4 : Int32)
          else
            if Q_hitKind = (2 : Int32) then
              f_Q_hit_II_B88 Q_hitKind Q_hits Q_hitOf Q_hitOne Q_hitTwo Q_hitTerms (0 : Int32) p0 p1 (8 : Int32)
            else
              f_Q_hit_II_B88 Q_hitKind Q_hits Q_hitOf Q_hitOne Q_hitTwo Q_hitTerms (0 : Int32) p0 p1 (0 : Int32)
        else
          if p1 = 0 then
            gd (ixb p0 30) <|
            some (Q_hitOf p0.toNatClampNeg, (0 : Int32))
          else
            if p1 = (1 : Int32) then
              gd (ixb p0 30) <|
              some (Q_hitOne p0.toNatClampNeg, (0 : Int32))
            else
              gd (ixb p0 30) <|
              some (Q_hitTwo p0.toNatClampNeg, (0 : Int32))
      else
        some ((-1 : Int32), (0 : Int32))
abbrev rm_Q_hit_II : Room := { frames := 0, cells := 0, slots := 0, locals := 0 }
set_option maxHeartbeats 4000000 in
set_option maxRecDepth 100000 in
theorem c_Q_hit_II (l : Launch) (D : va_G) (cI cJ cZ : ClassId) (aQ aQ_kinds aQ_which aQ_firsts aQ_seconds aQ_thirds aQ_nexts aQ_heads aQ_names aQ_variables aQ_holes aQ_sizes aQ_places aQ_conclusions aQ_premises aQ_counts aQ_hitOf aQ_hitOne aQ_hitTwo aQ_hitTerms aQ_image aQ_bound aQ_waits aQ_waitsFor aQ_seen aQ_goals aQ_steps aQ_looked aQ_under aQ_taken aQ_news aQ_order aQ_there aQ_back : Nat) (sz : Nat) (Q_thrown : Int32) (Q_all : Int32) (Q_statements : Int32) (Q_hitKind : Int32) (Q_hits : Int32) (Q_tries : Int32) (Q_takenAll : Int32) (Q_takenFirst : Int32) (Q_hitOf : (Nat → Int32)) (Q_hitOne : (Nat → Int32)) (Q_hitTwo : (Nat → Int32)) (Q_hitTerms : (Nat → Int32)) (p0 : Int32) (p1 : Int32) (o : Int32 × Int32) (hf : f_Q_hit_II Q_thrown Q_hitKind Q_hits Q_hitOf Q_hitOne Q_hitTwo Q_hitTerms p0 p1 = some o) : Met l y_Q_hit_II (ws_Q_hit_II) rm_Q_hit_II (WPc D vwCl cI cJ cZ [.ref aQ, .int p0, .int p1] (wv_57 cI cJ cZ aQ aQ_kinds aQ_which aQ_firsts aQ_seconds aQ_thirds aQ_nexts aQ_heads aQ_names aQ_variables aQ_holes aQ_sizes aQ_places aQ_conclusions aQ_premises aQ_counts aQ_hitOf aQ_hitOne aQ_hitTwo aQ_hitTerms aQ_image aQ_bound aQ_waits aQ_waitsFor aQ_seen aQ_goals aQ_steps aQ_looked aQ_under aQ_taken aQ_news aQ_order aQ_there aQ_back Q_thrown Q_all Q_statements Q_hitKind Q_hits Q_tries Q_takenAll Q_takenFirst Q_hitOf Q_hitOne Q_hitTwo Q_hitTerms) sz) (WQ D vwCl (some (.int o.1)) (wv_57 cI cJ cZ aQ aQ_kinds aQ_which aQ_firsts aQ_seconds aQ_thirds aQ_nexts aQ_heads aQ_names aQ_variables aQ_holes aQ_sizes aQ_places aQ_conclusions aQ_premises aQ_counts aQ_hitOf aQ_hitOne aQ_hitTwo aQ_hitTerms aQ_image aQ_bound aQ_waits aQ_waitsFor aQ_seen aQ_goals aQ_steps aQ_looked aQ_under aQ_taken aQ_news aQ_order aQ_there aQ_back o.2 Q_all Q_statements Q_hitKind Q_hits Q_tries Q_takenAll Q_takenFirst Q_hitOf Q_hitOne Q_hitTwo Q_hitTerms) (va_A (wv_57 cI cJ cZ aQ aQ_kinds aQ_which aQ_firsts aQ_seconds aQ_thirds aQ_nexts aQ_heads aQ_names aQ_variables aQ_holes aQ_sizes aQ_places aQ_conclusions aQ_premises aQ_counts aQ_hitOf aQ_hitOne aQ_hitTwo aQ_hitTerms aQ_image aQ_bound aQ_waits aQ_waitsFor aQ_seen aQ_goals aQ_steps aQ_looked aQ_under aQ_taken aQ_news aQ_order aQ_there aQ_back Q_thrown Q_all Q_statements Q_hitKind Q_hits Q_tries Q_takenAll Q_takenFirst Q_hitOf Q_hitOne Q_hitTwo Q_hitTerms) sz)) 0 0 (va_A (wv_57 cI cJ cZ aQ aQ_kinds aQ_which aQ_firsts aQ_seconds aQ_thirds aQ_nexts aQ_heads aQ_names aQ_variables aQ_holes aQ_sizes aQ_places aQ_conclusions aQ_premises aQ_counts aQ_hitOf aQ_hitOne aQ_hitTwo aQ_hitTerms aQ_image aQ_bound aQ_waits aQ_waitsFor aQ_seen aQ_goals aQ_steps aQ_looked aQ_under aQ_taken aQ_news aQ_order aQ_there aQ_back Q_thrown Q_all Q_statements Q_hitKind Q_hits Q_tries Q_takenAll Q_takenFirst Q_hitOf Q_hitOne Q_hitTwo Q_hitTerms) sz) := by
  refine Met.ofW (cc := b_Q_hit_II) (maxL := 4) (ret := (some .int)) (by decide) rfl ?_
  intro p e s m args below meth c s₁ B hml hv
  obtain ⟨rfl, rfl, hP, hK, hD0⟩ := hv
  have hx := B.exec
  have hb := B.bytes
  have hr := B.returns
  have hts : ∀ w ∈ BG, w.before _ s = true := fun w h => atoms_spec (ws := (ws_Q_hit_II)) B.pre w (List.mem_cons_of_mem _ h)
  have hown : s.vm.findClass RR_Q = some m.cls := findClass_of_methodNamed B.named
  have hlocks := B.notSynchronized
  have hD := hD0.self (sz := s.heap.size)
  have hA : ∀ q : Nat, s.heap.size ≤ q → va_A (wv_57 cI cJ cZ aQ aQ_kinds aQ_which aQ_firsts aQ_seconds aQ_thirds aQ_nexts aQ_heads aQ_names aQ_variables aQ_holes aQ_sizes aQ_places aQ_conclusions aQ_premises aQ_counts aQ_hitOf aQ_hitOne aQ_hitTwo aQ_hitTerms aQ_image aQ_bound aQ_waits aQ_waitsFor aQ_seen aQ_goals aQ_steps aQ_looked aQ_under aQ_taken aQ_news aQ_order aQ_there aQ_back Q_thrown Q_all Q_statements Q_hitKind Q_hits Q_tries Q_takenAll Q_takenFirst Q_hitOf Q_hitOne Q_hitTwo Q_hitTerms) s.heap.size q := fun q h => Or.inr h
  have hS : va_S (va_A (wv_57 cI cJ cZ aQ aQ_kinds aQ_which aQ_firsts aQ_seconds aQ_thirds aQ_nexts aQ_heads aQ_names aQ_variables aQ_holes aQ_sizes aQ_places aQ_conclusions aQ_premises aQ_counts aQ_hitOf aQ_hitOne aQ_hitTwo aQ_hitTerms aQ_image aQ_bound aQ_waits aQ_waitsFor aQ_seen aQ_goals aQ_steps aQ_looked aQ_under aQ_taken aQ_news aQ_order aQ_there aQ_back Q_thrown Q_all Q_statements Q_hitKind Q_hits Q_tries Q_takenAll Q_takenFirst Q_hitOf Q_hitOne Q_hitTwo Q_hitTerms) s.heap.size) s.heap s.heap [] := va_S.rf
  generalize va_A (wv_57 cI cJ cZ aQ aQ_kinds aQ_which aQ_firsts aQ_seconds aQ_thirds aQ_nexts aQ_heads aQ_names aQ_variables aQ_holes aQ_sizes aQ_places aQ_conclusions aQ_premises aQ_counts aQ_hitOf aQ_hitOne aQ_hitTwo aQ_hitTerms aQ_image aQ_bound aQ_waits aQ_waitsFor aQ_seen aQ_goals aQ_steps aQ_looked aQ_under aQ_taken aQ_news aQ_order aQ_there aQ_back Q_thrown Q_all Q_statements Q_hitKind Q_hits Q_tries Q_takenAll Q_takenFirst Q_hitOf Q_hitOne Q_hitTwo Q_hitTerms) s.heap.size = A at hD hA hS ⊢
  have hl := lv_entry ([.ref aQ, .int p0, .int p1]) (n := 4) (Nat.le_of_ble_eq_true rfl)
  rw [lg_entry_eq]
  generalize (lg_sl ([.ref aQ, .int p0, .int p1]) ++ List.replicate (4 - (lg_sl ([.ref aQ, .int p0, .int p1])).length) Slot.unset).toArray = ls at hl ⊢
  have hl : lv_has ls 4 [(0, .ref aQ), (1, .int p0), (2, .int p1)] := hl
  have hB88 : ∀ (Q_thrown_88 : Int32) (x1_88 : Int32) (x2_88 : Int32) (s0_88 : Int32), ∀ (H : Heap) (locs : List Loc), va_P D vwCl (wv_57 cI cJ cZ aQ aQ_kinds aQ_which aQ_firsts aQ_seconds aQ_thirds aQ_nexts aQ_heads aQ_names aQ_variables aQ_holes aQ_sizes aQ_places aQ_conclusions aQ_premises aQ_counts aQ_hitOf aQ_hitOne aQ_hitTwo aQ_hitTerms aQ_image aQ_bound aQ_waits aQ_waitsFor aQ_seen aQ_goals aQ_steps aQ_looked aQ_under aQ_taken aQ_news aQ_order aQ_there aQ_back Q_thrown_88 Q_all Q_statements Q_hitKind Q_hits Q_tries Q_takenAll Q_takenFirst Q_hitOf Q_hitOne Q_hitTwo Q_hitTerms) H → va_D A (wv_57 cI cJ cZ aQ aQ_kinds aQ_which aQ_firsts aQ_seconds aQ_thirds aQ_nexts aQ_heads aQ_names aQ_variables aQ_holes aQ_sizes aQ_places aQ_conclusions aQ_premises aQ_counts aQ_hitOf aQ_hitOne aQ_hitTwo aQ_hitTerms aQ_image aQ_bound aQ_waits aQ_waitsFor aQ_seen aQ_goals aQ_steps aQ_looked aQ_under aQ_taken aQ_news aQ_order aQ_there aQ_back Q_thrown_88 Q_all Q_statements Q_hitKind Q_hits Q_tries Q_takenAll Q_takenFirst Q_hitOf Q_hitOne Q_hitTwo Q_hitTerms) → va_S A s.heap H locs → ∀ (ls : Array Slot), lv_has ls 4 [(0, .ref aQ), (1, .int x1_88), (2, .int x2_88)] → f_Q_hit_II_B88 Q_hitKind Q_hits Q_hitOf Q_hitOne Q_hitTwo Q_hitTerms Q_thrown_88 x1_88 x2_88 s0_88 = some o → W p l e (headSpec (ws_Q_hit_II) rm_Q_hit_II).room s m ([.ref aQ, .int p0, .int p1] : List Value).toArray below meth c H locs 0 0 (MQ below (WQ D vwCl (some (.int o.1)) (wv_57 cI cJ cZ aQ aQ_kinds aQ_which aQ_firsts aQ_seconds aQ_thirds aQ_nexts aQ_heads aQ_names aQ_variables aQ_holes aQ_sizes aQ_places aQ_conclusions aQ_premises aQ_counts aQ_hitOf aQ_hitOne aQ_hitTwo aQ_hitTerms aQ_image aQ_bound aQ_waits aQ_waitsFor aQ_seen aQ_goals aQ_steps aQ_looked aQ_under aQ_taken aQ_news aQ_order aQ_there aQ_back o.2 Q_all Q_statements Q_hitKind Q_hits Q_tries Q_takenAll Q_takenFirst Q_hitOf Q_hitOne Q_hitTwo Q_hitTerms) A) ([.ref aQ, .int p0, .int p1] : List Value).toArray s 0 0 A) (F0 m 88 ls [.int s0_88]) := by
    intro Q_thrown_88 x1_88 x2_88 s0_88 H locs hP hD hS ls hl hf
    rw [f_Q_hit_II_B88] at hf
    refine lv_istore_n (lv' := [(3, .int s0_88), (0, .ref aQ), (1, .int x1_88), (2, .int x2_88)]) hx hb d_Q_hit_II_88 rfl hl (by decide) rfl (fun ls hl => ?_)
    refine lv_iload_n hx hb d_Q_hit_II_89 rfl (lv_at hl 3 rfl) ?_
    refine lv_iconst (v := 4) hx hb d_Q_hit_II_90 (by decide) ?_
    refine lv_icmp_lt (tgt := 101) hx hb d_Q_hit_II_91 (by decide) (fun c12 => ?_) (fun c12 => ?_)
    · have hf := ite_t c12 hf
      refine lv_iconst (v := -1) hx hb d_Q_hit_II_101 (by decide) ?_
      refine lv_goto (tgt := 118) hx hb d_Q_hit_II_102 (by decide) ?_
      obtain rfl := Option.some.inj hf
      exact W.iret (v := (-1 : Int32)) hx hb hr (fun t ht hW => ⟨rfl, by rw [ht]; exact hP, hD, hS.F ht⟩) hS.2.2 d_Q_hit_II_118
    · have hf := ite_f c12 hf
      refine lv_iload_n hx hb d_Q_hit_II_94 rfl (lv_at hl 3 rfl) ?_
      refine lv_iconst (v := 4) hx hb d_Q_hit_II_95 (by decide) ?_
      refine lv_iload_n hx hb d_Q_hit_II_96 rfl (lv_at hl 0 rfl) ?_
      refine lv_iadd hx hb d_Q_hit_II_97 ?_
      refine lv_icmp_lt (tgt := 105) hx hb d_Q_hit_II_98 (by decide) (fun c13 => ?_) (fun c13 => ?_)
      · have hf := ite_t c13 hf
        refine lv_aload_n hx hb d_Q_hit_II_105 rfl (lv_at hl 1 rfl) ?_
        refine va_get (D := D) (ci := 7) (v := .ref aQ_hitTerms) (C := RR_Q) (T := FF_Q) (N := 41) hx hb hts kin_Q hown hK.1 hP 0 rfl rfl 23 (by decide) (hts _ k4_90) (fun _ h9 => h9) rfl d_Q_hit_II_106 ?_
        refine lv_bipush (v := 8) hx hb d_Q_hit_II_109 (by decide) ?_
        refine lv_iload_n hx hb d_Q_hit_II_111 rfl (lv_at hl 2 rfl) ?_
        refine lv_imul hx hb d_Q_hit_II_112 ?_
        refine lv_iload_n hx hb d_Q_hit_II_113 rfl (lv_at hl 3 rfl) ?_
        refine lv_iadd hx hb d_Q_hit_II_114 ?_
        refine lv_iconst (v := 4) hx hb d_Q_hit_II_115 (by decide) ?_
        refine lv_isub hx hb d_Q_hit_II_116 ?_
        obtain ⟨h14, hf⟩ := of_gd hf
        refine va_iald hx hb hK.1 hP 4 0 rfl rfl (ixb_in h14) d_Q_hit_II_117 ?_
        obtain rfl := Option.some.inj hf
        exact W.iret (v := Q_hitTerms ((((8 : Int32) * x1_88) + x2_88) - (4 : Int32)).toNatClampNeg) hx hb hr (fun t ht hW => ⟨rfl, by rw [ht]; exact hP, hD, hS.F ht⟩) hS.2.2 d_Q_hit_II_118
      · have hf := ite_f c13 hf
        refine lv_iconst (v := -1) hx hb d_Q_hit_II_101 (by decide) ?_
        refine lv_goto (tgt := 118) hx hb d_Q_hit_II_102 (by decide) ?_
        obtain rfl := Option.some.inj hf
        exact W.iret (v := (-1 : Int32)) hx hb hr (fun t ht hW => ⟨rfl, by rw [ht]; exact hP, hD, hS.F ht⟩) hS.2.2 d_Q_hit_II_118
  rw [f_Q_hit_II] at hf
  refine lv_aload_n hx hb d_Q_hit_II_0 rfl (lv_at hl 0 rfl) ?_
  refine lv_iconst (v := 0) hx hb d_Q_hit_II_1 (by decide) ?_
  refine va_put (D := D) (ci := 7) (v := .int (0 : Int32)) (ty := .int) (C := RR_Q) (T := FF_Q) (N := 41) hx hb hts kin_Q TT_Q tok_Q nok_Q hown hK.1 hP hD hS 0 rfl rfl 0 (by decide) (hts _ k4_67) (fun _ h9 => h9) rfl (by decide +kernel) rfl rfl (Nat.le_of_ble_eq_true rfl) d_Q_hit_II_2 (fun H locs hP hD hS => ?_)
  have hP : va_P D vwCl (wv_57 cI cJ cZ aQ aQ_kinds aQ_which aQ_firsts aQ_seconds aQ_thirds aQ_nexts aQ_heads aQ_names aQ_variables aQ_holes aQ_sizes aQ_places aQ_conclusions aQ_premises aQ_counts aQ_hitOf aQ_hitOne aQ_hitTwo aQ_hitTerms aQ_image aQ_bound aQ_waits aQ_waitsFor aQ_seen aQ_goals aQ_steps aQ_looked aQ_under aQ_taken aQ_news aQ_order aQ_there aQ_back (0 : Int32) Q_all Q_statements Q_hitKind Q_hits Q_tries Q_takenAll Q_takenFirst Q_hitOf Q_hitOne Q_hitTwo Q_hitTerms) H := hP
  have hD : va_D A (wv_57 cI cJ cZ aQ aQ_kinds aQ_which aQ_firsts aQ_seconds aQ_thirds aQ_nexts aQ_heads aQ_names aQ_variables aQ_holes aQ_sizes aQ_places aQ_conclusions aQ_premises aQ_counts aQ_hitOf aQ_hitOne aQ_hitTwo aQ_hitTerms aQ_image aQ_bound aQ_waits aQ_waitsFor aQ_seen aQ_goals aQ_steps aQ_looked aQ_under aQ_taken aQ_news aQ_order aQ_there aQ_back (0 : Int32) Q_all Q_statements Q_hitKind Q_hits Q_tries Q_takenAll Q_takenFirst Q_hitOf Q_hitOne Q_hitTwo Q_hitTerms) := hD
  refine lv_iload_n hx hb d_Q_hit_II_5 rfl (lv_at hl 1 rfl) ?_
  refine lv_if_lt (tgt := 21) hx hb d_Q_hit_II_6 (by decide) (fun c1 => ?_) (fun c1 => ?_)
  · have hf := ite_t c1 hf
    refine lv_iconst (v := -1) hx hb d_Q_hit_II_21 (by decide) ?_
    obtain rfl := Option.some.inj hf
    exact W.iret (v := (-1 : Int32)) hx hb hr (fun t ht hW => ⟨rfl, by rw [ht]; exact hP, hD, hS.F ht⟩) hS.2.2 d_Q_hit_II_22
  · have hf := ite_f c1 hf
    refine lv_iload_n hx hb d_Q_hit_II_9 rfl (lv_at hl 1 rfl) ?_
    refine lv_aload_n hx hb d_Q_hit_II_10 rfl (lv_at hl 0 rfl) ?_
    refine va_get (D := D) (ci := 7) (v := .int Q_hits) (C := RR_Q) (T := FF_Q) (N := 41) hx hb hts kin_Q hown hK.1 hP 0 rfl rfl 19 (by decide) (hts _ k4_86) (fun _ h9 => h9) rfl d_Q_hit_II_11 ?_
    refine lv_icmp_ge (tgt := 21) hx hb d_Q_hit_II_14 (by decide) (fun c2 => ?_) (fun c2 => ?_)
    · have hf := ite_t c2 hf
      refine lv_iconst (v := -1) hx hb d_Q_hit_II_21 (by decide) ?_
      obtain rfl := Option.some.inj hf
      exact W.iret (v := (-1 : Int32)) hx hb hr (fun t ht hW => ⟨rfl, by rw [ht]; exact hP, hD, hS.F ht⟩) hS.2.2 d_Q_hit_II_22
    · have hf := ite_f c2 hf
      refine lv_iload_n hx hb d_Q_hit_II_17 rfl (lv_at hl 2 rfl) ?_
      refine lv_if_ge (tgt := 23) hx hb d_Q_hit_II_18 (by decide) (fun c3 => ?_) (fun c3 => ?_)
      · have hf := ite_t c3 hf
        refine lv_iload_n hx hb d_Q_hit_II_23 rfl (lv_at hl 2 rfl) ?_
        refine lv_iconst (v := 3) hx hb d_Q_hit_II_24 (by decide) ?_
        refine lv_icmp_ge (tgt := 62) hx hb d_Q_hit_II_25 (by decide) (fun c4 => ?_) (fun c4 => ?_)
        · have hf := ite_t c4 hf
          refine lv_aload_n hx hb d_Q_hit_II_62 rfl (lv_at hl 0 rfl) ?_
          refine va_get (D := D) (ci := 7) (v := .int Q_hitKind) (C := RR_Q) (T := FF_Q) (N := 41) hx hb hts kin_Q hown hK.1 hP 0 rfl rfl 18 (by decide) (hts _ k4_85) (fun _ h9 => h9) rfl d_Q_hit_II_63 ?_
          refine lv_iconst (v := 1) hx hb d_Q_hit_II_66 (by decide) ?_
          refine lv_icmp_ne (tgt := 74) hx hb d_Q_hit_II_67 (by decide) (fun c5 => ?_) (fun c5 => ?_)
          · have hf := ite_f c5 hf
            refine lv_aload_n hx hb d_Q_hit_II_74 rfl (lv_at hl 0 rfl) ?_
            refine va_get (D := D) (ci := 7) (v := .int Q_hitKind) (C := RR_Q) (T := FF_Q) (N := 41) hx hb hts kin_Q hown hK.1 hP 0 rfl rfl 18 (by decide) (hts _ k4_85) (fun _ h9 => h9) rfl d_Q_hit_II_75 ?_
            refine lv_iconst (v := 2) hx hb d_Q_hit_II_78 (by decide) ?_
            refine lv_icmp_ne (tgt := 87) hx hb d_Q_hit_II_79 (by decide) (fun c6 => ?_) (fun c6 => ?_)
            · have hf := ite_f c6 hf
              refine lv_iconst (v := 0) hx hb d_Q_hit_II_87 (by decide) ?_
              exact hB88 _ _ _ _ _ _ hP hD hS _ (lv_sub hl [0, 1, 2] rfl) hf
            · have hf := ite_t c6 hf
              refine lv_bipush (v := 8) hx hb d_Q_hit_II_82 (by decide) ?_
              refine lv_goto (tgt := 88) hx hb d_Q_hit_II_84 (by decide) ?_
              exact hB88 _ _ _ _ _ _ hP hD hS _ (lv_sub hl [0, 1, 2] rfl) hf
          · have hf := ite_t c5 hf
            refine lv_iconst (v := 4) hx hb d_Q_hit_II_70 (by decide) ?_
            refine lv_goto (tgt := 88) hx hb d_Q_hit_II_71 (by decide) ?_
            exact hB88 _ _ _ _ _ _ hP hD hS _ (lv_sub hl [0, 1, 2] rfl) hf
        · have hf := ite_f c4 hf
          refine lv_iload_n hx hb d_Q_hit_II_28 rfl (lv_at hl 2 rfl) ?_
          refine lv_if_ne (tgt := 41) hx hb d_Q_hit_II_29 (by decide) (fun c7 => ?_) (fun c7 => ?_)
          · have hf := ite_f c7 hf
            refine lv_iload_n hx hb d_Q_hit_II_41 rfl (lv_at hl 2 rfl) ?_
            refine lv_iconst (v := 1) hx hb d_Q_hit_II_42 (by decide) ?_
            refine lv_icmp_ne (tgt := 55) hx hb d_Q_hit_II_43 (by decide) (fun c8 => ?_) (fun c8 => ?_)
            · have hf := ite_f c8 hf
              refine lv_aload_n hx hb d_Q_hit_II_55 rfl (lv_at hl 0 rfl) ?_
              refine va_get (D := D) (ci := 7) (v := .ref aQ_hitTwo) (C := RR_Q) (T := FF_Q) (N := 41) hx hb hts kin_Q hown hK.1 hP 0 rfl rfl 22 (by decide) (hts _ k4_89) (fun _ h9 => h9) rfl d_Q_hit_II_56 ?_
              refine lv_iload_n hx hb d_Q_hit_II_59 rfl (lv_at hl 1 rfl) ?_
              obtain ⟨h9, hf⟩ := of_gd hf
              refine va_iald hx hb hK.1 hP 3 0 rfl rfl (ixb_in h9) d_Q_hit_II_60 ?_
              obtain rfl := Option.some.inj hf
              exact W.iret (v := Q_hitTwo p0.toNatClampNeg) hx hb hr (fun t ht hW => ⟨rfl, by rw [ht]; exact hP, hD, hS.F ht⟩) hS.2.2 d_Q_hit_II_61
            · have hf := ite_t c8 hf
              refine lv_aload_n hx hb d_Q_hit_II_46 rfl (lv_at hl 0 rfl) ?_
              refine va_get (D := D) (ci := 7) (v := .ref aQ_hitOne) (C := RR_Q) (T := FF_Q) (N := 41) hx hb hts kin_Q hown hK.1 hP 0 rfl rfl 21 (by decide) (hts _ k4_88) (fun _ h9 => h9) rfl d_Q_hit_II_47 ?_
              refine lv_iload_n hx hb d_Q_hit_II_50 rfl (lv_at hl 1 rfl) ?_
              obtain ⟨h10, hf⟩ := of_gd hf
              refine va_iald hx hb hK.1 hP 2 0 rfl rfl (ixb_in h10) d_Q_hit_II_51 ?_
              refine lv_goto (tgt := 61) hx hb d_Q_hit_II_52 (by decide) ?_
              obtain rfl := Option.some.inj hf
              exact W.iret (v := Q_hitOne p0.toNatClampNeg) hx hb hr (fun t ht hW => ⟨rfl, by rw [ht]; exact hP, hD, hS.F ht⟩) hS.2.2 d_Q_hit_II_61
          · have hf := ite_t c7 hf
            refine lv_aload_n hx hb d_Q_hit_II_32 rfl (lv_at hl 0 rfl) ?_
            refine va_get (D := D) (ci := 7) (v := .ref aQ_hitOf) (C := RR_Q) (T := FF_Q) (N := 41) hx hb hts kin_Q hown hK.1 hP 0 rfl rfl 20 (by decide) (hts _ k4_87) (fun _ h9 => h9) rfl d_Q_hit_II_33 ?_
            refine lv_iload_n hx hb d_Q_hit_II_36 rfl (lv_at hl 1 rfl) ?_
            obtain ⟨h11, hf⟩ := of_gd hf
            refine va_iald hx hb hK.1 hP 1 0 rfl rfl (ixb_in h11) d_Q_hit_II_37 ?_
            refine lv_goto (tgt := 61) hx hb d_Q_hit_II_38 (by decide) ?_
            obtain rfl := Option.some.inj hf
            exact W.iret (v := Q_hitOf p0.toNatClampNeg) hx hb hr (fun t ht hW => ⟨rfl, by rw [ht]; exact hP, hD, hS.F ht⟩) hS.2.2 d_Q_hit_II_61
      · have hf := ite_f c3 hf
        refine lv_iconst (v := -1) hx hb d_Q_hit_II_21 (by decide) ?_
        obtain rfl := Option.some.inj hf
        exact W.iret (v := (-1 : Int32)) hx hb hr (fun t ht hW => ⟨rfl, by rw [ht]; exact hP, hD, hS.F ht⟩) hS.2.2 d_Q_hit_II_22
