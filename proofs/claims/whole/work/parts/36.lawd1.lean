abbrev b_L_law : ByteArray := code
theorem d_L_law_0 : decode b_L_law 0 = .ok (.new 8, 3) := by decide +kernel
theorem d_L_law_3 : decode b_L_law 3 = .ok (.dup, 1) := by decide +kernel
theorem d_L_law_4 : decode b_L_law 4 = .ok (.invokespecial 50, 3) := by decide +kernel
theorem d_L_law_7 : decode b_L_law 7 = .ok (.astore_n 1, 1) := by decide +kernel
theorem d_L_law_8 : decode b_L_law 8 = .ok (.new 51, 3) := by decide +kernel
theorem d_L_law_11 : decode b_L_law 11 = .ok (.dup, 1) := by decide +kernel
theorem d_L_law_12 : decode b_L_law 12 = .ok (.invokespecial 53, 3) := by decide +kernel
theorem d_L_law_15 : decode b_L_law 15 = .ok (.astore_n 2, 1) := by decide +kernel
theorem d_L_law_16 : decode b_L_law 16 = .ok (.iconst 1, 1) := by decide +kernel
theorem d_L_law_17 : decode b_L_law 17 = .ok (.newarray .long, 2) := by decide +kernel
theorem d_L_law_19 : decode b_L_law 19 = .ok (.astore_n 3, 1) := by decide +kernel
theorem d_L_law_20 : decode b_L_law 20 = .ok (.iconst 0, 1) := by decide +kernel
theorem d_L_law_21 : decode b_L_law 21 = .ok (.istore 4, 2) := by decide +kernel
theorem d_L_law_23 : decode b_L_law 23 = .ok (.iload 4, 2) := by decide +kernel
theorem d_L_law_25 : decode b_L_law 25 = .ok (.aload_n 0, 1) := by decide +kernel
theorem d_L_law_26 : decode b_L_law 26 = .ok (.arraylength, 1) := by decide +kernel
theorem d_L_law_27 : decode b_L_law 27 = .ok (.bipush 6, 2) := by decide +kernel
theorem d_L_law_29 : decode b_L_law 29 = .ok (.isub, 1) := by decide +kernel
theorem d_L_law_30 : decode b_L_law 30 = .ok (.if_icmp .gt 872, 3) := by decide +kernel
theorem d_L_law_33 : decode b_L_law 33 = .ok (.aload_n 0, 1) := by decide +kernel
theorem d_L_law_34 : decode b_L_law 34 = .ok (.iload 4, 2) := by decide +kernel
theorem d_L_law_36 : decode b_L_law 36 = .ok (.iaload, 1) := by decide +kernel
theorem d_L_law_37 : decode b_L_law 37 = .ok (.bipush 15, 2) := by decide +kernel
theorem d_L_law_39 : decode b_L_law 39 = .ok (.iand, 1) := by decide +kernel
theorem d_L_law_40 : decode b_L_law 40 = .ok (.tableswitch 856 0 13 #[72, 164, 248, 285, 389, 402, 458, 514, 570, 607, 675, 731, 806, 831], 72) := by decide +kernel
theorem d_L_law_112 : decode b_L_law 112 = .ok (.aload_n 1, 1) := by decide +kernel
theorem d_L_law_113 : decode b_L_law 113 = .ok (.aload_n 0, 1) := by decide +kernel
theorem d_L_law_114 : decode b_L_law 114 = .ok (.iload 4, 2) := by decide +kernel
theorem d_L_law_116 : decode b_L_law 116 = .ok (.iconst 1, 1) := by decide +kernel
theorem d_L_law_117 : decode b_L_law 117 = .ok (.iadd, 1) := by decide +kernel
theorem d_L_law_118 : decode b_L_law 118 = .ok (.iaload, 1) := by decide +kernel
theorem d_L_law_119 : decode b_L_law 119 = .ok (.aload_n 0, 1) := by decide +kernel
theorem d_L_law_120 : decode b_L_law 120 = .ok (.iload 4, 2) := by decide +kernel
theorem d_L_law_122 : decode b_L_law 122 = .ok (.iconst 2, 1) := by decide +kernel
theorem d_L_law_123 : decode b_L_law 123 = .ok (.iadd, 1) := by decide +kernel
theorem d_L_law_124 : decode b_L_law 124 = .ok (.iaload, 1) := by decide +kernel
theorem d_L_law_125 : decode b_L_law 125 = .ok (.aload_n 0, 1) := by decide +kernel
theorem d_L_law_126 : decode b_L_law 126 = .ok (.iload 4, 2) := by decide +kernel
theorem d_L_law_128 : decode b_L_law 128 = .ok (.iconst 3, 1) := by decide +kernel
theorem d_L_law_129 : decode b_L_law 129 = .ok (.iadd, 1) := by decide +kernel
theorem d_L_law_130 : decode b_L_law 130 = .ok (.iaload, 1) := by decide +kernel
theorem d_L_law_131 : decode b_L_law 131 = .ok (.aload_n 0, 1) := by decide +kernel
theorem d_L_law_132 : decode b_L_law 132 = .ok (.iload 4, 2) := by decide +kernel
theorem d_L_law_134 : decode b_L_law 134 = .ok (.iconst 4, 1) := by decide +kernel
theorem d_L_law_135 : decode b_L_law 135 = .ok (.iadd, 1) := by decide +kernel
theorem d_L_law_136 : decode b_L_law 136 = .ok (.iaload, 1) := by decide +kernel
theorem d_L_law_137 : decode b_L_law 137 = .ok (.aload_n 3, 1) := by decide +kernel
theorem d_L_law_138 : decode b_L_law 138 = .ok (.invokestatic 54, 3) := by decide +kernel
theorem d_L_law_141 : decode b_L_law 141 = .ok (.istore 5, 2) := by decide +kernel
theorem d_L_law_143 : decode b_L_law 143 = .ok (.aload_n 2, 1) := by decide +kernel
theorem d_L_law_144 : decode b_L_law 144 = .ok (.aload_n 0, 1) := by decide +kernel
theorem d_L_law_145 : decode b_L_law 145 = .ok (.iload 4, 2) := by decide +kernel
theorem d_L_law_147 : decode b_L_law 147 = .ok (.iconst 1, 1) := by decide +kernel
theorem d_L_law_148 : decode b_L_law 148 = .ok (.iadd, 1) := by decide +kernel
theorem d_L_law_149 : decode b_L_law 149 = .ok (.iaload, 1) := by decide +kernel
theorem d_L_law_150 : decode b_L_law 150 = .ok (.aload_n 0, 1) := by decide +kernel
theorem d_L_law_151 : decode b_L_law 151 = .ok (.iload 4, 2) := by decide +kernel
theorem d_L_law_153 : decode b_L_law 153 = .ok (.iconst 2, 1) := by decide +kernel
theorem d_L_law_154 : decode b_L_law 154 = .ok (.iadd, 1) := by decide +kernel
theorem d_L_law_155 : decode b_L_law 155 = .ok (.iaload, 1) := by decide +kernel
theorem d_L_law_156 : decode b_L_law 156 = .ok (.aload_n 0, 1) := by decide +kernel
theorem d_L_law_157 : decode b_L_law 157 = .ok (.iload 4, 2) := by decide +kernel
theorem d_L_law_159 : decode b_L_law 159 = .ok (.iconst 3, 1) := by decide +kernel
theorem d_L_law_160 : decode b_L_law 160 = .ok (.iadd, 1) := by decide +kernel
theorem d_L_law_161 : decode b_L_law 161 = .ok (.iaload, 1) := by decide +kernel
theorem d_L_law_162 : decode b_L_law 162 = .ok (.aload_n 0, 1) := by decide +kernel
theorem d_L_law_163 : decode b_L_law 163 = .ok (.iload 4, 2) := by decide +kernel
theorem d_L_law_165 : decode b_L_law 165 = .ok (.iconst 4, 1) := by decide +kernel
theorem d_L_law_166 : decode b_L_law 166 = .ok (.iadd, 1) := by decide +kernel
theorem d_L_law_167 : decode b_L_law 167 = .ok (.iaload, 1) := by decide +kernel
theorem d_L_law_168 : decode b_L_law 168 = .ok (.invokevirtual 59, 3) := by decide +kernel
theorem d_L_law_171 : decode b_L_law 171 = .ok (.istore 6, 2) := by decide +kernel
theorem d_L_law_173 : decode b_L_law 173 = .ok (.aload_n 2, 1) := by decide +kernel
theorem d_L_law_174 : decode b_L_law 174 = .ok (.invokevirtual 60, 3) := by decide +kernel
theorem d_L_law_177 : decode b_L_law 177 = .ok (.iload 5, 2) := by decide +kernel
theorem d_L_law_179 : decode b_L_law 179 = .ok (.if_icmp .eq 5, 3) := by decide +kernel
theorem d_L_law_182 : decode b_L_law 182 = .ok (.iconst 0, 1) := by decide +kernel
theorem d_L_law_183 : decode b_L_law 183 = .ok (.ireturn, 1) := by decide +kernel
theorem d_L_law_184 : decode b_L_law 184 = .ok (.iload 5, 2) := by decide +kernel
theorem d_L_law_186 : decode b_L_law 186 = .ok (.ifCond .ne 15, 3) := by decide +kernel
theorem d_L_law_189 : decode b_L_law 189 = .ok (.aload_n 3, 1) := by decide +kernel
theorem d_L_law_190 : decode b_L_law 190 = .ok (.iconst 0, 1) := by decide +kernel
theorem d_L_law_191 : decode b_L_law 191 = .ok (.laload, 1) := by decide +kernel
theorem d_L_law_192 : decode b_L_law 192 = .ok (.iload 6, 2) := by decide +kernel
theorem d_L_law_194 : decode b_L_law 194 = .ok (.i2l, 1) := by decide +kernel
theorem d_L_law_195 : decode b_L_law 195 = .ok (.lcmp, 1) := by decide +kernel
theorem d_L_law_196 : decode b_L_law 196 = .ok (.ifCond .eq 5, 3) := by decide +kernel
theorem d_L_law_199 : decode b_L_law 199 = .ok (.iconst 0, 1) := by decide +kernel
theorem d_L_law_200 : decode b_L_law 200 = .ok (.ireturn, 1) := by decide +kernel
theorem d_L_law_201 : decode b_L_law 201 = .ok (.goto 695, 3) := by decide +kernel
theorem d_L_law_204 : decode b_L_law 204 = .ok (.aload_n 1, 1) := by decide +kernel
theorem d_L_law_205 : decode b_L_law 205 = .ok (.aload_n 0, 1) := by decide +kernel
theorem d_L_law_206 : decode b_L_law 206 = .ok (.iload 4, 2) := by decide +kernel
theorem d_L_law_208 : decode b_L_law 208 = .ok (.iconst 1, 1) := by decide +kernel
theorem d_L_law_209 : decode b_L_law 209 = .ok (.iadd, 1) := by decide +kernel
theorem d_L_law_210 : decode b_L_law 210 = .ok (.iaload, 1) := by decide +kernel
theorem d_L_law_211 : decode b_L_law 211 = .ok (.aload_n 0, 1) := by decide +kernel
theorem d_L_law_212 : decode b_L_law 212 = .ok (.iload 4, 2) := by decide +kernel
theorem d_L_law_214 : decode b_L_law 214 = .ok (.iconst 2, 1) := by decide +kernel
theorem d_L_law_215 : decode b_L_law 215 = .ok (.iadd, 1) := by decide +kernel
theorem d_L_law_216 : decode b_L_law 216 = .ok (.iaload, 1) := by decide +kernel
theorem d_L_law_217 : decode b_L_law 217 = .ok (.ifCond .eq 7, 3) := by decide +kernel
theorem d_L_law_220 : decode b_L_law 220 = .ok (.iconst 1, 1) := by decide +kernel
theorem d_L_law_221 : decode b_L_law 221 = .ok (.goto 4, 3) := by decide +kernel
theorem d_L_law_224 : decode b_L_law 224 = .ok (.iconst 0, 1) := by decide +kernel
theorem d_L_law_225 : decode b_L_law 225 = .ok (.aload_n 3, 1) := by decide +kernel
theorem d_L_law_226 : decode b_L_law 226 = .ok (.invokestatic 64, 3) := by decide +kernel
theorem d_L_law_229 : decode b_L_law 229 = .ok (.istore 5, 2) := by decide +kernel
theorem d_L_law_231 : decode b_L_law 231 = .ok (.aload_n 2, 1) := by decide +kernel
theorem d_L_law_232 : decode b_L_law 232 = .ok (.aload_n 0, 1) := by decide +kernel
theorem d_L_law_233 : decode b_L_law 233 = .ok (.iload 4, 2) := by decide +kernel
theorem d_L_law_235 : decode b_L_law 235 = .ok (.iconst 1, 1) := by decide +kernel
theorem d_L_law_236 : decode b_L_law 236 = .ok (.iadd, 1) := by decide +kernel
theorem d_L_law_237 : decode b_L_law 237 = .ok (.iaload, 1) := by decide +kernel
theorem d_L_law_238 : decode b_L_law 238 = .ok (.aload_n 0, 1) := by decide +kernel
theorem d_L_law_239 : decode b_L_law 239 = .ok (.iload 4, 2) := by decide +kernel
theorem d_L_law_241 : decode b_L_law 241 = .ok (.iconst 2, 1) := by decide +kernel
theorem d_L_law_242 : decode b_L_law 242 = .ok (.iadd, 1) := by decide +kernel
theorem d_L_law_243 : decode b_L_law 243 = .ok (.iaload, 1) := by decide +kernel
theorem d_L_law_244 : decode b_L_law 244 = .ok (.ifCond .eq 7, 3) := by decide +kernel
theorem d_L_law_247 : decode b_L_law 247 = .ok (.iconst 1, 1) := by decide +kernel
theorem d_L_law_248 : decode b_L_law 248 = .ok (.goto 4, 3) := by decide +kernel
theorem d_L_law_251 : decode b_L_law 251 = .ok (.iconst 0, 1) := by decide +kernel
theorem d_L_law_252 : decode b_L_law 252 = .ok (.invokevirtual 67, 3) := by decide +kernel
theorem d_L_law_255 : decode b_L_law 255 = .ok (.istore 6, 2) := by decide +kernel
theorem d_L_law_257 : decode b_L_law 257 = .ok (.aload_n 2, 1) := by decide +kernel
theorem d_L_law_258 : decode b_L_law 258 = .ok (.invokevirtual 60, 3) := by decide +kernel
theorem d_L_law_261 : decode b_L_law 261 = .ok (.iload 5, 2) := by decide +kernel
theorem d_L_law_263 : decode b_L_law 263 = .ok (.if_icmp .eq 5, 3) := by decide +kernel
theorem d_L_law_266 : decode b_L_law 266 = .ok (.iconst 0, 1) := by decide +kernel
theorem d_L_law_267 : decode b_L_law 267 = .ok (.ireturn, 1) := by decide +kernel
theorem d_L_law_268 : decode b_L_law 268 = .ok (.iload 5, 2) := by decide +kernel
theorem d_L_law_270 : decode b_L_law 270 = .ok (.ifCond .ne 15, 3) := by decide +kernel
theorem d_L_law_273 : decode b_L_law 273 = .ok (.aload_n 3, 1) := by decide +kernel
theorem d_L_law_274 : decode b_L_law 274 = .ok (.iconst 0, 1) := by decide +kernel
theorem d_L_law_275 : decode b_L_law 275 = .ok (.laload, 1) := by decide +kernel
theorem d_L_law_276 : decode b_L_law 276 = .ok (.iload 6, 2) := by decide +kernel
theorem d_L_law_278 : decode b_L_law 278 = .ok (.i2l, 1) := by decide +kernel
theorem d_L_law_279 : decode b_L_law 279 = .ok (.lcmp, 1) := by decide +kernel
theorem d_L_law_280 : decode b_L_law 280 = .ok (.ifCond .eq 5, 3) := by decide +kernel
theorem d_L_law_283 : decode b_L_law 283 = .ok (.iconst 0, 1) := by decide +kernel
theorem d_L_law_284 : decode b_L_law 284 = .ok (.ireturn, 1) := by decide +kernel
theorem d_L_law_285 : decode b_L_law 285 = .ok (.goto 611, 3) := by decide +kernel
theorem d_L_law_288 : decode b_L_law 288 = .ok (.aload_n 1, 1) := by decide +kernel
theorem d_L_law_289 : decode b_L_law 289 = .ok (.aload_n 0, 1) := by decide +kernel
theorem d_L_law_290 : decode b_L_law 290 = .ok (.iload 4, 2) := by decide +kernel
theorem d_L_law_292 : decode b_L_law 292 = .ok (.iconst 1, 1) := by decide +kernel
theorem d_L_law_293 : decode b_L_law 293 = .ok (.iadd, 1) := by decide +kernel
theorem d_L_law_294 : decode b_L_law 294 = .ok (.iaload, 1) := by decide +kernel
theorem d_L_law_295 : decode b_L_law 295 = .ok (.aload_n 0, 1) := by decide +kernel
theorem d_L_law_296 : decode b_L_law 296 = .ok (.iload 4, 2) := by decide +kernel
theorem d_L_law_298 : decode b_L_law 298 = .ok (.iconst 2, 1) := by decide +kernel
theorem d_L_law_299 : decode b_L_law 299 = .ok (.iadd, 1) := by decide +kernel
theorem d_L_law_300 : decode b_L_law 300 = .ok (.iaload, 1) := by decide +kernel
theorem d_L_law_301 : decode b_L_law 301 = .ok (.invokevirtual 68, 3) := by decide +kernel
theorem d_L_law_304 : decode b_L_law 304 = .ok (.aload_n 2, 1) := by decide +kernel
theorem d_L_law_305 : decode b_L_law 305 = .ok (.aload_n 0, 1) := by decide +kernel
theorem d_L_law_306 : decode b_L_law 306 = .ok (.iload 4, 2) := by decide +kernel
theorem d_L_law_308 : decode b_L_law 308 = .ok (.iconst 1, 1) := by decide +kernel
theorem d_L_law_309 : decode b_L_law 309 = .ok (.iadd, 1) := by decide +kernel
theorem d_L_law_310 : decode b_L_law 310 = .ok (.iaload, 1) := by decide +kernel
theorem d_L_law_311 : decode b_L_law 311 = .ok (.aload_n 0, 1) := by decide +kernel
theorem d_L_law_312 : decode b_L_law 312 = .ok (.iload 4, 2) := by decide +kernel
theorem d_L_law_314 : decode b_L_law 314 = .ok (.iconst 2, 1) := by decide +kernel
theorem d_L_law_315 : decode b_L_law 315 = .ok (.iadd, 1) := by decide +kernel
theorem d_L_law_316 : decode b_L_law 316 = .ok (.iaload, 1) := by decide +kernel
theorem d_L_law_317 : decode b_L_law 317 = .ok (.invokevirtual 71, 3) := by decide +kernel
theorem d_L_law_320 : decode b_L_law 320 = .ok (.if_icmp .eq 576, 3) := by decide +kernel
theorem d_L_law_323 : decode b_L_law 323 = .ok (.iconst 0, 1) := by decide +kernel
theorem d_L_law_324 : decode b_L_law 324 = .ok (.ireturn, 1) := by decide +kernel
theorem d_L_law_325 : decode b_L_law 325 = .ok (.aload_n 1, 1) := by decide +kernel
theorem d_L_law_326 : decode b_L_law 326 = .ok (.aload_n 0, 1) := by decide +kernel
theorem d_L_law_327 : decode b_L_law 327 = .ok (.iload 4, 2) := by decide +kernel
theorem d_L_law_329 : decode b_L_law 329 = .ok (.iconst 1, 1) := by decide +kernel
theorem d_L_law_330 : decode b_L_law 330 = .ok (.iadd, 1) := by decide +kernel
theorem d_L_law_331 : decode b_L_law 331 = .ok (.iaload, 1) := by decide +kernel
theorem d_L_law_332 : decode b_L_law 332 = .ok (.aload_n 0, 1) := by decide +kernel
theorem d_L_law_333 : decode b_L_law 333 = .ok (.iload 4, 2) := by decide +kernel
theorem d_L_law_335 : decode b_L_law 335 = .ok (.iconst 2, 1) := by decide +kernel
theorem d_L_law_336 : decode b_L_law 336 = .ok (.iadd, 1) := by decide +kernel
theorem d_L_law_337 : decode b_L_law 337 = .ok (.iaload, 1) := by decide +kernel
theorem d_L_law_338 : decode b_L_law 338 = .ok (.aload_n 0, 1) := by decide +kernel
theorem d_L_law_339 : decode b_L_law 339 = .ok (.iload 4, 2) := by decide +kernel
theorem d_L_law_341 : decode b_L_law 341 = .ok (.iconst 3, 1) := by decide +kernel
theorem d_L_law_342 : decode b_L_law 342 = .ok (.iadd, 1) := by decide +kernel
theorem d_L_law_343 : decode b_L_law 343 = .ok (.iaload, 1) := by decide +kernel
theorem d_L_law_344 : decode b_L_law 344 = .ok (.aload_n 0, 1) := by decide +kernel
theorem d_L_law_345 : decode b_L_law 345 = .ok (.iload 4, 2) := by decide +kernel
theorem d_L_law_347 : decode b_L_law 347 = .ok (.iconst 4, 1) := by decide +kernel
theorem d_L_law_348 : decode b_L_law 348 = .ok (.iadd, 1) := by decide +kernel
theorem d_L_law_349 : decode b_L_law 349 = .ok (.iaload, 1) := by decide +kernel
theorem d_L_law_350 : decode b_L_law 350 = .ok (.aload_n 0, 1) := by decide +kernel
theorem d_L_law_351 : decode b_L_law 351 = .ok (.iload 4, 2) := by decide +kernel
theorem d_L_law_353 : decode b_L_law 353 = .ok (.iconst 5, 1) := by decide +kernel
theorem d_L_law_354 : decode b_L_law 354 = .ok (.iadd, 1) := by decide +kernel
theorem d_L_law_355 : decode b_L_law 355 = .ok (.iaload, 1) := by decide +kernel
theorem d_L_law_356 : decode b_L_law 356 = .ok (.aload_n 3, 1) := by decide +kernel
theorem d_L_law_357 : decode b_L_law 357 = .ok (.invokestatic 72, 3) := by decide +kernel
theorem d_L_law_360 : decode b_L_law 360 = .ok (.istore 5, 2) := by decide +kernel
theorem d_L_law_362 : decode b_L_law 362 = .ok (.aload_n 2, 1) := by decide +kernel
theorem d_L_law_363 : decode b_L_law 363 = .ok (.aload_n 0, 1) := by decide +kernel
theorem d_L_law_364 : decode b_L_law 364 = .ok (.iload 4, 2) := by decide +kernel
theorem d_L_law_366 : decode b_L_law 366 = .ok (.iconst 1, 1) := by decide +kernel
theorem d_L_law_367 : decode b_L_law 367 = .ok (.iadd, 1) := by decide +kernel
theorem d_L_law_368 : decode b_L_law 368 = .ok (.iaload, 1) := by decide +kernel
theorem d_L_law_369 : decode b_L_law 369 = .ok (.aload_n 0, 1) := by decide +kernel
theorem d_L_law_370 : decode b_L_law 370 = .ok (.iload 4, 2) := by decide +kernel
theorem d_L_law_372 : decode b_L_law 372 = .ok (.iconst 2, 1) := by decide +kernel
theorem d_L_law_373 : decode b_L_law 373 = .ok (.iadd, 1) := by decide +kernel
theorem d_L_law_374 : decode b_L_law 374 = .ok (.iaload, 1) := by decide +kernel
theorem d_L_law_375 : decode b_L_law 375 = .ok (.aload_n 0, 1) := by decide +kernel
theorem d_L_law_376 : decode b_L_law 376 = .ok (.iload 4, 2) := by decide +kernel
theorem d_L_law_378 : decode b_L_law 378 = .ok (.iconst 3, 1) := by decide +kernel
theorem d_L_law_379 : decode b_L_law 379 = .ok (.iadd, 1) := by decide +kernel
theorem d_L_law_380 : decode b_L_law 380 = .ok (.iaload, 1) := by decide +kernel
theorem d_L_law_381 : decode b_L_law 381 = .ok (.aload_n 0, 1) := by decide +kernel
theorem d_L_law_382 : decode b_L_law 382 = .ok (.iload 4, 2) := by decide +kernel
theorem d_L_law_384 : decode b_L_law 384 = .ok (.iconst 4, 1) := by decide +kernel
theorem d_L_law_385 : decode b_L_law 385 = .ok (.iadd, 1) := by decide +kernel
theorem d_L_law_386 : decode b_L_law 386 = .ok (.iaload, 1) := by decide +kernel
theorem d_L_law_387 : decode b_L_law 387 = .ok (.aload_n 0, 1) := by decide +kernel
theorem d_L_law_388 : decode b_L_law 388 = .ok (.iload 4, 2) := by decide +kernel
theorem d_L_law_390 : decode b_L_law 390 = .ok (.iconst 5, 1) := by decide +kernel
theorem d_L_law_391 : decode b_L_law 391 = .ok (.iadd, 1) := by decide +kernel
theorem d_L_law_392 : decode b_L_law 392 = .ok (.iaload, 1) := by decide +kernel
theorem d_L_law_393 : decode b_L_law 393 = .ok (.invokevirtual 75, 3) := by decide +kernel
theorem d_L_law_396 : decode b_L_law 396 = .ok (.istore 6, 2) := by decide +kernel
theorem d_L_law_398 : decode b_L_law 398 = .ok (.aload_n 2, 1) := by decide +kernel
theorem d_L_law_399 : decode b_L_law 399 = .ok (.invokevirtual 60, 3) := by decide +kernel
theorem d_L_law_402 : decode b_L_law 402 = .ok (.iload 5, 2) := by decide +kernel
theorem d_L_law_404 : decode b_L_law 404 = .ok (.if_icmp .eq 5, 3) := by decide +kernel
theorem d_L_law_407 : decode b_L_law 407 = .ok (.iconst 0, 1) := by decide +kernel
theorem d_L_law_408 : decode b_L_law 408 = .ok (.ireturn, 1) := by decide +kernel
theorem d_L_law_409 : decode b_L_law 409 = .ok (.iload 5, 2) := by decide +kernel
theorem d_L_law_411 : decode b_L_law 411 = .ok (.ifCond .ne 15, 3) := by decide +kernel
theorem d_L_law_414 : decode b_L_law 414 = .ok (.aload_n 3, 1) := by decide +kernel
theorem d_L_law_415 : decode b_L_law 415 = .ok (.iconst 0, 1) := by decide +kernel
theorem d_L_law_416 : decode b_L_law 416 = .ok (.laload, 1) := by decide +kernel
theorem d_L_law_417 : decode b_L_law 417 = .ok (.iload 6, 2) := by decide +kernel
theorem d_L_law_419 : decode b_L_law 419 = .ok (.i2l, 1) := by decide +kernel
theorem d_L_law_420 : decode b_L_law 420 = .ok (.lcmp, 1) := by decide +kernel
theorem d_L_law_421 : decode b_L_law 421 = .ok (.ifCond .eq 5, 3) := by decide +kernel
theorem d_L_law_424 : decode b_L_law 424 = .ok (.iconst 0, 1) := by decide +kernel
theorem d_L_law_425 : decode b_L_law 425 = .ok (.ireturn, 1) := by decide +kernel
theorem d_L_law_426 : decode b_L_law 426 = .ok (.goto 470, 3) := by decide +kernel
theorem d_L_law_429 : decode b_L_law 429 = .ok (.aload_n 1, 1) := by decide +kernel
theorem d_L_law_430 : decode b_L_law 430 = .ok (.invokevirtual 76, 3) := by decide +kernel
theorem d_L_law_433 : decode b_L_law 433 = .ok (.aload_n 2, 1) := by decide +kernel
theorem d_L_law_434 : decode b_L_law 434 = .ok (.invokevirtual 80, 3) := by decide +kernel
theorem d_L_law_437 : decode b_L_law 437 = .ok (.if_icmp .eq 459, 3) := by decide +kernel
theorem d_L_law_440 : decode b_L_law 440 = .ok (.iconst 0, 1) := by decide +kernel
theorem d_L_law_441 : decode b_L_law 441 = .ok (.ireturn, 1) := by decide +kernel
theorem d_L_law_442 : decode b_L_law 442 = .ok (.aload_n 1, 1) := by decide +kernel
theorem d_L_law_443 : decode b_L_law 443 = .ok (.aload_n 0, 1) := by decide +kernel
theorem d_L_law_444 : decode b_L_law 444 = .ok (.iload 4, 2) := by decide +kernel
theorem d_L_law_446 : decode b_L_law 446 = .ok (.iconst 1, 1) := by decide +kernel
theorem d_L_law_447 : decode b_L_law 447 = .ok (.iadd, 1) := by decide +kernel
theorem d_L_law_448 : decode b_L_law 448 = .ok (.iaload, 1) := by decide +kernel
theorem d_L_law_449 : decode b_L_law 449 = .ok (.aload_n 3, 1) := by decide +kernel
theorem d_L_law_450 : decode b_L_law 450 = .ok (.invokestatic 81, 3) := by decide +kernel
theorem d_L_law_453 : decode b_L_law 453 = .ok (.istore 5, 2) := by decide +kernel
theorem d_L_law_455 : decode b_L_law 455 = .ok (.aload_n 2, 1) := by decide +kernel
theorem d_L_law_456 : decode b_L_law 456 = .ok (.aload_n 0, 1) := by decide +kernel
theorem d_L_law_457 : decode b_L_law 457 = .ok (.iload 4, 2) := by decide +kernel
theorem d_L_law_459 : decode b_L_law 459 = .ok (.iconst 1, 1) := by decide +kernel
theorem d_L_law_460 : decode b_L_law 460 = .ok (.iadd, 1) := by decide +kernel
theorem d_L_law_461 : decode b_L_law 461 = .ok (.iaload, 1) := by decide +kernel
theorem d_L_law_462 : decode b_L_law 462 = .ok (.invokevirtual 84, 3) := by decide +kernel
theorem d_L_law_465 : decode b_L_law 465 = .ok (.istore 6, 2) := by decide +kernel
theorem d_L_law_467 : decode b_L_law 467 = .ok (.aload_n 2, 1) := by decide +kernel
theorem d_L_law_468 : decode b_L_law 468 = .ok (.invokevirtual 60, 3) := by decide +kernel
theorem d_L_law_471 : decode b_L_law 471 = .ok (.iload 5, 2) := by decide +kernel
theorem d_L_law_473 : decode b_L_law 473 = .ok (.if_icmp .eq 5, 3) := by decide +kernel
theorem d_L_law_476 : decode b_L_law 476 = .ok (.iconst 0, 1) := by decide +kernel
