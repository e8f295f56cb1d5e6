abbrev b_Model_next : ByteArray := prog_11_method_18_code
def y_Model_next : MethodName := ⟨R_Model, "next", "()V"⟩
theorem d_Model_next_0 : decode b_Model_next 0 = .ok (.aload_n 0, 1) := by decide +kernel
theorem d_Model_next_1 : decode b_Model_next 1 = .ok (.getfield 173, 3) := by decide +kernel
theorem d_Model_next_4 : decode b_Model_next 4 = .ok (.aload_n 0, 1) := by decide +kernel
theorem d_Model_next_5 : decode b_Model_next 5 = .ok (.getfield 168, 3) := by decide +kernel
theorem d_Model_next_8 : decode b_Model_next 8 = .ok (.if_icmp .ge 44, 3) := by decide +kernel
theorem d_Model_next_11 : decode b_Model_next 11 = .ok (.aload_n 0, 1) := by decide +kernel
theorem d_Model_next_12 : decode b_Model_next 12 = .ok (.getfield 37, 3) := by decide +kernel
theorem d_Model_next_15 : decode b_Model_next 15 = .ok (.aload_n 0, 1) := by decide +kernel
theorem d_Model_next_16 : decode b_Model_next 16 = .ok (.getfield 173, 3) := by decide +kernel
theorem d_Model_next_19 : decode b_Model_next 19 = .ok (.iaload, 1) := by decide +kernel
theorem d_Model_next_20 : decode b_Model_next 20 = .ok (.bipush 32, 2) := by decide +kernel
theorem d_Model_next_22 : decode b_Model_next 22 = .ok (.if_icmp .eq 17, 3) := by decide +kernel
theorem d_Model_next_25 : decode b_Model_next 25 = .ok (.aload_n 0, 1) := by decide +kernel
theorem d_Model_next_26 : decode b_Model_next 26 = .ok (.getfield 37, 3) := by decide +kernel
theorem d_Model_next_29 : decode b_Model_next 29 = .ok (.aload_n 0, 1) := by decide +kernel
theorem d_Model_next_30 : decode b_Model_next 30 = .ok (.getfield 173, 3) := by decide +kernel
theorem d_Model_next_33 : decode b_Model_next 33 = .ok (.iaload, 1) := by decide +kernel
theorem d_Model_next_34 : decode b_Model_next 34 = .ok (.bipush 10, 2) := by decide +kernel
theorem d_Model_next_36 : decode b_Model_next 36 = .ok (.if_icmp .ne 16, 3) := by decide +kernel
theorem d_Model_next_39 : decode b_Model_next 39 = .ok (.aload_n 0, 1) := by decide +kernel
theorem d_Model_next_40 : decode b_Model_next 40 = .ok (.dup, 1) := by decide +kernel
theorem d_Model_next_41 : decode b_Model_next 41 = .ok (.getfield 173, 3) := by decide +kernel
theorem d_Model_next_44 : decode b_Model_next 44 = .ok (.iconst 1, 1) := by decide +kernel
theorem d_Model_next_45 : decode b_Model_next 45 = .ok (.iadd, 1) := by decide +kernel
theorem d_Model_next_46 : decode b_Model_next 46 = .ok (.putfield 173, 3) := by decide +kernel
theorem d_Model_next_49 : decode b_Model_next 49 = .ok (.goto (-49), 3) := by decide +kernel
theorem d_Model_next_52 : decode b_Model_next 52 = .ok (.aload_n 0, 1) := by decide +kernel
theorem d_Model_next_53 : decode b_Model_next 53 = .ok (.aload_n 0, 1) := by decide +kernel
theorem d_Model_next_54 : decode b_Model_next 54 = .ok (.getfield 173, 3) := by decide +kernel
theorem d_Model_next_57 : decode b_Model_next 57 = .ok (.putfield 176, 3) := by decide +kernel
theorem d_Model_next_60 : decode b_Model_next 60 = .ok (.aload_n 0, 1) := by decide +kernel
theorem d_Model_next_61 : decode b_Model_next 61 = .ok (.iconst 0, 1) := by decide +kernel
theorem d_Model_next_62 : decode b_Model_next 62 = .ok (.putfield 179, 3) := by decide +kernel
theorem d_Model_next_65 : decode b_Model_next 65 = .ok (.aload_n 0, 1) := by decide +kernel
theorem d_Model_next_66 : decode b_Model_next 66 = .ok (.iconst 0, 1) := by decide +kernel
theorem d_Model_next_67 : decode b_Model_next 67 = .ok (.putfield 182, 3) := by decide +kernel
theorem d_Model_next_70 : decode b_Model_next 70 = .ok (.aload_n 0, 1) := by decide +kernel
theorem d_Model_next_71 : decode b_Model_next 71 = .ok (.getfield 173, 3) := by decide +kernel
theorem d_Model_next_74 : decode b_Model_next 74 = .ok (.aload_n 0, 1) := by decide +kernel
theorem d_Model_next_75 : decode b_Model_next 75 = .ok (.getfield 168, 3) := by decide +kernel
theorem d_Model_next_78 : decode b_Model_next 78 = .ok (.if_icmp .ne 4, 3) := by decide +kernel
theorem d_Model_next_81 : decode b_Model_next 81 = .ok (.return_, 1) := by decide +kernel
theorem d_Model_next_82 : decode b_Model_next 82 = .ok (.aload_n 0, 1) := by decide +kernel
theorem d_Model_next_83 : decode b_Model_next 83 = .ok (.getfield 37, 3) := by decide +kernel
theorem d_Model_next_86 : decode b_Model_next 86 = .ok (.aload_n 0, 1) := by decide +kernel
theorem d_Model_next_87 : decode b_Model_next 87 = .ok (.getfield 173, 3) := by decide +kernel
theorem d_Model_next_90 : decode b_Model_next 90 = .ok (.iaload, 1) := by decide +kernel
theorem d_Model_next_91 : decode b_Model_next 91 = .ok (.istore_n 1, 1) := by decide +kernel
theorem d_Model_next_92 : decode b_Model_next 92 = .ok (.iload_n 1, 1) := by decide +kernel
theorem d_Model_next_93 : decode b_Model_next 93 = .ok (.bipush 97, 2) := by decide +kernel
theorem d_Model_next_95 : decode b_Model_next 95 = .ok (.bipush 122, 2) := by decide +kernel
theorem d_Model_next_97 : decode b_Model_next 97 = .ok (.invokestatic 144, 3) := by decide +kernel
theorem d_Model_next_100 : decode b_Model_next 100 = .ok (.ifCond .eq 101, 3) := by decide +kernel
theorem d_Model_next_103 : decode b_Model_next 103 = .ok (.aload_n 0, 1) := by decide +kernel
theorem d_Model_next_104 : decode b_Model_next 104 = .ok (.invokevirtual 185, 3) := by decide +kernel
theorem d_Model_next_107 : decode b_Model_next 107 = .ok (.lstore_n 2, 1) := by decide +kernel
theorem d_Model_next_108 : decode b_Model_next 108 = .ok (.iconst 0, 1) := by decide +kernel
theorem d_Model_next_109 : decode b_Model_next 109 = .ok (.istore 4, 2) := by decide +kernel
theorem d_Model_next_111 : decode b_Model_next 111 = .ok (.iload 4, 2) := by decide +kernel
theorem d_Model_next_113 : decode b_Model_next 113 = .ok (.bipush 11, 2) := by decide +kernel
theorem d_Model_next_115 : decode b_Model_next 115 = .ok (.if_icmp .ge 21, 3) := by decide +kernel
theorem d_Model_next_118 : decode b_Model_next 118 = .ok (.aload_n 0, 1) := by decide +kernel
theorem d_Model_next_119 : decode b_Model_next 119 = .ok (.getfield 121, 3) := by decide +kernel
theorem d_Model_next_122 : decode b_Model_next 122 = .ok (.iload 4, 2) := by decide +kernel
theorem d_Model_next_124 : decode b_Model_next 124 = .ok (.laload, 1) := by decide +kernel
theorem d_Model_next_125 : decode b_Model_next 125 = .ok (.lload_n 2, 1) := by decide +kernel
theorem d_Model_next_126 : decode b_Model_next 126 = .ok (.lcmp, 1) := by decide +kernel
theorem d_Model_next_127 : decode b_Model_next 127 = .ok (.ifCond .eq 9, 3) := by decide +kernel
theorem d_Model_next_130 : decode b_Model_next 130 = .ok (.iinc 4 1, 3) := by decide +kernel
theorem d_Model_next_133 : decode b_Model_next 133 = .ok (.goto (-22), 3) := by decide +kernel
theorem d_Model_next_136 : decode b_Model_next 136 = .ok (.aload_n 0, 1) := by decide +kernel
theorem d_Model_next_137 : decode b_Model_next 137 = .ok (.iload 4, 2) := by decide +kernel
theorem d_Model_next_139 : decode b_Model_next 139 = .ok (.iconst 2, 1) := by decide +kernel
theorem d_Model_next_140 : decode b_Model_next 140 = .ok (.if_icmp .ge 7, 3) := by decide +kernel
theorem d_Model_next_143 : decode b_Model_next 143 = .ok (.iconst 3, 1) := by decide +kernel
theorem d_Model_next_144 : decode b_Model_next 144 = .ok (.goto 32, 3) := by decide +kernel
theorem d_Model_next_147 : decode b_Model_next 147 = .ok (.iload 4, 2) := by decide +kernel
theorem d_Model_next_149 : decode b_Model_next 149 = .ok (.bipush 8, 2) := by decide +kernel
theorem d_Model_next_151 : decode b_Model_next 151 = .ok (.if_icmp .ge 7, 3) := by decide +kernel
theorem d_Model_next_154 : decode b_Model_next 154 = .ok (.iconst 2, 1) := by decide +kernel
theorem d_Model_next_155 : decode b_Model_next 155 = .ok (.goto 21, 3) := by decide +kernel
theorem d_Model_next_158 : decode b_Model_next 158 = .ok (.iload 4, 2) := by decide +kernel
theorem d_Model_next_160 : decode b_Model_next 160 = .ok (.bipush 11, 2) := by decide +kernel
theorem d_Model_next_162 : decode b_Model_next 162 = .ok (.if_icmp .ne 7, 3) := by decide +kernel
theorem d_Model_next_165 : decode b_Model_next 165 = .ok (.iconst (-1), 1) := by decide +kernel
theorem d_Model_next_166 : decode b_Model_next 166 = .ok (.goto 10, 3) := by decide +kernel
theorem d_Model_next_169 : decode b_Model_next 169 = .ok (.iconst 4, 1) := by decide +kernel
theorem d_Model_next_170 : decode b_Model_next 170 = .ok (.iload 4, 2) := by decide +kernel
theorem d_Model_next_172 : decode b_Model_next 172 = .ok (.iadd, 1) := by decide +kernel
theorem d_Model_next_173 : decode b_Model_next 173 = .ok (.bipush 8, 2) := by decide +kernel
theorem d_Model_next_175 : decode b_Model_next 175 = .ok (.isub, 1) := by decide +kernel
theorem d_Model_next_176 : decode b_Model_next 176 = .ok (.putfield 179, 3) := by decide +kernel
theorem d_Model_next_179 : decode b_Model_next 179 = .ok (.aload_n 0, 1) := by decide +kernel
theorem d_Model_next_180 : decode b_Model_next 180 = .ok (.iload 4, 2) := by decide +kernel
theorem d_Model_next_182 : decode b_Model_next 182 = .ok (.iconst 2, 1) := by decide +kernel
theorem d_Model_next_183 : decode b_Model_next 183 = .ok (.if_icmp .ge 8, 3) := by decide +kernel
theorem d_Model_next_186 : decode b_Model_next 186 = .ok (.iload 4, 2) := by decide +kernel
theorem d_Model_next_188 : decode b_Model_next 188 = .ok (.goto 7, 3) := by decide +kernel
theorem d_Model_next_191 : decode b_Model_next 191 = .ok (.iload 4, 2) := by decide +kernel
theorem d_Model_next_193 : decode b_Model_next 193 = .ok (.iconst 2, 1) := by decide +kernel
theorem d_Model_next_194 : decode b_Model_next 194 = .ok (.isub, 1) := by decide +kernel
theorem d_Model_next_195 : decode b_Model_next 195 = .ok (.putfield 182, 3) := by decide +kernel
theorem d_Model_next_198 : decode b_Model_next 198 = .ok (.goto 189, 3) := by decide +kernel
theorem d_Model_next_201 : decode b_Model_next 201 = .ok (.iload_n 1, 1) := by decide +kernel
theorem d_Model_next_202 : decode b_Model_next 202 = .ok (.bipush 48, 2) := by decide +kernel
theorem d_Model_next_204 : decode b_Model_next 204 = .ok (.bipush 57, 2) := by decide +kernel
theorem d_Model_next_206 : decode b_Model_next 206 = .ok (.invokestatic 144, 3) := by decide +kernel
theorem d_Model_next_209 : decode b_Model_next 209 = .ok (.ifCond .eq 101, 3) := by decide +kernel
theorem d_Model_next_212 : decode b_Model_next 212 = .ok (.iconst 0, 1) := by decide +kernel
theorem d_Model_next_213 : decode b_Model_next 213 = .ok (.istore_n 2, 1) := by decide +kernel
theorem d_Model_next_214 : decode b_Model_next 214 = .ok (.aload_n 0, 1) := by decide +kernel
theorem d_Model_next_215 : decode b_Model_next 215 = .ok (.getfield 173, 3) := by decide +kernel
theorem d_Model_next_218 : decode b_Model_next 218 = .ok (.aload_n 0, 1) := by decide +kernel
theorem d_Model_next_219 : decode b_Model_next 219 = .ok (.getfield 168, 3) := by decide +kernel
theorem d_Model_next_222 : decode b_Model_next 222 = .ok (.if_icmp .ge 71, 3) := by decide +kernel
theorem d_Model_next_225 : decode b_Model_next 225 = .ok (.aload_n 0, 1) := by decide +kernel
theorem d_Model_next_226 : decode b_Model_next 226 = .ok (.getfield 37, 3) := by decide +kernel
theorem d_Model_next_229 : decode b_Model_next 229 = .ok (.aload_n 0, 1) := by decide +kernel
theorem d_Model_next_230 : decode b_Model_next 230 = .ok (.getfield 173, 3) := by decide +kernel
theorem d_Model_next_233 : decode b_Model_next 233 = .ok (.iaload, 1) := by decide +kernel
theorem d_Model_next_234 : decode b_Model_next 234 = .ok (.bipush 48, 2) := by decide +kernel
theorem d_Model_next_236 : decode b_Model_next 236 = .ok (.bipush 57, 2) := by decide +kernel
theorem d_Model_next_238 : decode b_Model_next 238 = .ok (.invokestatic 144, 3) := by decide +kernel
theorem d_Model_next_241 : decode b_Model_next 241 = .ok (.ifCond .eq 52, 3) := by decide +kernel
theorem d_Model_next_244 : decode b_Model_next 244 = .ok (.aload_n 0, 1) := by decide +kernel
theorem d_Model_next_245 : decode b_Model_next 245 = .ok (.iload_n 2, 1) := by decide +kernel
theorem d_Model_next_246 : decode b_Model_next 246 = .ok (.iconst 4, 1) := by decide +kernel
theorem d_Model_next_247 : decode b_Model_next 247 = .ok (.if_icmp .ge 26, 3) := by decide +kernel
theorem d_Model_next_250 : decode b_Model_next 250 = .ok (.bipush 10, 2) := by decide +kernel
theorem d_Model_next_252 : decode b_Model_next 252 = .ok (.aload_n 0, 1) := by decide +kernel
theorem d_Model_next_253 : decode b_Model_next 253 = .ok (.getfield 182, 3) := by decide +kernel
theorem d_Model_next_256 : decode b_Model_next 256 = .ok (.imul, 1) := by decide +kernel
theorem d_Model_next_257 : decode b_Model_next 257 = .ok (.aload_n 0, 1) := by decide +kernel
theorem d_Model_next_258 : decode b_Model_next 258 = .ok (.getfield 37, 3) := by decide +kernel
theorem d_Model_next_261 : decode b_Model_next 261 = .ok (.aload_n 0, 1) := by decide +kernel
theorem d_Model_next_262 : decode b_Model_next 262 = .ok (.getfield 173, 3) := by decide +kernel
theorem d_Model_next_265 : decode b_Model_next 265 = .ok (.iaload, 1) := by decide +kernel
theorem d_Model_next_266 : decode b_Model_next 266 = .ok (.iadd, 1) := by decide +kernel
theorem d_Model_next_267 : decode b_Model_next 267 = .ok (.bipush 48, 2) := by decide +kernel
theorem d_Model_next_269 : decode b_Model_next 269 = .ok (.isub, 1) := by decide +kernel
theorem d_Model_next_270 : decode b_Model_next 270 = .ok (.goto 4, 3) := by decide +kernel
theorem d_Model_next_273 : decode b_Model_next 273 = .ok (.iconst 0, 1) := by decide +kernel
theorem d_Model_next_274 : decode b_Model_next 274 = .ok (.putfield 182, 3) := by decide +kernel
theorem d_Model_next_277 : decode b_Model_next 277 = .ok (.iinc 2 1, 3) := by decide +kernel
theorem d_Model_next_280 : decode b_Model_next 280 = .ok (.aload_n 0, 1) := by decide +kernel
theorem d_Model_next_281 : decode b_Model_next 281 = .ok (.dup, 1) := by decide +kernel
theorem d_Model_next_282 : decode b_Model_next 282 = .ok (.getfield 173, 3) := by decide +kernel
theorem d_Model_next_285 : decode b_Model_next 285 = .ok (.iconst 1, 1) := by decide +kernel
theorem d_Model_next_286 : decode b_Model_next 286 = .ok (.iadd, 1) := by decide +kernel
theorem d_Model_next_287 : decode b_Model_next 287 = .ok (.putfield 173, 3) := by decide +kernel
theorem d_Model_next_290 : decode b_Model_next 290 = .ok (.goto (-76), 3) := by decide +kernel
theorem d_Model_next_293 : decode b_Model_next 293 = .ok (.aload_n 0, 1) := by decide +kernel
theorem d_Model_next_294 : decode b_Model_next 294 = .ok (.iload_n 2, 1) := by decide +kernel
theorem d_Model_next_295 : decode b_Model_next 295 = .ok (.iconst 4, 1) := by decide +kernel
theorem d_Model_next_296 : decode b_Model_next 296 = .ok (.if_icmp .le 7, 3) := by decide +kernel
theorem d_Model_next_299 : decode b_Model_next 299 = .ok (.iconst (-1), 1) := by decide +kernel
theorem d_Model_next_300 : decode b_Model_next 300 = .ok (.goto 4, 3) := by decide +kernel
theorem d_Model_next_303 : decode b_Model_next 303 = .ok (.iconst 1, 1) := by decide +kernel
theorem d_Model_next_304 : decode b_Model_next 304 = .ok (.putfield 179, 3) := by decide +kernel
theorem d_Model_next_307 : decode b_Model_next 307 = .ok (.goto 80, 3) := by decide +kernel
theorem d_Model_next_310 : decode b_Model_next 310 = .ok (.iload_n 1, 1) := by decide +kernel
theorem d_Model_next_311 : decode b_Model_next 311 = .ok (.bipush 40, 2) := by decide +kernel
theorem d_Model_next_313 : decode b_Model_next 313 = .ok (.if_icmp .eq 45, 3) := by decide +kernel
theorem d_Model_next_316 : decode b_Model_next 316 = .ok (.iload_n 1, 1) := by decide +kernel
theorem d_Model_next_317 : decode b_Model_next 317 = .ok (.bipush 41, 2) := by decide +kernel
theorem d_Model_next_319 : decode b_Model_next 319 = .ok (.if_icmp .eq 39, 3) := by decide +kernel
theorem d_Model_next_322 : decode b_Model_next 322 = .ok (.iload_n 1, 1) := by decide +kernel
theorem d_Model_next_323 : decode b_Model_next 323 = .ok (.bipush 59, 2) := by decide +kernel
theorem d_Model_next_325 : decode b_Model_next 325 = .ok (.if_icmp .eq 33, 3) := by decide +kernel
theorem d_Model_next_328 : decode b_Model_next 328 = .ok (.iload_n 1, 1) := by decide +kernel
theorem d_Model_next_329 : decode b_Model_next 329 = .ok (.bipush 43, 2) := by decide +kernel
theorem d_Model_next_331 : decode b_Model_next 331 = .ok (.if_icmp .eq 27, 3) := by decide +kernel
theorem d_Model_next_334 : decode b_Model_next 334 = .ok (.iload_n 1, 1) := by decide +kernel
theorem d_Model_next_335 : decode b_Model_next 335 = .ok (.bipush 45, 2) := by decide +kernel
theorem d_Model_next_337 : decode b_Model_next 337 = .ok (.if_icmp .eq 21, 3) := by decide +kernel
theorem d_Model_next_340 : decode b_Model_next 340 = .ok (.iload_n 1, 1) := by decide +kernel
theorem d_Model_next_341 : decode b_Model_next 341 = .ok (.bipush 42, 2) := by decide +kernel
theorem d_Model_next_343 : decode b_Model_next 343 = .ok (.if_icmp .eq 15, 3) := by decide +kernel
theorem d_Model_next_346 : decode b_Model_next 346 = .ok (.iload_n 1, 1) := by decide +kernel
theorem d_Model_next_347 : decode b_Model_next 347 = .ok (.bipush 60, 2) := by decide +kernel
theorem d_Model_next_349 : decode b_Model_next 349 = .ok (.if_icmp .eq 9, 3) := by decide +kernel
theorem d_Model_next_352 : decode b_Model_next 352 = .ok (.iload_n 1, 1) := by decide +kernel
theorem d_Model_next_353 : decode b_Model_next 353 = .ok (.bipush 61, 2) := by decide +kernel
theorem d_Model_next_355 : decode b_Model_next 355 = .ok (.if_icmp .ne 7, 3) := by decide +kernel
theorem d_Model_next_358 : decode b_Model_next 358 = .ok (.iconst 1, 1) := by decide +kernel
theorem d_Model_next_359 : decode b_Model_next 359 = .ok (.goto 4, 3) := by decide +kernel
theorem d_Model_next_362 : decode b_Model_next 362 = .ok (.iconst 0, 1) := by decide +kernel
theorem d_Model_next_363 : decode b_Model_next 363 = .ok (.istore_n 2, 1) := by decide +kernel
theorem d_Model_next_364 : decode b_Model_next 364 = .ok (.aload_n 0, 1) := by decide +kernel
theorem d_Model_next_365 : decode b_Model_next 365 = .ok (.iload_n 2, 1) := by decide +kernel
theorem d_Model_next_366 : decode b_Model_next 366 = .ok (.ifCond .eq 7, 3) := by decide +kernel
theorem d_Model_next_369 : decode b_Model_next 369 = .ok (.iload_n 1, 1) := by decide +kernel
theorem d_Model_next_370 : decode b_Model_next 370 = .ok (.goto 4, 3) := by decide +kernel
theorem d_Model_next_373 : decode b_Model_next 373 = .ok (.iconst (-1), 1) := by decide +kernel
theorem d_Model_next_374 : decode b_Model_next 374 = .ok (.putfield 179, 3) := by decide +kernel
theorem d_Model_next_377 : decode b_Model_next 377 = .ok (.aload_n 0, 1) := by decide +kernel
theorem d_Model_next_378 : decode b_Model_next 378 = .ok (.dup, 1) := by decide +kernel
theorem d_Model_next_379 : decode b_Model_next 379 = .ok (.getfield 173, 3) := by decide +kernel
theorem d_Model_next_382 : decode b_Model_next 382 = .ok (.iconst 1, 1) := by decide +kernel
theorem d_Model_next_383 : decode b_Model_next 383 = .ok (.iadd, 1) := by decide +kernel
theorem d_Model_next_384 : decode b_Model_next 384 = .ok (.putfield 173, 3) := by decide +kernel
theorem d_Model_next_387 : decode b_Model_next 387 = .ok (.return_, 1) := by decide +kernel
theorem v_Model_next : dk_Yv y_Model_next b_Model_next 5 (none) 0 := ⟨dk_in (List.mem_of_getElem? (i := 1177) (by decide +kernel)) rfl, dk_in (List.mem_of_getElem? (i := 37) (by decide +kernel)) rfl, dk_in (List.mem_of_getElem? (i := 75) (by decide +kernel)) rfl, dk_in (List.mem_of_getElem? (i := 1178) (by decide +kernel)) rfl, by decide +kernel, by decide +kernel, by decide +kernel⟩
abbrev rm_Model_next : Room := { frames := 2, cells := 0, slots := 0, locals := 45 }
theorem f_Model_121 : Cond.fieldLink R_Model 121 (T_Model 44).1 (T_Model 44).2.1 (T_Model 44).2.2.1 ∈ dk_tb := dk_in (List.mem_of_getElem? (i := 1008) (by decide +kernel)) rfl
theorem f_Model_176 : Cond.fieldLink R_Model 176 (T_Model 41).1 (T_Model 41).2.1 (T_Model 41).2.2.1 ∈ dk_tb := dk_in (List.mem_of_getElem? (i := 1005) (by decide +kernel)) rfl
theorem f_Model_179 : Cond.fieldLink R_Model 179 (T_Model 42).1 (T_Model 42).2.1 (T_Model 42).2.2.1 ∈ dk_tb := dk_in (List.mem_of_getElem? (i := 1006) (by decide +kernel)) rfl
theorem f_Model_182 : Cond.fieldLink R_Model 182 (T_Model 43).1 (T_Model 43).2.1 (T_Model 43).2.2.1 ∈ dk_tb := dk_in (List.mem_of_getElem? (i := 1007) (by decide +kernel)) rfl
theorem m_Model_185 : Cond.methodLink R_Model 185 y_Model_letters ∈ dk_tb := dk_in (List.mem_of_getElem? (i := 1179) (by decide +kernel)) rfl
def B_Model_next_39 (n : Nat) (k0 : dk_S → Option dk_S)  (S : dk_S) : Option dk_S :=
  dk_p S 40 ((S 40 0) + (1 : Int32)) fun S1 => k0 S1
set_option maxRecDepth 20000 in
theorem kb_Model_next_39 {p : Program} {l : Launch} {e : Env} {s : State} {m : MethodId} {args : Array Value} {below : List Frame} {meth : Method} {c : Code} {g : dk_G} {A : Nat → Prop} {Q : State → Prop} {am : Nat → Nat} {n : Nat} {res : dk_S} (X : dk_X p s m args meth c b_Model_next 5 R_Model (none) g A) (hR : dk_Rv p l e rm_Model_next s m args below meth c g A Q 5 b_Model_next (none) (wM g am) res) {k0 : dk_S → Option dk_S} (hk0 : ∀   (S : dk_S), k0  S = some res → dk_J p l e rm_Model_next s m args below meth c g A Q 5 0 0 0 [(0, .ref (am 0))] [] (wM g am S))  {S : dk_S}  (hF : B_Model_next_39 n k0  S = some res) : dk_J p l e rm_Model_next s m args below meth c g A Q 5 0 0 39 [(0, .ref (am 0))] [] (wM g am S) := by
  unfold B_Model_next_39 at hF
  refine dk_aload_n (k := 0) (i := 0) X 0 rfl rfl d_Model_next_39 ?_
  refine dk_dup X rfl d_Model_next_40 ?_
  refine dk_get X q_Model 0 40 (by decide) (oM_Model g am S) rfl f_Model_173 d_Model_next_41 ?_
  refine dk_iconst (v := 1) X (by decide) d_Model_next_44 ?_
  refine dk_iadd X d_Model_next_45 ?_
  refine dk_puti X q_Model 0 40 (by decide) (oM_Model g am S) f_Model_173 rfl rfl (Nat.le_of_ble_eq_true rfl) (sM_Model_at g am S _) d_Model_next_46 hF (fun S1 hF => ?_)
  refine dk_goto (tgt := 0) X (by decide) d_Model_next_49 ?_
  exact (hk0 S1 hF)
def B_Model_next_195 (n : Nat)  (u1 : Int32) (S : dk_S) : Option dk_S :=
  dk_p S 43 u1 fun S2 => some S2
set_option maxRecDepth 20000 in
theorem kb_Model_next_195 {p : Program} {l : Launch} {e : Env} {s : State} {m : MethodId} {args : Array Value} {below : List Frame} {meth : Method} {c : Code} {g : dk_G} {A : Nat → Prop} {Q : State → Prop} {am : Nat → Nat} {n : Nat} {res : dk_S} (X : dk_X p s m args meth c b_Model_next 5 R_Model (none) g A) (hR : dk_Rv p l e rm_Model_next s m args below meth c g A Q 5 b_Model_next (none) (wM g am) res)  {u1 : Int32} {S : dk_S}  (hF : B_Model_next_195 n  u1 S = some res) : dk_J p l e rm_Model_next s m args below meth c g A Q 5 0 0 195 [] [.int u1, .ref (am 0)] (wM g am S) := by
  unfold B_Model_next_195 at hF
  refine dk_puti X q_Model 0 43 (by decide) (oM_Model g am S) f_Model_182 rfl rfl (Nat.le_of_ble_eq_true rfl) (sM_Model_value g am S _) d_Model_next_195 hF (fun S2 hF => ?_)
  refine dk_goto (tgt := 387) X (by decide) d_Model_next_198 ?_
  exact dk_retv hR hF d_Model_next_387
def B_Model_next_176 (n : Nat)  (x4 : Int32) (u1 : Int32) (S : dk_S) : Option dk_S :=
  dk_p S 42 u1 fun S3 => if (2 : Int32) ≤ x4 then (B_Model_next_195 n  (x4 - (2 : Int32)) S3) else (B_Model_next_195 n  x4 S3)
set_option maxRecDepth 20000 in
theorem kb_Model_next_176 {p : Program} {l : Launch} {e : Env} {s : State} {m : MethodId} {args : Array Value} {below : List Frame} {meth : Method} {c : Code} {g : dk_G} {A : Nat → Prop} {Q : State → Prop} {am : Nat → Nat} {n : Nat} {res : dk_S} (X : dk_X p s m args meth c b_Model_next 5 R_Model (none) g A) (hR : dk_Rv p l e rm_Model_next s m args below meth c g A Q 5 b_Model_next (none) (wM g am) res)  {x4 : Int32} {u1 : Int32} {S : dk_S}  (hF : B_Model_next_176 n  x4 u1 S = some res) : dk_J p l e rm_Model_next s m args below meth c g A Q 5 0 0 176 [(0, .ref (am 0)), (4, .int x4)] [.int u1, .ref (am 0)] (wM g am S) := by
  unfold B_Model_next_176 at hF
  refine dk_puti X q_Model 0 42 (by decide) (oM_Model g am S) f_Model_179 rfl rfl (Nat.le_of_ble_eq_true rfl) (sM_Model_token g am S _) d_Model_next_176 hF (fun S3 hF => ?_)
  refine dk_aload_n (k := 0) (i := 0) X 0 rfl rfl d_Model_next_179 ?_
  refine dk_iload (i := 4) X 1 rfl d_Model_next_180 ?_
  refine dk_iconst (v := 2) X (by decide) d_Model_next_182 ?_
  refine dk_icmp_ge (tgt := 191) X (by decide) d_Model_next_183 hF (fun hF => ?_) (fun hF => ?_)
  · refine dk_iload (i := 4) X 1 rfl d_Model_next_191 ?_
    refine dk_iconst (v := 2) X (by decide) d_Model_next_193 ?_
    refine dk_isub X d_Model_next_194 ?_
    exact dk_sub [] rfl (kb_Model_next_195 (n := n) X hR   hF)
  · refine dk_iload (i := 4) X 1 rfl d_Model_next_186 ?_
    refine dk_goto (tgt := 195) X (by decide) d_Model_next_188 ?_
    exact dk_sub [] rfl (kb_Model_next_195 (n := n) X hR   hF)
def B_Model_next_136 (n : Nat)  (x4 : Int32) (S : dk_S) : Option dk_S :=
  if (2 : Int32) ≤ x4 then (if (8 : Int32) ≤ x4 then (if ¬ x4 = (11 : Int32) then (B_Model_next_176 n  x4 (((4 : Int32) + x4) - (8 : Int32)) S) else (B_Model_next_176 n  x4 (-1 : Int32) S)) else (B_Model_next_176 n  x4 (2 : Int32) S)) else (B_Model_next_176 n  x4 (3 : Int32) S)
set_option maxRecDepth 20000 in
theorem kb_Model_next_136 {p : Program} {l : Launch} {e : Env} {s : State} {m : MethodId} {args : Array Value} {below : List Frame} {meth : Method} {c : Code} {g : dk_G} {A : Nat → Prop} {Q : State → Prop} {am : Nat → Nat} {n : Nat} {res : dk_S} (X : dk_X p s m args meth c b_Model_next 5 R_Model (none) g A) (hR : dk_Rv p l e rm_Model_next s m args below meth c g A Q 5 b_Model_next (none) (wM g am) res)  {x4 : Int32} {S : dk_S}  (hF : B_Model_next_136 n  x4 S = some res) : dk_J p l e rm_Model_next s m args below meth c g A Q 5 0 0 136 [(0, .ref (am 0)), (4, .int x4)] [] (wM g am S) := by
  unfold B_Model_next_136 at hF
  refine dk_aload_n (k := 0) (i := 0) X 0 rfl rfl d_Model_next_136 ?_
  refine dk_iload (i := 4) X 1 rfl d_Model_next_137 ?_
  refine dk_iconst (v := 2) X (by decide) d_Model_next_139 ?_
  refine dk_icmp_ge (tgt := 147) X (by decide) d_Model_next_140 hF (fun hF => ?_) (fun hF => ?_)
  · refine dk_iload (i := 4) X 1 rfl d_Model_next_147 ?_
    refine dk_bipush (v := 8) X (by decide) d_Model_next_149 ?_
    refine dk_icmp_ge (tgt := 158) X (by decide) d_Model_next_151 hF (fun hF => ?_) (fun hF => ?_)
    · refine dk_iload (i := 4) X 1 rfl d_Model_next_158 ?_
      refine dk_bipush (v := 11) X (by decide) d_Model_next_160 ?_
      refine dk_icmp_ne (tgt := 169) X (by decide) d_Model_next_162 hF (fun hF => ?_) (fun hF => ?_)
      · refine dk_iconst (v := 4) X (by decide) d_Model_next_169 ?_
        refine dk_iload (i := 4) X 1 rfl d_Model_next_170 ?_
        refine dk_iadd X d_Model_next_172 ?_
        refine dk_bipush (v := 8) X (by decide) d_Model_next_173 ?_
        refine dk_isub X d_Model_next_175 ?_
        exact (kb_Model_next_176 (n := n) X hR   hF)
      · refine dk_iconst (v := -1) X (by decide) d_Model_next_165 ?_
        refine dk_goto (tgt := 176) X (by decide) d_Model_next_166 ?_
        exact (kb_Model_next_176 (n := n) X hR   hF)
    · refine dk_iconst (v := 2) X (by decide) d_Model_next_154 ?_
      refine dk_goto (tgt := 176) X (by decide) d_Model_next_155 ?_
      exact (kb_Model_next_176 (n := n) X hR   hF)
  · refine dk_iconst (v := 3) X (by decide) d_Model_next_143 ?_
    refine dk_goto (tgt := 176) X (by decide) d_Model_next_144 ?_
    exact (kb_Model_next_176 (n := n) X hR   hF)
def B_Model_next_111b (n : Nat) (k111 : Int64 → Int32 → dk_S → Option dk_S) (x2 : Int64) (x4 : Int32) (S : dk_S) : Option dk_S :=
  if (11 : Int32) ≤ x4 then (B_Model_next_136 n  x4 S) else (dk_rl 11 dk_words x4 fun v4 => if (lg_cmp v4 x2) = 0 then (B_Model_next_136 n  x4 S) else (k111 x2 (x4 + (1 : Int32)) S))
set_option maxRecDepth 20000 in
theorem kb_Model_next_111b {p : Program} {l : Launch} {e : Env} {s : State} {m : MethodId} {args : Array Value} {below : List Frame} {meth : Method} {c : Code} {g : dk_G} {A : Nat → Prop} {Q : State → Prop} {am : Nat → Nat} {n : Nat} {res : dk_S} (X : dk_X p s m args meth c b_Model_next 5 R_Model (none) g A) (hR : dk_Rv p l e rm_Model_next s m args below meth c g A Q 5 b_Model_next (none) (wM g am) res) {k111 : Int64 → Int32 → dk_S → Option dk_S} (hk111 : ∀ (x2 : Int64) (x4 : Int32)  (S : dk_S), k111 x2 x4 S = some res → dk_J p l e rm_Model_next s m args below meth c g A Q 5 0 0 111 [(0, .ref (am 0)), (2, .long x2), (4, .int x4)] [] (wM g am S)) {x2 : Int64} {x4 : Int32} {S : dk_S}  (hF : B_Model_next_111b n k111 x2 x4 S = some res) : dk_J p l e rm_Model_next s m args below meth c g A Q 5 0 0 111 [(0, .ref (am 0)), (2, .long x2), (4, .int x4)] [] (wM g am S) := by
  unfold B_Model_next_111b at hF
  refine dk_iload (i := 4) X 2 rfl d_Model_next_111 ?_
  refine dk_bipush (v := 11) X (by decide) d_Model_next_113 ?_
  refine dk_icmp_ge (tgt := 136) X (by decide) d_Model_next_115 hF (fun hF => ?_) (fun hF => ?_)
  · exact dk_sub [0, 2] rfl (kb_Model_next_136 (n := n) X hR   hF)
  · refine dk_aload_n (k := 0) (i := 0) X 0 rfl rfl d_Model_next_118 ?_
    refine dk_get X q_Model 0 44 (by decide) (oM_Model g am S) rfl f_Model_121 d_Model_next_119 ?_
    refine dk_iload (i := 4) X 2 rfl d_Model_next_122 ?_
    refine dk_lald X 29 (aM_29 g am S) d_Model_next_124 hF (fun v4 hF => ?_)
    refine dk_lload_n (k := 2) (i := 2) X 1 rfl rfl d_Model_next_125 ?_
    refine dk_lcmp X d_Model_next_126 ?_
    refine dk_if_eq (tgt := 136) X (by decide) d_Model_next_127 hF (fun hF => ?_) (fun hF => ?_)
    · exact dk_sub [0, 2] rfl (kb_Model_next_136 (n := n) X hR   hF)
    · refine dk_iinc (i := 4) (v := (x4 + (1 : Int32))) (lv' := [(4, .int (x4 + (1 : Int32))), (0, .ref (am 0)), (2, .long x2)]) X 2 rfl (dk_ii _ (by decide)) (by decide) rfl d_Model_next_130 ?_
      refine dk_goto (tgt := 111) X (by decide) d_Model_next_133 ?_
      exact dk_sub [1, 2, 0] rfl (hk111 x2 (x4 + (1 : Int32)) S hF)
def B_Model_next_111 (n : Nat)  : Nat → Int64 → Int32 → dk_S → Option dk_S
  | 0 => fun _ _ _ => none
  | q + 1 => fun x2 x4 S => B_Model_next_111b n (fun x2 x4 S => B_Model_next_111 n  q x2 x4 S) x2 x4 S
theorem kb_Model_next_111 {p : Program} {l : Launch} {e : Env} {s : State} {m : MethodId} {args : Array Value} {below : List Frame} {meth : Method} {c : Code} {g : dk_G} {A : Nat → Prop} {Q : State → Prop} {am : Nat → Nat} {n : Nat} {res : dk_S} (X : dk_X p s m args meth c b_Model_next 5 R_Model (none) g A) (hR : dk_Rv p l e rm_Model_next s m args below meth c g A Q 5 b_Model_next (none) (wM g am) res)  : ∀ (q : Nat) (x2 : Int64) (x4 : Int32)  (S : dk_S), B_Model_next_111 n  q x2 x4 S = some res → dk_J p l e rm_Model_next s m args below meth c g A Q 5 0 0 111 [(0, .ref (am 0)), (2, .long x2), (4, .int x4)] [] (wM g am S) := by
  intro q
  induction q with
  | zero => intro x2 x4  S hF; cases hF
  | succ q ih => intro x2 x4  S hF; exact kb_Model_next_111b (n := n) X hR ih  hF
def B_Model_next_274 (n : Nat) (k214 : Int32 → dk_S → Option dk_S) (x2 : Int32) (u1 : Int32) (S : dk_S) : Option dk_S :=
  dk_p S 43 u1 fun S5 => dk_p S5 40 ((S5 40 0) + (1 : Int32)) fun S6 => k214 (x2 + (1 : Int32)) S6
set_option maxRecDepth 20000 in
theorem kb_Model_next_274 {p : Program} {l : Launch} {e : Env} {s : State} {m : MethodId} {args : Array Value} {below : List Frame} {meth : Method} {c : Code} {g : dk_G} {A : Nat → Prop} {Q : State → Prop} {am : Nat → Nat} {n : Nat} {res : dk_S} (X : dk_X p s m args meth c b_Model_next 5 R_Model (none) g A) (hR : dk_Rv p l e rm_Model_next s m args below meth c g A Q 5 b_Model_next (none) (wM g am) res) {k214 : Int32 → dk_S → Option dk_S} (hk214 : ∀ (x2 : Int32)  (S : dk_S), k214 x2 S = some res → dk_J p l e rm_Model_next s m args below meth c g A Q 5 0 0 214 [(0, .ref (am 0)), (2, .int x2)] [] (wM g am S)) {x2 : Int32} {u1 : Int32} {S : dk_S}  (hF : B_Model_next_274 n k214 x2 u1 S = some res) : dk_J p l e rm_Model_next s m args below meth c g A Q 5 0 0 274 [(0, .ref (am 0)), (2, .int x2)] [.int u1, .ref (am 0)] (wM g am S) := by
  unfold B_Model_next_274 at hF
  refine dk_puti X q_Model 0 43 (by decide) (oM_Model g am S) f_Model_182 rfl rfl (Nat.le_of_ble_eq_true rfl) (sM_Model_value g am S _) d_Model_next_274 hF (fun S5 hF => ?_)
  refine dk_iinc (i := 2) (v := (x2 + (1 : Int32))) (lv' := [(2, .int (x2 + (1 : Int32))), (0, .ref (am 0))]) X 1 rfl (dk_ii _ (by decide)) (by decide) rfl d_Model_next_277 ?_
  refine dk_aload_n (k := 0) (i := 0) X 1 rfl rfl d_Model_next_280 ?_
  refine dk_dup X rfl d_Model_next_281 ?_
  refine dk_get X q_Model 0 40 (by decide) (oM_Model g am S5) rfl f_Model_173 d_Model_next_282 ?_
  refine dk_iconst (v := 1) X (by decide) d_Model_next_285 ?_
  refine dk_iadd X d_Model_next_286 ?_
  refine dk_puti X q_Model 0 40 (by decide) (oM_Model g am S5) f_Model_173 rfl rfl (Nat.le_of_ble_eq_true rfl) (sM_Model_at g am S5 _) d_Model_next_287 hF (fun S6 hF => ?_)
  refine dk_goto (tgt := 214) X (by decide) d_Model_next_290 ?_
  exact dk_sub [1, 0] rfl (hk214 (x2 + (1 : Int32)) S6 hF)
def B_Model_next_304 (n : Nat)  (u1 : Int32) (S : dk_S) : Option dk_S :=
  dk_p S 42 u1 fun S7 => some S7
set_option maxRecDepth 20000 in
theorem kb_Model_next_304 {p : Program} {l : Launch} {e : Env} {s : State} {m : MethodId} {args : Array Value} {below : List Frame} {meth : Method} {c : Code} {g : dk_G} {A : Nat → Prop} {Q : State → Prop} {am : Nat → Nat} {n : Nat} {res : dk_S} (X : dk_X p s m args meth c b_Model_next 5 R_Model (none) g A) (hR : dk_Rv p l e rm_Model_next s m args below meth c g A Q 5 b_Model_next (none) (wM g am) res)  {u1 : Int32} {S : dk_S}  (hF : B_Model_next_304 n  u1 S = some res) : dk_J p l e rm_Model_next s m args below meth c g A Q 5 0 0 304 [] [.int u1, .ref (am 0)] (wM g am S) := by
  unfold B_Model_next_304 at hF
  refine dk_puti X q_Model 0 42 (by decide) (oM_Model g am S) f_Model_179 rfl rfl (Nat.le_of_ble_eq_true rfl) (sM_Model_token g am S _) d_Model_next_304 hF (fun S7 hF => ?_)
  refine dk_goto (tgt := 387) X (by decide) d_Model_next_307 ?_
  exact dk_retv hR hF d_Model_next_387
def B_Model_next_293 (n : Nat)  (x2 : Int32) (S : dk_S) : Option dk_S :=
  if x2 ≤ (4 : Int32) then (B_Model_next_304 n  (1 : Int32) S) else (B_Model_next_304 n  (-1 : Int32) S)
set_option maxRecDepth 20000 in
theorem kb_Model_next_293 {p : Program} {l : Launch} {e : Env} {s : State} {m : MethodId} {args : Array Value} {below : List Frame} {meth : Method} {c : Code} {g : dk_G} {A : Nat → Prop} {Q : State → Prop} {am : Nat → Nat} {n : Nat} {res : dk_S} (X : dk_X p s m args meth c b_Model_next 5 R_Model (none) g A) (hR : dk_Rv p l e rm_Model_next s m args below meth c g A Q 5 b_Model_next (none) (wM g am) res)  {x2 : Int32} {S : dk_S}  (hF : B_Model_next_293 n  x2 S = some res) : dk_J p l e rm_Model_next s m args below meth c g A Q 5 0 0 293 [(0, .ref (am 0)), (2, .int x2)] [] (wM g am S) := by
  unfold B_Model_next_293 at hF
  refine dk_aload_n (k := 0) (i := 0) X 0 rfl rfl d_Model_next_293 ?_
  refine dk_iload_n (k := 2) (i := 2) X 1 rfl rfl d_Model_next_294 ?_
  refine dk_iconst (v := 4) X (by decide) d_Model_next_295 ?_
  refine dk_icmp_le (tgt := 303) X (by decide) d_Model_next_296 hF (fun hF => ?_) (fun hF => ?_)
  · refine dk_iconst (v := 1) X (by decide) d_Model_next_303 ?_
    exact dk_sub [] rfl (kb_Model_next_304 (n := n) X hR   hF)
  · refine dk_iconst (v := -1) X (by decide) d_Model_next_299 ?_
    refine dk_goto (tgt := 304) X (by decide) d_Model_next_300 ?_
    exact dk_sub [] rfl (kb_Model_next_304 (n := n) X hR   hF)
def B_Model_next_214b (n : Nat) (k214 : Int32 → dk_S → Option dk_S) (x2 : Int32) (S : dk_S) : Option dk_S :=
  if (S 13 0) ≤ (S 40 0) then (B_Model_next_293 n  x2 S) else (dk_r 160 (S 12) (S 40 0) fun v8 => dk_c (F_Model_in n v8 (48 : Int32) (57 : Int32) S) fun r10 S9 => if r10 = 0 then (B_Model_next_293 n  x2 S9) else (if (4 : Int32) ≤ x2 then (B_Model_next_274 n k214 x2 (0 : Int32) S9) else (dk_r 160 (S9 12) (S9 40 0) fun v11 => B_Model_next_274 n k214 x2 ((((10 : Int32) * (S9 43 0)) + v11) - (48 : Int32)) S9)))
set_option maxRecDepth 20000 in
theorem kb_Model_next_214b {p : Program} {l : Launch} {e : Env} {s : State} {m : MethodId} {args : Array Value} {below : List Frame} {meth : Method} {c : Code} {g : dk_G} {A : Nat → Prop} {Q : State → Prop} {am : Nat → Nat} {n : Nat} {res : dk_S} (X : dk_X p s m args meth c b_Model_next 5 R_Model (none) g A) (hR : dk_Rv p l e rm_Model_next s m args below meth c g A Q 5 b_Model_next (none) (wM g am) res) {k214 : Int32 → dk_S → Option dk_S} (hk214 : ∀ (x2 : Int32)  (S : dk_S), k214 x2 S = some res → dk_J p l e rm_Model_next s m args below meth c g A Q 5 0 0 214 [(0, .ref (am 0)), (2, .int x2)] [] (wM g am S)) {x2 : Int32} {S : dk_S}  (hF : B_Model_next_214b n k214 x2 S = some res) : dk_J p l e rm_Model_next s m args below meth c g A Q 5 0 0 214 [(0, .ref (am 0)), (2, .int x2)] [] (wM g am S) := by
  unfold B_Model_next_214b at hF
  refine dk_aload_n (k := 0) (i := 0) X 0 rfl rfl d_Model_next_214 ?_
  refine dk_get X q_Model 0 40 (by decide) (oM_Model g am S) rfl f_Model_173 d_Model_next_215 ?_
  refine dk_aload_n (k := 0) (i := 0) X 0 rfl rfl d_Model_next_218 ?_
  refine dk_get X q_Model 0 13 (by decide) (oM_Model g am S) rfl f_Model_168 d_Model_next_219 ?_
  refine dk_icmp_ge (tgt := 293) X (by decide) d_Model_next_222 hF (fun hF => ?_) (fun hF => ?_)
  · exact (kb_Model_next_293 (n := n) X hR   hF)
  · refine dk_aload_n (k := 0) (i := 0) X 0 rfl rfl d_Model_next_225 ?_
    refine dk_get X q_Model 0 12 (by decide) (oM_Model g am S) rfl f_Model_37 d_Model_next_226 ?_
    refine dk_aload_n (k := 0) (i := 0) X 0 rfl rfl d_Model_next_229 ?_
    refine dk_get X q_Model 0 40 (by decide) (oM_Model g am S) rfl f_Model_173 d_Model_next_230 ?_
    refine dk_iald X 10 (aM_10 g am S) d_Model_next_233 hF (fun v8 hF => ?_)
    refine dk_bipush (v := 48) X (by decide) d_Model_next_234 ?_
    refine dk_bipush (v := 57) X (by decide) d_Model_next_236 ?_
    refine dk_callSi X v_Model_in [.int v8, .int (48 : Int32), .int (57 : Int32)] (c_Model_in l g am n v8 (48 : Int32) (57 : Int32) S) m_Model_144 rfl rfl ⟨rfl, rfl, Nat.le_of_ble_eq_true rfl, Nat.le_of_ble_eq_true rfl, Nat.le_refl _, Nat.le_refl _⟩ (Nat.le_of_ble_eq_true rfl) d_Model_next_238 hF (fun r10 S9 hF => ?_)
    refine dk_if_eq (tgt := 293) X (by decide) d_Model_next_241 hF (fun hF => ?_) (fun hF => ?_)
    · exact (kb_Model_next_293 (n := n) X hR   hF)
    · refine dk_aload_n (k := 0) (i := 0) X 0 rfl rfl d_Model_next_244 ?_
      refine dk_iload_n (k := 2) (i := 2) X 1 rfl rfl d_Model_next_245 ?_
      refine dk_iconst (v := 4) X (by decide) d_Model_next_246 ?_
      refine dk_icmp_ge (tgt := 273) X (by decide) d_Model_next_247 hF (fun hF => ?_) (fun hF => ?_)
      · refine dk_iconst (v := 0) X (by decide) d_Model_next_273 ?_
        exact (kb_Model_next_274 (n := n) X hR hk214  hF)
      · refine dk_bipush (v := 10) X (by decide) d_Model_next_250 ?_
        refine dk_aload_n (k := 0) (i := 0) X 0 rfl rfl d_Model_next_252 ?_
        refine dk_get X q_Model 0 43 (by decide) (oM_Model g am S9) rfl f_Model_182 d_Model_next_253 ?_
        refine dk_imul X d_Model_next_256 ?_
        refine dk_aload_n (k := 0) (i := 0) X 0 rfl rfl d_Model_next_257 ?_
        refine dk_get X q_Model 0 12 (by decide) (oM_Model g am S9) rfl f_Model_37 d_Model_next_258 ?_
        refine dk_aload_n (k := 0) (i := 0) X 0 rfl rfl d_Model_next_261 ?_
        refine dk_get X q_Model 0 40 (by decide) (oM_Model g am S9) rfl f_Model_173 d_Model_next_262 ?_
        refine dk_iald X 10 (aM_10 g am S9) d_Model_next_265 hF (fun v11 hF => ?_)
        refine dk_iadd X d_Model_next_266 ?_
        refine dk_bipush (v := 48) X (by decide) d_Model_next_267 ?_
        refine dk_isub X d_Model_next_269 ?_
        refine dk_goto (tgt := 274) X (by decide) d_Model_next_270 ?_
        exact (kb_Model_next_274 (n := n) X hR hk214  hF)
def B_Model_next_214 (n : Nat)  : Nat → Int32 → dk_S → Option dk_S
  | 0 => fun _ _ => none
  | q + 1 => fun x2 S => B_Model_next_214b n (fun x2 S => B_Model_next_214 n  q x2 S) x2 S
theorem kb_Model_next_214 {p : Program} {l : Launch} {e : Env} {s : State} {m : MethodId} {args : Array Value} {below : List Frame} {meth : Method} {c : Code} {g : dk_G} {A : Nat → Prop} {Q : State → Prop} {am : Nat → Nat} {n : Nat} {res : dk_S} (X : dk_X p s m args meth c b_Model_next 5 R_Model (none) g A) (hR : dk_Rv p l e rm_Model_next s m args below meth c g A Q 5 b_Model_next (none) (wM g am) res)  : ∀ (q : Nat) (x2 : Int32)  (S : dk_S), B_Model_next_214 n  q x2 S = some res → dk_J p l e rm_Model_next s m args below meth c g A Q 5 0 0 214 [(0, .ref (am 0)), (2, .int x2)] [] (wM g am S) := by
  intro q
  induction q with
  | zero => intro x2  S hF; cases hF
  | succ q ih => intro x2  S hF; exact kb_Model_next_214b (n := n) X hR ih  hF
def B_Model_next_374 (n : Nat)  (u1 : Int32) (S : dk_S) : Option dk_S :=
  dk_p S 42 u1 fun S12 => dk_p S12 40 ((S12 40 0) + (1 : Int32)) fun S13 => some S13
set_option maxRecDepth 20000 in
theorem kb_Model_next_374 {p : Program} {l : Launch} {e : Env} {s : State} {m : MethodId} {args : Array Value} {below : List Frame} {meth : Method} {c : Code} {g : dk_G} {A : Nat → Prop} {Q : State → Prop} {am : Nat → Nat} {n : Nat} {res : dk_S} (X : dk_X p s m args meth c b_Model_next 5 R_Model (none) g A) (hR : dk_Rv p l e rm_Model_next s m args below meth c g A Q 5 b_Model_next (none) (wM g am) res)  {u1 : Int32} {S : dk_S}  (hF : B_Model_next_374 n  u1 S = some res) : dk_J p l e rm_Model_next s m args below meth c g A Q 5 0 0 374 [(0, .ref (am 0))] [.int u1, .ref (am 0)] (wM g am S) := by
  unfold B_Model_next_374 at hF
  refine dk_puti X q_Model 0 42 (by decide) (oM_Model g am S) f_Model_179 rfl rfl (Nat.le_of_ble_eq_true rfl) (sM_Model_token g am S _) d_Model_next_374 hF (fun S12 hF => ?_)
  refine dk_aload_n (k := 0) (i := 0) X 0 rfl rfl d_Model_next_377 ?_
  refine dk_dup X rfl d_Model_next_378 ?_
  refine dk_get X q_Model 0 40 (by decide) (oM_Model g am S12) rfl f_Model_173 d_Model_next_379 ?_
  refine dk_iconst (v := 1) X (by decide) d_Model_next_382 ?_
  refine dk_iadd X d_Model_next_383 ?_
  refine dk_puti X q_Model 0 40 (by decide) (oM_Model g am S12) f_Model_173 rfl rfl (Nat.le_of_ble_eq_true rfl) (sM_Model_at g am S12 _) d_Model_next_384 hF (fun S13 hF => ?_)
  exact dk_retv hR hF d_Model_next_387
def B_Model_next_363 (n : Nat)  (x1 : Int32) (u0 : Int32) (S : dk_S) : Option dk_S :=
  if u0 = 0 then (B_Model_next_374 n  (-1 : Int32) S) else (B_Model_next_374 n  x1 S)
set_option maxRecDepth 20000 in
theorem kb_Model_next_363 {p : Program} {l : Launch} {e : Env} {s : State} {m : MethodId} {args : Array Value} {below : List Frame} {meth : Method} {c : Code} {g : dk_G} {A : Nat → Prop} {Q : State → Prop} {am : Nat → Nat} {n : Nat} {res : dk_S} (X : dk_X p s m args meth c b_Model_next 5 R_Model (none) g A) (hR : dk_Rv p l e rm_Model_next s m args below meth c g A Q 5 b_Model_next (none) (wM g am) res)  {x1 : Int32} {u0 : Int32} {S : dk_S}  (hF : B_Model_next_363 n  x1 u0 S = some res) : dk_J p l e rm_Model_next s m args below meth c g A Q 5 0 0 363 [(0, .ref (am 0)), (1, .int x1)] [.int u0] (wM g am S) := by
  unfold B_Model_next_363 at hF
  refine dk_istore_n (k := 2) (i := 2) (lv' := [(2, .int u0), (0, .ref (am 0)), (1, .int x1)]) X rfl (by decide) rfl d_Model_next_363 ?_
  refine dk_aload_n (k := 0) (i := 0) X 1 rfl rfl d_Model_next_364 ?_
  refine dk_iload_n (k := 2) (i := 2) X 0 rfl rfl d_Model_next_365 ?_
  refine dk_if_eq (tgt := 373) X (by decide) d_Model_next_366 hF (fun hF => ?_) (fun hF => ?_)
  · refine dk_iconst (v := -1) X (by decide) d_Model_next_373 ?_
    exact dk_sub [1] rfl (kb_Model_next_374 (n := n) X hR   hF)
  · refine dk_iload_n (k := 1) (i := 1) X 2 rfl rfl d_Model_next_369 ?_
    refine dk_goto (tgt := 374) X (by decide) d_Model_next_370 ?_
    exact dk_sub [1] rfl (kb_Model_next_374 (n := n) X hR   hF)
def B_Model_next_358 (n : Nat)  (x1 : Int32) (S : dk_S) : Option dk_S :=
  B_Model_next_363 n  x1 (1 : Int32) S
set_option maxRecDepth 20000 in
theorem kb_Model_next_358 {p : Program} {l : Launch} {e : Env} {s : State} {m : MethodId} {args : Array Value} {below : List Frame} {meth : Method} {c : Code} {g : dk_G} {A : Nat → Prop} {Q : State → Prop} {am : Nat → Nat} {n : Nat} {res : dk_S} (X : dk_X p s m args meth c b_Model_next 5 R_Model (none) g A) (hR : dk_Rv p l e rm_Model_next s m args below meth c g A Q 5 b_Model_next (none) (wM g am) res)  {x1 : Int32} {S : dk_S}  (hF : B_Model_next_358 n  x1 S = some res) : dk_J p l e rm_Model_next s m args below meth c g A Q 5 0 0 358 [(0, .ref (am 0)), (1, .int x1)] [] (wM g am S) := by
  unfold B_Model_next_358 at hF
  refine dk_iconst (v := 1) X (by decide) d_Model_next_358 ?_
  refine dk_goto (tgt := 363) X (by decide) d_Model_next_359 ?_
  exact (kb_Model_next_363 (n := n) X hR   hF)
def B_Model_next_52 (n : Nat)   (S : dk_S) : Option dk_S :=
  dk_p S 41 (S 40 0) fun S14 => dk_p S14 42 (0 : Int32) fun S15 => dk_p S15 43 (0 : Int32) fun S16 => if ¬ (S16 40 0) = (S16 13 0) then (dk_r 160 (S16 12) (S16 40 0) fun v17 => dk_c (F_Model_in n v17 (97 : Int32) (122 : Int32) S16) fun r19 S18 => if r19 = 0 then (dk_c (F_Model_in n v17 (48 : Int32) (57 : Int32) S18) fun r21 S20 => if r21 = 0 then (if v17 = (40 : Int32) then (B_Model_next_358 n  v17 S20) else (if v17 = (41 : Int32) then (B_Model_next_358 n  v17 S20) else (if v17 = (59 : Int32) then (B_Model_next_358 n  v17 S20) else (if v17 = (43 : Int32) then (B_Model_next_358 n  v17 S20) else (if v17 = (45 : Int32) then (B_Model_next_358 n  v17 S20) else (if v17 = (42 : Int32) then (B_Model_next_358 n  v17 S20) else (if v17 = (60 : Int32) then (B_Model_next_358 n  v17 S20) else (if ¬ v17 = (61 : Int32) then (B_Model_next_363 n  v17 (0 : Int32) S20) else (B_Model_next_358 n  v17 S20))))))))) else (B_Model_next_214 n  n (0 : Int32) S20)) else (dk_c (F_Model_letters n S18) fun r23 S22 => B_Model_next_111 n  n r23 (0 : Int32) S22)) else (some S16)
set_option maxRecDepth 20000 in
theorem kb_Model_next_52 {p : Program} {l : Launch} {e : Env} {s : State} {m : MethodId} {args : Array Value} {below : List Frame} {meth : Method} {c : Code} {g : dk_G} {A : Nat → Prop} {Q : State → Prop} {am : Nat → Nat} {n : Nat} {res : dk_S} (X : dk_X p s m args meth c b_Model_next 5 R_Model (none) g A) (hR : dk_Rv p l e rm_Model_next s m args below meth c g A Q 5 b_Model_next (none) (wM g am) res)   {S : dk_S}  (hF : B_Model_next_52 n   S = some res) : dk_J p l e rm_Model_next s m args below meth c g A Q 5 0 0 52 [(0, .ref (am 0))] [] (wM g am S) := by
  unfold B_Model_next_52 at hF
  refine dk_aload_n (k := 0) (i := 0) X 0 rfl rfl d_Model_next_52 ?_
  refine dk_aload_n (k := 0) (i := 0) X 0 rfl rfl d_Model_next_53 ?_
  refine dk_get X q_Model 0 40 (by decide) (oM_Model g am S) rfl f_Model_173 d_Model_next_54 ?_
  refine dk_puti X q_Model 0 41 (by decide) (oM_Model g am S) f_Model_176 rfl rfl (Nat.le_of_ble_eq_true rfl) (sM_Model_begun g am S _) d_Model_next_57 hF (fun S14 hF => ?_)
  refine dk_aload_n (k := 0) (i := 0) X 0 rfl rfl d_Model_next_60 ?_
  refine dk_iconst (v := 0) X (by decide) d_Model_next_61 ?_
  refine dk_puti X q_Model 0 42 (by decide) (oM_Model g am S14) f_Model_179 rfl rfl (Nat.le_of_ble_eq_true rfl) (sM_Model_token g am S14 _) d_Model_next_62 hF (fun S15 hF => ?_)
  refine dk_aload_n (k := 0) (i := 0) X 0 rfl rfl d_Model_next_65 ?_
  refine dk_iconst (v := 0) X (by decide) d_Model_next_66 ?_
  refine dk_puti X q_Model 0 43 (by decide) (oM_Model g am S15) f_Model_182 rfl rfl (Nat.le_of_ble_eq_true rfl) (sM_Model_value g am S15 _) d_Model_next_67 hF (fun S16 hF => ?_)
  refine dk_aload_n (k := 0) (i := 0) X 0 rfl rfl d_Model_next_70 ?_
  refine dk_get X q_Model 0 40 (by decide) (oM_Model g am S16) rfl f_Model_173 d_Model_next_71 ?_
  refine dk_aload_n (k := 0) (i := 0) X 0 rfl rfl d_Model_next_74 ?_
  refine dk_get X q_Model 0 13 (by decide) (oM_Model g am S16) rfl f_Model_168 d_Model_next_75 ?_
  refine dk_icmp_ne (tgt := 82) X (by decide) d_Model_next_78 hF (fun hF => ?_) (fun hF => ?_)
  · refine dk_aload_n (k := 0) (i := 0) X 0 rfl rfl d_Model_next_82 ?_
    refine dk_get X q_Model 0 12 (by decide) (oM_Model g am S16) rfl f_Model_37 d_Model_next_83 ?_
    refine dk_aload_n (k := 0) (i := 0) X 0 rfl rfl d_Model_next_86 ?_
    refine dk_get X q_Model 0 40 (by decide) (oM_Model g am S16) rfl f_Model_173 d_Model_next_87 ?_
    refine dk_iald X 10 (aM_10 g am S16) d_Model_next_90 hF (fun v17 hF => ?_)
    refine dk_istore_n (k := 1) (i := 1) (lv' := [(1, .int v17), (0, .ref (am 0))]) X rfl (by decide) rfl d_Model_next_91 ?_
    refine dk_iload_n (k := 1) (i := 1) X 0 rfl rfl d_Model_next_92 ?_
    refine dk_bipush (v := 97) X (by decide) d_Model_next_93 ?_
    refine dk_bipush (v := 122) X (by decide) d_Model_next_95 ?_
    refine dk_callSi X v_Model_in [.int v17, .int (97 : Int32), .int (122 : Int32)] (c_Model_in l g am n v17 (97 : Int32) (122 : Int32) S16) m_Model_144 rfl rfl ⟨rfl, rfl, Nat.le_of_ble_eq_true rfl, Nat.le_of_ble_eq_true rfl, Nat.le_refl _, Nat.le_refl _⟩ (Nat.le_of_ble_eq_true rfl) d_Model_next_97 hF (fun r19 S18 hF => ?_)
    refine dk_if_eq (tgt := 201) X (by decide) d_Model_next_100 hF (fun hF => ?_) (fun hF => ?_)
    · refine dk_iload_n (k := 1) (i := 1) X 0 rfl rfl d_Model_next_201 ?_
      refine dk_bipush (v := 48) X (by decide) d_Model_next_202 ?_
      refine dk_bipush (v := 57) X (by decide) d_Model_next_204 ?_
      refine dk_callSi X v_Model_in [.int v17, .int (48 : Int32), .int (57 : Int32)] (c_Model_in l g am n v17 (48 : Int32) (57 : Int32) S18) m_Model_144 rfl rfl ⟨rfl, rfl, Nat.le_of_ble_eq_true rfl, Nat.le_of_ble_eq_true rfl, Nat.le_refl _, Nat.le_refl _⟩ (Nat.le_of_ble_eq_true rfl) d_Model_next_206 hF (fun r21 S20 hF => ?_)
      refine dk_if_eq (tgt := 310) X (by decide) d_Model_next_209 hF (fun hF => ?_) (fun hF => ?_)
      · refine dk_iload_n (k := 1) (i := 1) X 0 rfl rfl d_Model_next_310 ?_
        refine dk_bipush (v := 40) X (by decide) d_Model_next_311 ?_
        refine dk_icmp_eq (tgt := 358) X (by decide) d_Model_next_313 hF (fun hF => ?_) (fun hF => ?_)
        · exact dk_sub [1, 0] rfl (kb_Model_next_358 (n := n) X hR   hF)
        · refine dk_iload_n (k := 1) (i := 1) X 0 rfl rfl d_Model_next_316 ?_
          refine dk_bipush (v := 41) X (by decide) d_Model_next_317 ?_
          refine dk_icmp_eq (tgt := 358) X (by decide) d_Model_next_319 hF (fun hF => ?_) (fun hF => ?_)
          · exact dk_sub [1, 0] rfl (kb_Model_next_358 (n := n) X hR   hF)
          · refine dk_iload_n (k := 1) (i := 1) X 0 rfl rfl d_Model_next_322 ?_
            refine dk_bipush (v := 59) X (by decide) d_Model_next_323 ?_
            refine dk_icmp_eq (tgt := 358) X (by decide) d_Model_next_325 hF (fun hF => ?_) (fun hF => ?_)
            · exact dk_sub [1, 0] rfl (kb_Model_next_358 (n := n) X hR   hF)
            · refine dk_iload_n (k := 1) (i := 1) X 0 rfl rfl d_Model_next_328 ?_
              refine dk_bipush (v := 43) X (by decide) d_Model_next_329 ?_
              refine dk_icmp_eq (tgt := 358) X (by decide) d_Model_next_331 hF (fun hF => ?_) (fun hF => ?_)
              · exact dk_sub [1, 0] rfl (kb_Model_next_358 (n := n) X hR   hF)
              · refine dk_iload_n (k := 1) (i := 1) X 0 rfl rfl d_Model_next_334 ?_
                refine dk_bipush (v := 45) X (by decide) d_Model_next_335 ?_
                refine dk_icmp_eq (tgt := 358) X (by decide) d_Model_next_337 hF (fun hF => ?_) (fun hF => ?_)
                · exact dk_sub [1, 0] rfl (kb_Model_next_358 (n := n) X hR   hF)
                · refine dk_iload_n (k := 1) (i := 1) X 0 rfl rfl d_Model_next_340 ?_
                  refine dk_bipush (v := 42) X (by decide) d_Model_next_341 ?_
                  refine dk_icmp_eq (tgt := 358) X (by decide) d_Model_next_343 hF (fun hF => ?_) (fun hF => ?_)
                  · exact dk_sub [1, 0] rfl (kb_Model_next_358 (n := n) X hR   hF)
                  · refine dk_iload_n (k := 1) (i := 1) X 0 rfl rfl d_Model_next_346 ?_
                    refine dk_bipush (v := 60) X (by decide) d_Model_next_347 ?_
                    refine dk_icmp_eq (tgt := 358) X (by decide) d_Model_next_349 hF (fun hF => ?_) (fun hF => ?_)
                    · exact dk_sub [1, 0] rfl (kb_Model_next_358 (n := n) X hR   hF)
                    · refine dk_iload_n (k := 1) (i := 1) X 0 rfl rfl d_Model_next_352 ?_
                      refine dk_bipush (v := 61) X (by decide) d_Model_next_353 ?_
                      refine dk_icmp_ne (tgt := 362) X (by decide) d_Model_next_355 hF (fun hF => ?_) (fun hF => ?_)
                      · refine dk_iconst (v := 0) X (by decide) d_Model_next_362 ?_
                        exact dk_sub [1, 0] rfl (kb_Model_next_363 (n := n) X hR   hF)
                      · exact dk_sub [1, 0] rfl (kb_Model_next_358 (n := n) X hR   hF)
      · refine dk_iconst (v := 0) X (by decide) d_Model_next_212 ?_
        refine dk_istore_n (k := 2) (i := 2) (lv' := [(2, .int (0 : Int32)), (1, .int v17), (0, .ref (am 0))]) X rfl (by decide) rfl d_Model_next_213 ?_
        exact dk_sub [2, 0] rfl (kb_Model_next_214 (n := n) X hR  n (0 : Int32) S20 hF)
    · refine dk_aload_n (k := 0) (i := 0) X 1 rfl rfl d_Model_next_103 ?_
      refine dk_callVl X v_Model_letters [] (c_Model_letters l g am n S18) 0 (oM_Model g am S18) rfl rfl m_Model_185 rfl rfl ⟨rfl, rfl, Nat.le_of_ble_eq_true rfl, Nat.le_of_ble_eq_true rfl, Nat.le_refl _, Nat.le_refl _⟩ (Nat.le_of_ble_eq_true rfl) d_Model_next_104 hF (fun r23 S22 hF => ?_)
      refine dk_lstore_n (k := 2) (i := 2) (lv' := [(2, .long r23), (1, .int v17), (0, .ref (am 0))]) X rfl (by decide) rfl d_Model_next_107 ?_
      refine dk_iconst (v := 0) X (by decide) d_Model_next_108 ?_
      refine dk_istore (i := 4) (lv' := [(4, .int (0 : Int32)), (2, .long r23), (1, .int v17), (0, .ref (am 0))]) X (by decide) rfl d_Model_next_109 ?_
      exact dk_sub [3, 1, 0] rfl (kb_Model_next_111 (n := n) X hR  n r23 (0 : Int32) S22 hF)
  · exact dk_retv hR hF d_Model_next_81
def B_Model_next_0b (n : Nat) (k0 : dk_S → Option dk_S)  (S : dk_S) : Option dk_S :=
  if (S 13 0) ≤ (S 40 0) then (B_Model_next_52 n  S) else (dk_r 160 (S 12) (S 40 0) fun v24 => if v24 = (32 : Int32) then (B_Model_next_39 n k0 S) else (dk_r 160 (S 12) (S 40 0) fun v25 => if ¬ v25 = (10 : Int32) then (B_Model_next_52 n  S) else (B_Model_next_39 n k0 S)))
set_option maxRecDepth 20000 in
theorem kb_Model_next_0b {p : Program} {l : Launch} {e : Env} {s : State} {m : MethodId} {args : Array Value} {below : List Frame} {meth : Method} {c : Code} {g : dk_G} {A : Nat → Prop} {Q : State → Prop} {am : Nat → Nat} {n : Nat} {res : dk_S} (X : dk_X p s m args meth c b_Model_next 5 R_Model (none) g A) (hR : dk_Rv p l e rm_Model_next s m args below meth c g A Q 5 b_Model_next (none) (wM g am) res) {k0 : dk_S → Option dk_S} (hk0 : ∀   (S : dk_S), k0  S = some res → dk_J p l e rm_Model_next s m args below meth c g A Q 5 0 0 0 [(0, .ref (am 0))] [] (wM g am S))  {S : dk_S}  (hF : B_Model_next_0b n k0  S = some res) : dk_J p l e rm_Model_next s m args below meth c g A Q 5 0 0 0 [(0, .ref (am 0))] [] (wM g am S) := by
  unfold B_Model_next_0b at hF
  refine dk_aload_n (k := 0) (i := 0) X 0 rfl rfl d_Model_next_0 ?_
  refine dk_get X q_Model 0 40 (by decide) (oM_Model g am S) rfl f_Model_173 d_Model_next_1 ?_
  refine dk_aload_n (k := 0) (i := 0) X 0 rfl rfl d_Model_next_4 ?_
  refine dk_get X q_Model 0 13 (by decide) (oM_Model g am S) rfl f_Model_168 d_Model_next_5 ?_
  refine dk_icmp_ge (tgt := 52) X (by decide) d_Model_next_8 hF (fun hF => ?_) (fun hF => ?_)
  · exact (kb_Model_next_52 (n := n) X hR   hF)
  · refine dk_aload_n (k := 0) (i := 0) X 0 rfl rfl d_Model_next_11 ?_
    refine dk_get X q_Model 0 12 (by decide) (oM_Model g am S) rfl f_Model_37 d_Model_next_12 ?_
    refine dk_aload_n (k := 0) (i := 0) X 0 rfl rfl d_Model_next_15 ?_
    refine dk_get X q_Model 0 40 (by decide) (oM_Model g am S) rfl f_Model_173 d_Model_next_16 ?_
    refine dk_iald X 10 (aM_10 g am S) d_Model_next_19 hF (fun v24 hF => ?_)
    refine dk_bipush (v := 32) X (by decide) d_Model_next_20 ?_
    refine dk_icmp_eq (tgt := 39) X (by decide) d_Model_next_22 hF (fun hF => ?_) (fun hF => ?_)
    · exact (kb_Model_next_39 (n := n) X hR hk0  hF)
    · refine dk_aload_n (k := 0) (i := 0) X 0 rfl rfl d_Model_next_25 ?_
      refine dk_get X q_Model 0 12 (by decide) (oM_Model g am S) rfl f_Model_37 d_Model_next_26 ?_
      refine dk_aload_n (k := 0) (i := 0) X 0 rfl rfl d_Model_next_29 ?_
      refine dk_get X q_Model 0 40 (by decide) (oM_Model g am S) rfl f_Model_173 d_Model_next_30 ?_
      refine dk_iald X 10 (aM_10 g am S) d_Model_next_33 hF (fun v25 hF => ?_)
      refine dk_bipush (v := 10) X (by decide) d_Model_next_34 ?_
      refine dk_icmp_ne (tgt := 52) X (by decide) d_Model_next_36 hF (fun hF => ?_) (fun hF => ?_)
      · exact (kb_Model_next_52 (n := n) X hR   hF)
      · exact (kb_Model_next_39 (n := n) X hR hk0  hF)
def B_Model_next_0 (n : Nat)  : Nat → dk_S → Option dk_S
  | 0 => fun  _ => none
  | q + 1 => fun  S => B_Model_next_0b n (fun  S => B_Model_next_0 n  q  S)  S
theorem kb_Model_next_0 {p : Program} {l : Launch} {e : Env} {s : State} {m : MethodId} {args : Array Value} {below : List Frame} {meth : Method} {c : Code} {g : dk_G} {A : Nat → Prop} {Q : State → Prop} {am : Nat → Nat} {n : Nat} {res : dk_S} (X : dk_X p s m args meth c b_Model_next 5 R_Model (none) g A) (hR : dk_Rv p l e rm_Model_next s m args below meth c g A Q 5 b_Model_next (none) (wM g am) res)  : ∀ (q : Nat)   (S : dk_S), B_Model_next_0 n  q  S = some res → dk_J p l e rm_Model_next s m args below meth c g A Q 5 0 0 0 [(0, .ref (am 0))] [] (wM g am S) := by
  intro q
  induction q with
  | zero => intro   S hF; cases hF
  | succ q ih => intro   S hF; exact kb_Model_next_0b (n := n) X hR ih  hF
def F_Model_next (n : Nat)  (S : dk_S) : Option dk_S := B_Model_next_0 n n  S
theorem c_Model_next (l : Launch) (g : dk_G) (am : Nat → Nat) (n : Nat)   (S : dk_S) : dk_Mv l g y_Model_next b_Model_next 5 rm_Model_next (none) [.ref (am 0)] (wM g am) S (F_Model_next n  S) := dk_enterv (by decide) rfl (Nat.le_of_ble_eq_true rfl) (fun p e s m args below meth c A Q res hF X hR => (kb_Model_next_0 (n := n) X hR n   S hF))
abbrev b_Model_opensOne : ByteArray := prog_11_method_23_code
def y_Model_opensOne : MethodName := ⟨R_Model, "opensOne", "(I)Z"⟩
theorem d_Model_opensOne_0 : decode b_Model_opensOne 0 = .ok (.aload_n 0, 1) := by decide +kernel
theorem d_Model_opensOne_1 : decode b_Model_opensOne 1 = .ok (.getfield 199, 3) := by decide +kernel
theorem d_Model_opensOne_4 : decode b_Model_opensOne 4 = .ok (.iconst 5, 1) := by decide +kernel
theorem d_Model_opensOne_5 : decode b_Model_opensOne 5 = .ok (.if_icmp .ne 5, 3) := by decide +kernel
theorem d_Model_opensOne_8 : decode b_Model_opensOne 8 = .ok (.iconst 0, 1) := by decide +kernel
theorem d_Model_opensOne_9 : decode b_Model_opensOne 9 = .ok (.ireturn, 1) := by decide +kernel
theorem d_Model_opensOne_10 : decode b_Model_opensOne 10 = .ok (.aload_n 0, 1) := by decide +kernel
theorem d_Model_opensOne_11 : decode b_Model_opensOne 11 = .ok (.dup, 1) := by decide +kernel
theorem d_Model_opensOne_12 : decode b_Model_opensOne 12 = .ok (.getfield 199, 3) := by decide +kernel
theorem d_Model_opensOne_15 : decode b_Model_opensOne 15 = .ok (.iconst 1, 1) := by decide +kernel
theorem d_Model_opensOne_16 : decode b_Model_opensOne 16 = .ok (.iadd, 1) := by decide +kernel
theorem d_Model_opensOne_17 : decode b_Model_opensOne 17 = .ok (.putfield 199, 3) := by decide +kernel
theorem d_Model_opensOne_20 : decode b_Model_opensOne 20 = .ok (.aload_n 0, 1) := by decide +kernel
theorem d_Model_opensOne_21 : decode b_Model_opensOne 21 = .ok (.iload_n 1, 1) := by decide +kernel
theorem d_Model_opensOne_22 : decode b_Model_opensOne 22 = .ok (.invokevirtual 206, 3) := by decide +kernel
theorem d_Model_opensOne_25 : decode b_Model_opensOne 25 = .ok (.iconst 1, 1) := by decide +kernel
theorem d_Model_opensOne_26 : decode b_Model_opensOne 26 = .ok (.ireturn, 1) := by decide +kernel
theorem v_Model_opensOne : dk_Yv y_Model_opensOne b_Model_opensOne 2 (some .boolean) 1 := ⟨dk_in (List.mem_of_getElem? (i := 1201) (by decide +kernel)) rfl, dk_in (List.mem_of_getElem? (i := 42) (by decide +kernel)) rfl, dk_in (List.mem_of_getElem? (i := 75) (by decide +kernel)) rfl, dk_in (List.mem_of_getElem? (i := 1202) (by decide +kernel)) rfl, by decide +kernel, by decide +kernel, by decide +kernel⟩
abbrev rm_Model_opensOne : Room := { frames := 1, cells := 0, slots := 0, locals := 21 }
def B_Model_opensOne_0 (n : Nat)  (x1 : Int32) (S : dk_S) : Option (Int32 × dk_S) :=
  if ¬ (S 47 0) = (5 : Int32) then (dk_p S 47 ((S 47 0) + (1 : Int32)) fun S1 => dk_cv (F_Model_holds n x1 S1) fun S2 => dk_b (1 : Int32) (some ((1 : Int32), S2))) else (dk_b (0 : Int32) (some ((0 : Int32), S)))
set_option maxRecDepth 20000 in
theorem kb_Model_opensOne_0 {p : Program} {l : Launch} {e : Env} {s : State} {m : MethodId} {args : Array Value} {below : List Frame} {meth : Method} {c : Code} {g : dk_G} {A : Nat → Prop} {Q : State → Prop} {am : Nat → Nat} {n : Nat} {res : (Int32 × dk_S)} (X : dk_X p s m args meth c b_Model_opensOne 2 R_Model (some .boolean) g A) (hR : dk_Ri p l e rm_Model_opensOne s m args below meth c g A Q 2 b_Model_opensOne (some .boolean) (wM g am) res)  {x1 : Int32} {S : dk_S}  (hF : B_Model_opensOne_0 n  x1 S = some res) : dk_J p l e rm_Model_opensOne s m args below meth c g A Q 2 0 0 0 [(0, .ref (am 0)), (1, .int x1)] [] (wM g am S) := by
  unfold B_Model_opensOne_0 at hF
  refine dk_aload_n (k := 0) (i := 0) X 0 rfl rfl d_Model_opensOne_0 ?_
  refine dk_get X q_Model 0 47 (by decide) (oM_Model g am S) rfl f_Model_199 d_Model_opensOne_1 ?_
  refine dk_iconst (v := 5) X (by decide) d_Model_opensOne_4 ?_
  refine dk_icmp_ne (tgt := 10) X (by decide) d_Model_opensOne_5 hF (fun hF => ?_) (fun hF => ?_)
  · refine dk_aload_n (k := 0) (i := 0) X 0 rfl rfl d_Model_opensOne_10 ?_
    refine dk_dup X rfl d_Model_opensOne_11 ?_
    refine dk_get X q_Model 0 47 (by decide) (oM_Model g am S) rfl f_Model_199 d_Model_opensOne_12 ?_
    refine dk_iconst (v := 1) X (by decide) d_Model_opensOne_15 ?_
    refine dk_iadd X d_Model_opensOne_16 ?_
    refine dk_puti X q_Model 0 47 (by decide) (oM_Model g am S) f_Model_199 rfl rfl (Nat.le_of_ble_eq_true rfl) (sM_Model_opens g am S _) d_Model_opensOne_17 hF (fun S1 hF => ?_)
    refine dk_aload_n (k := 0) (i := 0) X 0 rfl rfl d_Model_opensOne_20 ?_
    refine dk_iload_n (k := 1) (i := 1) X 1 rfl rfl d_Model_opensOne_21 ?_
    refine dk_callVv X v_Model_holds [.int x1] (c_Model_holds l g am n x1 S1) 0 (oM_Model g am S1) rfl rfl m_Model_206 rfl rfl ⟨rfl, rfl, Nat.le_of_ble_eq_true rfl, Nat.le_of_ble_eq_true rfl, Nat.le_refl _, Nat.le_refl _⟩ (Nat.le_of_ble_eq_true rfl) d_Model_opensOne_22 hF (fun S2 hF => ?_)
    refine dk_iconst (v := 1) X (by decide) d_Model_opensOne_25 ?_
    exact dk_retz hR hF d_Model_opensOne_26
  · refine dk_iconst (v := 0) X (by decide) d_Model_opensOne_8 ?_
    exact dk_retz hR hF d_Model_opensOne_9
def F_Model_opensOne (n : Nat) (x1 : Int32) (S : dk_S) : Option (Int32 × dk_S) := B_Model_opensOne_0 n x1 S
theorem c_Model_opensOne (l : Launch) (g : dk_G) (am : Nat → Nat) (n : Nat) (x1 : Int32)  (S : dk_S) : dk_Mi l g y_Model_opensOne b_Model_opensOne 2 rm_Model_opensOne (some .boolean) [.ref (am 0), .int x1] (wM g am) S (F_Model_opensOne n x1 S) := dk_enteri (by decide) (Nat.le_of_ble_eq_true rfl) (fun p e s m args below meth c A Q res hF X hR => (kb_Model_opensOne_0 (n := n) X hR  hF))
abbrev b_Model_signOf : ByteArray := prog_11_method_25_code
def y_Model_signOf : MethodName := ⟨R_Model, "signOf", "()I"⟩
theorem d_Model_signOf_0 : decode b_Model_signOf 0 = .ok (.aload_n 0, 1) := by decide +kernel
theorem d_Model_signOf_1 : decode b_Model_signOf 1 = .ok (.getfield 179, 3) := by decide +kernel
theorem d_Model_signOf_4 : decode b_Model_signOf 4 = .ok (.iconst 4, 1) := by decide +kernel
theorem d_Model_signOf_5 : decode b_Model_signOf 5 = .ok (.if_icmp .ne 8, 3) := by decide +kernel
theorem d_Model_signOf_8 : decode b_Model_signOf 8 = .ok (.bipush 11, 2) := by decide +kernel
theorem d_Model_signOf_10 : decode b_Model_signOf 10 = .ok (.goto 87, 3) := by decide +kernel
theorem d_Model_signOf_13 : decode b_Model_signOf 13 = .ok (.aload_n 0, 1) := by decide +kernel
theorem d_Model_signOf_14 : decode b_Model_signOf 14 = .ok (.getfield 179, 3) := by decide +kernel
theorem d_Model_signOf_17 : decode b_Model_signOf 17 = .ok (.iconst 5, 1) := by decide +kernel
theorem d_Model_signOf_18 : decode b_Model_signOf 18 = .ok (.if_icmp .ne 8, 3) := by decide +kernel
theorem d_Model_signOf_21 : decode b_Model_signOf 21 = .ok (.bipush 12, 2) := by decide +kernel
theorem d_Model_signOf_23 : decode b_Model_signOf 23 = .ok (.goto 74, 3) := by decide +kernel
theorem d_Model_signOf_26 : decode b_Model_signOf 26 = .ok (.aload_n 0, 1) := by decide +kernel
theorem d_Model_signOf_27 : decode b_Model_signOf 27 = .ok (.getfield 179, 3) := by decide +kernel
theorem d_Model_signOf_30 : decode b_Model_signOf 30 = .ok (.bipush 60, 2) := by decide +kernel
theorem d_Model_signOf_32 : decode b_Model_signOf 32 = .ok (.if_icmp .ne 8, 3) := by decide +kernel
theorem d_Model_signOf_35 : decode b_Model_signOf 35 = .ok (.bipush 14, 2) := by decide +kernel
theorem d_Model_signOf_37 : decode b_Model_signOf 37 = .ok (.goto 60, 3) := by decide +kernel
theorem d_Model_signOf_40 : decode b_Model_signOf 40 = .ok (.aload_n 0, 1) := by decide +kernel
theorem d_Model_signOf_41 : decode b_Model_signOf 41 = .ok (.getfield 179, 3) := by decide +kernel
theorem d_Model_signOf_44 : decode b_Model_signOf 44 = .ok (.bipush 61, 2) := by decide +kernel
theorem d_Model_signOf_46 : decode b_Model_signOf 46 = .ok (.if_icmp .ne 8, 3) := by decide +kernel
theorem d_Model_signOf_49 : decode b_Model_signOf 49 = .ok (.bipush 15, 2) := by decide +kernel
theorem d_Model_signOf_51 : decode b_Model_signOf 51 = .ok (.goto 46, 3) := by decide +kernel
theorem d_Model_signOf_54 : decode b_Model_signOf 54 = .ok (.aload_n 0, 1) := by decide +kernel
theorem d_Model_signOf_55 : decode b_Model_signOf 55 = .ok (.getfield 179, 3) := by decide +kernel
theorem d_Model_signOf_58 : decode b_Model_signOf 58 = .ok (.bipush 43, 2) := by decide +kernel
theorem d_Model_signOf_60 : decode b_Model_signOf 60 = .ok (.if_icmp .ne 8, 3) := by decide +kernel
theorem d_Model_signOf_63 : decode b_Model_signOf 63 = .ok (.bipush 16, 2) := by decide +kernel
theorem d_Model_signOf_65 : decode b_Model_signOf 65 = .ok (.goto 32, 3) := by decide +kernel
theorem d_Model_signOf_68 : decode b_Model_signOf 68 = .ok (.aload_n 0, 1) := by decide +kernel
theorem d_Model_signOf_69 : decode b_Model_signOf 69 = .ok (.getfield 179, 3) := by decide +kernel
theorem d_Model_signOf_72 : decode b_Model_signOf 72 = .ok (.bipush 45, 2) := by decide +kernel
theorem d_Model_signOf_74 : decode b_Model_signOf 74 = .ok (.if_icmp .ne 8, 3) := by decide +kernel
theorem d_Model_signOf_77 : decode b_Model_signOf 77 = .ok (.bipush 17, 2) := by decide +kernel
theorem d_Model_signOf_79 : decode b_Model_signOf 79 = .ok (.goto 18, 3) := by decide +kernel
theorem d_Model_signOf_82 : decode b_Model_signOf 82 = .ok (.aload_n 0, 1) := by decide +kernel
theorem d_Model_signOf_83 : decode b_Model_signOf 83 = .ok (.getfield 179, 3) := by decide +kernel
theorem d_Model_signOf_86 : decode b_Model_signOf 86 = .ok (.bipush 42, 2) := by decide +kernel
theorem d_Model_signOf_88 : decode b_Model_signOf 88 = .ok (.if_icmp .ne 8, 3) := by decide +kernel
theorem d_Model_signOf_91 : decode b_Model_signOf 91 = .ok (.bipush 18, 2) := by decide +kernel
theorem d_Model_signOf_93 : decode b_Model_signOf 93 = .ok (.goto 4, 3) := by decide +kernel
theorem d_Model_signOf_96 : decode b_Model_signOf 96 = .ok (.iconst (-1), 1) := by decide +kernel
theorem d_Model_signOf_97 : decode b_Model_signOf 97 = .ok (.ireturn, 1) := by decide +kernel
theorem v_Model_signOf : dk_Yv y_Model_signOf b_Model_signOf 1 (some .int) 0 := ⟨dk_in (List.mem_of_getElem? (i := 1209) (by decide +kernel)) rfl, dk_in (List.mem_of_getElem? (i := 44) (by decide +kernel)) rfl, dk_in (List.mem_of_getElem? (i := 75) (by decide +kernel)) rfl, dk_in (List.mem_of_getElem? (i := 1210) (by decide +kernel)) rfl, by decide +kernel, by decide +kernel, by decide +kernel⟩
abbrev rm_Model_signOf : Room := { frames := 0, cells := 0, slots := 0, locals := 0 }
def B_Model_signOf_0 (n : Nat)   (S : dk_S) : Option (Int32 × dk_S) :=
  if ¬ (S 42 0) = (4 : Int32) then (if ¬ (S 42 0) = (5 : Int32) then (if ¬ (S 42 0) = (60 : Int32) then (if ¬ (S 42 0) = (61 : Int32) then (if ¬ (S 42 0) = (43 : Int32) then (if ¬ (S 42 0) = (45 : Int32) then (if ¬ (S 42 0) = (42 : Int32) then (some ((-1 : Int32), S)) else (some ((18 : Int32), S))) else (some ((17 : Int32), S))) else (some ((16 : Int32), S))) else (some ((15 : Int32), S))) else (some ((14 : Int32), S))) else (some ((12 : Int32), S))) else (some ((11 : Int32), S))
set_option maxRecDepth 20000 in
theorem kb_Model_signOf_0 {p : Program} {l : Launch} {e : Env} {s : State} {m : MethodId} {args : Array Value} {below : List Frame} {meth : Method} {c : Code} {g : dk_G} {A : Nat → Prop} {Q : State → Prop} {am : Nat → Nat} {n : Nat} {res : (Int32 × dk_S)} (X : dk_X p s m args meth c b_Model_signOf 1 R_Model (some .int) g A) (hR : dk_Ri p l e rm_Model_signOf s m args below meth c g A Q 1 b_Model_signOf (some .int) (wM g am) res)   {S : dk_S}  (hF : B_Model_signOf_0 n   S = some res) : dk_J p l e rm_Model_signOf s m args below meth c g A Q 1 0 0 0 [(0, .ref (am 0))] [] (wM g am S) := by
  unfold B_Model_signOf_0 at hF
  refine dk_aload_n (k := 0) (i := 0) X 0 rfl rfl d_Model_signOf_0 ?_
  refine dk_get X q_Model 0 42 (by decide) (oM_Model g am S) rfl f_Model_179 d_Model_signOf_1 ?_
  refine dk_iconst (v := 4) X (by decide) d_Model_signOf_4 ?_
  refine dk_icmp_ne (tgt := 13) X (by decide) d_Model_signOf_5 hF (fun hF => ?_) (fun hF => ?_)
  · refine dk_aload_n (k := 0) (i := 0) X 0 rfl rfl d_Model_signOf_13 ?_
    refine dk_get X q_Model 0 42 (by decide) (oM_Model g am S) rfl f_Model_179 d_Model_signOf_14 ?_
    refine dk_iconst (v := 5) X (by decide) d_Model_signOf_17 ?_
    refine dk_icmp_ne (tgt := 26) X (by decide) d_Model_signOf_18 hF (fun hF => ?_) (fun hF => ?_)
    · refine dk_aload_n (k := 0) (i := 0) X 0 rfl rfl d_Model_signOf_26 ?_
      refine dk_get X q_Model 0 42 (by decide) (oM_Model g am S) rfl f_Model_179 d_Model_signOf_27 ?_
      refine dk_bipush (v := 60) X (by decide) d_Model_signOf_30 ?_
      refine dk_icmp_ne (tgt := 40) X (by decide) d_Model_signOf_32 hF (fun hF => ?_) (fun hF => ?_)
      · refine dk_aload_n (k := 0) (i := 0) X 0 rfl rfl d_Model_signOf_40 ?_
        refine dk_get X q_Model 0 42 (by decide) (oM_Model g am S) rfl f_Model_179 d_Model_signOf_41 ?_
        refine dk_bipush (v := 61) X (by decide) d_Model_signOf_44 ?_
        refine dk_icmp_ne (tgt := 54) X (by decide) d_Model_signOf_46 hF (fun hF => ?_) (fun hF => ?_)
        · refine dk_aload_n (k := 0) (i := 0) X 0 rfl rfl d_Model_signOf_54 ?_
          refine dk_get X q_Model 0 42 (by decide) (oM_Model g am S) rfl f_Model_179 d_Model_signOf_55 ?_
          refine dk_bipush (v := 43) X (by decide) d_Model_signOf_58 ?_
          refine dk_icmp_ne (tgt := 68) X (by decide) d_Model_signOf_60 hF (fun hF => ?_) (fun hF => ?_)
          · refine dk_aload_n (k := 0) (i := 0) X 0 rfl rfl d_Model_signOf_68 ?_
            refine dk_get X q_Model 0 42 (by decide) (oM_Model g am S) rfl f_Model_179 d_Model_signOf_69 ?_
            refine dk_bipush (v := 45) X (by decide) d_Model_signOf_72 ?_
            refine dk_icmp_ne (tgt := 82) X (by decide) d_Model_signOf_74 hF (fun hF => ?_) (fun hF => ?_)
            · refine dk_aload_n (k := 0) (i := 0) X 0 rfl rfl d_Model_signOf_82 ?_
              refine dk_get X q_Model 0 42 (by decide) (oM_Model g am S) rfl f_Model_179 d_Model_signOf_83 ?_
              refine dk_bipush (v := 42) X (by decide) d_Model_signOf_86 ?_
              refine dk_icmp_ne (tgt := 96) X (by decide) d_Model_signOf_88 hF (fun hF => ?_) (fun hF => ?_)
              · refine dk_iconst (v := -1) X (by decide) d_Model_signOf_96 ?_
                exact dk_reti hR hF d_Model_signOf_97
              · refine dk_bipush (v := 18) X (by decide) d_Model_signOf_91 ?_
                refine dk_goto (tgt := 97) X (by decide) d_Model_signOf_93 ?_
                exact dk_reti hR hF d_Model_signOf_97
            · refine dk_bipush (v := 17) X (by decide) d_Model_signOf_77 ?_
              refine dk_goto (tgt := 97) X (by decide) d_Model_signOf_79 ?_
              exact dk_reti hR hF d_Model_signOf_97
          · refine dk_bipush (v := 16) X (by decide) d_Model_signOf_63 ?_
            refine dk_goto (tgt := 97) X (by decide) d_Model_signOf_65 ?_
            exact dk_reti hR hF d_Model_signOf_97
        · refine dk_bipush (v := 15) X (by decide) d_Model_signOf_49 ?_
          refine dk_goto (tgt := 97) X (by decide) d_Model_signOf_51 ?_
          exact dk_reti hR hF d_Model_signOf_97
      · refine dk_bipush (v := 14) X (by decide) d_Model_signOf_35 ?_
        refine dk_goto (tgt := 97) X (by decide) d_Model_signOf_37 ?_
        exact dk_reti hR hF d_Model_signOf_97
    · refine dk_bipush (v := 12) X (by decide) d_Model_signOf_21 ?_
      refine dk_goto (tgt := 97) X (by decide) d_Model_signOf_23 ?_
      exact dk_reti hR hF d_Model_signOf_97
  · refine dk_bipush (v := 11) X (by decide) d_Model_signOf_8 ?_
    refine dk_goto (tgt := 97) X (by decide) d_Model_signOf_10 ?_
    exact dk_reti hR hF d_Model_signOf_97
def F_Model_signOf (n : Nat)  (S : dk_S) : Option (Int32 × dk_S) := B_Model_signOf_0 n  S
theorem c_Model_signOf (l : Launch) (g : dk_G) (am : Nat → Nat) (n : Nat)   (S : dk_S) : dk_Mi l g y_Model_signOf b_Model_signOf 1 rm_Model_signOf (some .int) [.ref (am 0)] (wM g am) S (F_Model_signOf n  S) := dk_enteri (by decide) (Nat.le_of_ble_eq_true rfl) (fun p e s m args below meth c A Q res hF X hR => (kb_Model_signOf_0 (n := n) X hR  hF))
abbrev b_Model_eRead : ByteArray := prog_11_method_26_code
def y_Model_eRead : MethodName := ⟨R_Model, "eRead", "()Z"⟩
theorem d_Model_eRead_0 : decode b_Model_eRead 0 = .ok (.aload_n 0, 1) := by decide +kernel
theorem d_Model_eRead_1 : decode b_Model_eRead 1 = .ok (.iconst 0, 1) := by decide +kernel
theorem d_Model_eRead_2 : decode b_Model_eRead 2 = .ok (.putfield 192, 3) := by decide +kernel
theorem d_Model_eRead_5 : decode b_Model_eRead 5 = .ok (.aload_n 0, 1) := by decide +kernel
theorem d_Model_eRead_6 : decode b_Model_eRead 6 = .ok (.iconst 0, 1) := by decide +kernel
theorem d_Model_eRead_7 : decode b_Model_eRead 7 = .ok (.putfield 199, 3) := by decide +kernel
theorem d_Model_eRead_10 : decode b_Model_eRead 10 = .ok (.iconst 1, 1) := by decide +kernel
theorem d_Model_eRead_11 : decode b_Model_eRead 11 = .ok (.istore_n 1, 1) := by decide +kernel
theorem d_Model_eRead_12 : decode b_Model_eRead 12 = .ok (.iconst 1, 1) := by decide +kernel
theorem d_Model_eRead_13 : decode b_Model_eRead 13 = .ok (.istore_n 2, 1) := by decide +kernel
theorem d_Model_eRead_14 : decode b_Model_eRead 14 = .ok (.aload_n 0, 1) := by decide +kernel
theorem d_Model_eRead_15 : decode b_Model_eRead 15 = .ok (.invokevirtual 212, 3) := by decide +kernel
theorem d_Model_eRead_18 : decode b_Model_eRead 18 = .ok (.iload_n 1, 1) := by decide +kernel
theorem d_Model_eRead_19 : decode b_Model_eRead 19 = .ok (.ifCond .eq 131, 3) := by decide +kernel
theorem d_Model_eRead_22 : decode b_Model_eRead 22 = .ok (.aload_n 0, 1) := by decide +kernel
theorem d_Model_eRead_23 : decode b_Model_eRead 23 = .ok (.getfield 179, 3) := by decide +kernel
theorem d_Model_eRead_26 : decode b_Model_eRead 26 = .ok (.iconst 1, 1) := by decide +kernel
theorem d_Model_eRead_27 : decode b_Model_eRead 27 = .ok (.if_icmp .eq 11, 3) := by decide +kernel
theorem d_Model_eRead_30 : decode b_Model_eRead 30 = .ok (.aload_n 0, 1) := by decide +kernel
theorem d_Model_eRead_31 : decode b_Model_eRead 31 = .ok (.getfield 179, 3) := by decide +kernel
theorem d_Model_eRead_34 : decode b_Model_eRead 34 = .ok (.iconst 2, 1) := by decide +kernel
theorem d_Model_eRead_35 : decode b_Model_eRead 35 = .ok (.if_icmp .ne 40, 3) := by decide +kernel
theorem d_Model_eRead_38 : decode b_Model_eRead 38 = .ok (.aload_n 0, 1) := by decide +kernel
theorem d_Model_eRead_39 : decode b_Model_eRead 39 = .ok (.aload_n 0, 1) := by decide +kernel
theorem d_Model_eRead_40 : decode b_Model_eRead 40 = .ok (.getfield 179, 3) := by decide +kernel
theorem d_Model_eRead_43 : decode b_Model_eRead 43 = .ok (.iconst 1, 1) := by decide +kernel
theorem d_Model_eRead_44 : decode b_Model_eRead 44 = .ok (.if_icmp .ne 13, 3) := by decide +kernel
theorem d_Model_eRead_47 : decode b_Model_eRead 47 = .ok (.ldc 215, 2) := by decide +kernel
theorem d_Model_eRead_49 : decode b_Model_eRead 49 = .ok (.aload_n 0, 1) := by decide +kernel
theorem d_Model_eRead_50 : decode b_Model_eRead 50 = .ok (.getfield 182, 3) := by decide +kernel
theorem d_Model_eRead_53 : decode b_Model_eRead 53 = .ok (.iadd, 1) := by decide +kernel
theorem d_Model_eRead_54 : decode b_Model_eRead 54 = .ok (.goto 7, 3) := by decide +kernel
theorem d_Model_eRead_57 : decode b_Model_eRead 57 = .ok (.aload_n 0, 1) := by decide +kernel
theorem d_Model_eRead_58 : decode b_Model_eRead 58 = .ok (.getfield 182, 3) := by decide +kernel
theorem d_Model_eRead_61 : decode b_Model_eRead 61 = .ok (.invokevirtual 202, 3) := by decide +kernel
theorem d_Model_eRead_64 : decode b_Model_eRead 64 = .ok (.aload_n 0, 1) := by decide +kernel
theorem d_Model_eRead_65 : decode b_Model_eRead 65 = .ok (.bipush 7, 2) := by decide +kernel
theorem d_Model_eRead_67 : decode b_Model_eRead 67 = .ok (.invokevirtual 209, 3) := by decide +kernel
theorem d_Model_eRead_70 : decode b_Model_eRead 70 = .ok (.iconst 0, 1) := by decide +kernel
theorem d_Model_eRead_71 : decode b_Model_eRead 71 = .ok (.istore_n 1, 1) := by decide +kernel
theorem d_Model_eRead_72 : decode b_Model_eRead 72 = .ok (.goto (-58), 3) := by decide +kernel
theorem d_Model_eRead_75 : decode b_Model_eRead 75 = .ok (.aload_n 0, 1) := by decide +kernel
theorem d_Model_eRead_76 : decode b_Model_eRead 76 = .ok (.getfield 179, 3) := by decide +kernel
theorem d_Model_eRead_79 : decode b_Model_eRead 79 = .ok (.bipush 6, 2) := by decide +kernel
theorem d_Model_eRead_81 : decode b_Model_eRead 81 = .ok (.if_icmp .ne 18, 3) := by decide +kernel
theorem d_Model_eRead_84 : decode b_Model_eRead 84 = .ok (.iload_n 2, 1) := by decide +kernel
theorem d_Model_eRead_85 : decode b_Model_eRead 85 = .ok (.ifCond .eq 14, 3) := by decide +kernel
theorem d_Model_eRead_88 : decode b_Model_eRead 88 = .ok (.aload_n 0, 1) := by decide +kernel
theorem d_Model_eRead_89 : decode b_Model_eRead 89 = .ok (.bipush 13, 2) := by decide +kernel
theorem d_Model_eRead_91 : decode b_Model_eRead 91 = .ok (.invokevirtual 216, 3) := by decide +kernel
theorem d_Model_eRead_94 : decode b_Model_eRead 94 = .ok (.ifCond .ne (-80), 3) := by decide +kernel
theorem d_Model_eRead_97 : decode b_Model_eRead 97 = .ok (.iconst 0, 1) := by decide +kernel
theorem d_Model_eRead_98 : decode b_Model_eRead 98 = .ok (.ireturn, 1) := by decide +kernel
theorem d_Model_eRead_99 : decode b_Model_eRead 99 = .ok (.aload_n 0, 1) := by decide +kernel
theorem d_Model_eRead_100 : decode b_Model_eRead 100 = .ok (.getfield 179, 3) := by decide +kernel
theorem d_Model_eRead_103 : decode b_Model_eRead 103 = .ok (.bipush 45, 2) := by decide +kernel
theorem d_Model_eRead_105 : decode b_Model_eRead 105 = .ok (.if_icmp .ne 19, 3) := by decide +kernel
theorem d_Model_eRead_108 : decode b_Model_eRead 108 = .ok (.aload_n 0, 1) := by decide +kernel
theorem d_Model_eRead_109 : decode b_Model_eRead 109 = .ok (.bipush 19, 2) := by decide +kernel
theorem d_Model_eRead_111 : decode b_Model_eRead 111 = .ok (.invokevirtual 216, 3) := by decide +kernel
theorem d_Model_eRead_114 : decode b_Model_eRead 114 = .ok (.ifCond .ne 5, 3) := by decide +kernel
theorem d_Model_eRead_117 : decode b_Model_eRead 117 = .ok (.iconst 0, 1) := by decide +kernel
theorem d_Model_eRead_118 : decode b_Model_eRead 118 = .ok (.ireturn, 1) := by decide +kernel
theorem d_Model_eRead_119 : decode b_Model_eRead 119 = .ok (.iconst 0, 1) := by decide +kernel
theorem d_Model_eRead_120 : decode b_Model_eRead 120 = .ok (.istore_n 2, 1) := by decide +kernel
theorem d_Model_eRead_121 : decode b_Model_eRead 121 = .ok (.goto (-107), 3) := by decide +kernel
theorem d_Model_eRead_124 : decode b_Model_eRead 124 = .ok (.aload_n 0, 1) := by decide +kernel
theorem d_Model_eRead_125 : decode b_Model_eRead 125 = .ok (.getfield 179, 3) := by decide +kernel
theorem d_Model_eRead_128 : decode b_Model_eRead 128 = .ok (.bipush 40, 2) := by decide +kernel
theorem d_Model_eRead_130 : decode b_Model_eRead 130 = .ok (.if_icmp .ne 18, 3) := by decide +kernel
theorem d_Model_eRead_133 : decode b_Model_eRead 133 = .ok (.aload_n 0, 1) := by decide +kernel
theorem d_Model_eRead_134 : decode b_Model_eRead 134 = .ok (.iconst 0, 1) := by decide +kernel
theorem d_Model_eRead_135 : decode b_Model_eRead 135 = .ok (.invokevirtual 216, 3) := by decide +kernel
theorem d_Model_eRead_138 : decode b_Model_eRead 138 = .ok (.ifCond .ne 5, 3) := by decide +kernel
theorem d_Model_eRead_141 : decode b_Model_eRead 141 = .ok (.iconst 0, 1) := by decide +kernel
theorem d_Model_eRead_142 : decode b_Model_eRead 142 = .ok (.ireturn, 1) := by decide +kernel
theorem d_Model_eRead_143 : decode b_Model_eRead 143 = .ok (.iconst 1, 1) := by decide +kernel
theorem d_Model_eRead_144 : decode b_Model_eRead 144 = .ok (.istore_n 2, 1) := by decide +kernel
theorem d_Model_eRead_145 : decode b_Model_eRead 145 = .ok (.goto (-131), 3) := by decide +kernel
theorem d_Model_eRead_148 : decode b_Model_eRead 148 = .ok (.iconst 0, 1) := by decide +kernel
theorem d_Model_eRead_149 : decode b_Model_eRead 149 = .ok (.ireturn, 1) := by decide +kernel
theorem d_Model_eRead_150 : decode b_Model_eRead 150 = .ok (.aload_n 0, 1) := by decide +kernel
theorem d_Model_eRead_151 : decode b_Model_eRead 151 = .ok (.getfield 179, 3) := by decide +kernel
theorem d_Model_eRead_154 : decode b_Model_eRead 154 = .ok (.bipush 59, 2) := by decide +kernel
theorem d_Model_eRead_156 : decode b_Model_eRead 156 = .ok (.if_icmp .ne 21, 3) := by decide +kernel
theorem d_Model_eRead_159 : decode b_Model_eRead 159 = .ok (.aload_n 0, 1) := by decide +kernel
theorem d_Model_eRead_160 : decode b_Model_eRead 160 = .ok (.iconst 1, 1) := by decide +kernel
theorem d_Model_eRead_161 : decode b_Model_eRead 161 = .ok (.invokevirtual 209, 3) := by decide +kernel
theorem d_Model_eRead_164 : decode b_Model_eRead 164 = .ok (.aload_n 0, 1) := by decide +kernel
theorem d_Model_eRead_165 : decode b_Model_eRead 165 = .ok (.getfield 192, 3) := by decide +kernel
theorem d_Model_eRead_168 : decode b_Model_eRead 168 = .ok (.ifCond .ne 7, 3) := by decide +kernel
theorem d_Model_eRead_171 : decode b_Model_eRead 171 = .ok (.iconst 1, 1) := by decide +kernel
theorem d_Model_eRead_172 : decode b_Model_eRead 172 = .ok (.goto 4, 3) := by decide +kernel
theorem d_Model_eRead_175 : decode b_Model_eRead 175 = .ok (.iconst 0, 1) := by decide +kernel
theorem d_Model_eRead_176 : decode b_Model_eRead 176 = .ok (.ireturn, 1) := by decide +kernel
theorem d_Model_eRead_177 : decode b_Model_eRead 177 = .ok (.aload_n 0, 1) := by decide +kernel
theorem d_Model_eRead_178 : decode b_Model_eRead 178 = .ok (.getfield 179, 3) := by decide +kernel
theorem d_Model_eRead_181 : decode b_Model_eRead 181 = .ok (.bipush 41, 2) := by decide +kernel
theorem d_Model_eRead_183 : decode b_Model_eRead 183 = .ok (.if_icmp .ne 46, 3) := by decide +kernel
theorem d_Model_eRead_186 : decode b_Model_eRead 186 = .ok (.aload_n 0, 1) := by decide +kernel
theorem d_Model_eRead_187 : decode b_Model_eRead 187 = .ok (.iconst 1, 1) := by decide +kernel
theorem d_Model_eRead_188 : decode b_Model_eRead 188 = .ok (.invokevirtual 209, 3) := by decide +kernel
theorem d_Model_eRead_191 : decode b_Model_eRead 191 = .ok (.aload_n 0, 1) := by decide +kernel
theorem d_Model_eRead_192 : decode b_Model_eRead 192 = .ok (.getfield 192, 3) := by decide +kernel
theorem d_Model_eRead_195 : decode b_Model_eRead 195 = .ok (.ifCond .ne 5, 3) := by decide +kernel
theorem d_Model_eRead_198 : decode b_Model_eRead 198 = .ok (.iconst 0, 1) := by decide +kernel
theorem d_Model_eRead_199 : decode b_Model_eRead 199 = .ok (.ireturn, 1) := by decide +kernel
theorem d_Model_eRead_200 : decode b_Model_eRead 200 = .ok (.aload_n 0, 1) := by decide +kernel
theorem d_Model_eRead_201 : decode b_Model_eRead 201 = .ok (.dup, 1) := by decide +kernel
theorem d_Model_eRead_202 : decode b_Model_eRead 202 = .ok (.getfield 192, 3) := by decide +kernel
theorem d_Model_eRead_205 : decode b_Model_eRead 205 = .ok (.iconst 1, 1) := by decide +kernel
theorem d_Model_eRead_206 : decode b_Model_eRead 206 = .ok (.isub, 1) := by decide +kernel
theorem d_Model_eRead_207 : decode b_Model_eRead 207 = .ok (.putfield 192, 3) := by decide +kernel
theorem d_Model_eRead_210 : decode b_Model_eRead 210 = .ok (.aload_n 0, 1) := by decide +kernel
theorem d_Model_eRead_211 : decode b_Model_eRead 211 = .ok (.dup, 1) := by decide +kernel
theorem d_Model_eRead_212 : decode b_Model_eRead 212 = .ok (.getfield 199, 3) := by decide +kernel
theorem d_Model_eRead_215 : decode b_Model_eRead 215 = .ok (.iconst 1, 1) := by decide +kernel
theorem d_Model_eRead_216 : decode b_Model_eRead 216 = .ok (.isub, 1) := by decide +kernel
theorem d_Model_eRead_217 : decode b_Model_eRead 217 = .ok (.putfield 199, 3) := by decide +kernel
theorem d_Model_eRead_220 : decode b_Model_eRead 220 = .ok (.aload_n 0, 1) := by decide +kernel
theorem d_Model_eRead_221 : decode b_Model_eRead 221 = .ok (.bipush 7, 2) := by decide +kernel
theorem d_Model_eRead_223 : decode b_Model_eRead 223 = .ok (.invokevirtual 209, 3) := by decide +kernel
theorem d_Model_eRead_226 : decode b_Model_eRead 226 = .ok (.goto (-212), 3) := by decide +kernel
theorem d_Model_eRead_229 : decode b_Model_eRead 229 = .ok (.aload_n 0, 1) := by decide +kernel
theorem d_Model_eRead_230 : decode b_Model_eRead 230 = .ok (.invokevirtual 219, 3) := by decide +kernel
theorem d_Model_eRead_233 : decode b_Model_eRead 233 = .ok (.istore_n 3, 1) := by decide +kernel
theorem d_Model_eRead_234 : decode b_Model_eRead 234 = .ok (.iload_n 3, 1) := by decide +kernel
theorem d_Model_eRead_235 : decode b_Model_eRead 235 = .ok (.iconst (-1), 1) := by decide +kernel
theorem d_Model_eRead_236 : decode b_Model_eRead 236 = .ok (.if_icmp .eq 11, 3) := by decide +kernel
theorem d_Model_eRead_239 : decode b_Model_eRead 239 = .ok (.aload_n 0, 1) := by decide +kernel
theorem d_Model_eRead_240 : decode b_Model_eRead 240 = .ok (.iload_n 3, 1) := by decide +kernel
theorem d_Model_eRead_241 : decode b_Model_eRead 241 = .ok (.invokevirtual 222, 3) := by decide +kernel
theorem d_Model_eRead_244 : decode b_Model_eRead 244 = .ok (.ifCond .ne 5, 3) := by decide +kernel
theorem d_Model_eRead_247 : decode b_Model_eRead 247 = .ok (.iconst 0, 1) := by decide +kernel
theorem d_Model_eRead_248 : decode b_Model_eRead 248 = .ok (.ireturn, 1) := by decide +kernel
theorem d_Model_eRead_249 : decode b_Model_eRead 249 = .ok (.iconst 1, 1) := by decide +kernel
theorem d_Model_eRead_250 : decode b_Model_eRead 250 = .ok (.istore_n 1, 1) := by decide +kernel
theorem d_Model_eRead_251 : decode b_Model_eRead 251 = .ok (.iload_n 3, 1) := by decide +kernel
theorem d_Model_eRead_252 : decode b_Model_eRead 252 = .ok (.bipush 12, 2) := by decide +kernel
theorem d_Model_eRead_254 : decode b_Model_eRead 254 = .ok (.if_icmp .gt 7, 3) := by decide +kernel
theorem d_Model_eRead_257 : decode b_Model_eRead 257 = .ok (.iconst 1, 1) := by decide +kernel
theorem d_Model_eRead_258 : decode b_Model_eRead 258 = .ok (.goto 4, 3) := by decide +kernel
theorem d_Model_eRead_261 : decode b_Model_eRead 261 = .ok (.iconst 0, 1) := by decide +kernel
theorem d_Model_eRead_262 : decode b_Model_eRead 262 = .ok (.istore_n 2, 1) := by decide +kernel
theorem d_Model_eRead_263 : decode b_Model_eRead 263 = .ok (.goto (-249), 3) := by decide +kernel
theorem v_Model_eRead : dk_Yv y_Model_eRead b_Model_eRead 4 (some .boolean) 0 := ⟨dk_in (List.mem_of_getElem? (i := 1185) (by decide +kernel)) rfl, dk_in (List.mem_of_getElem? (i := 39) (by decide +kernel)) rfl, dk_in (List.mem_of_getElem? (i := 75) (by decide +kernel)) rfl, dk_in (List.mem_of_getElem? (i := 1186) (by decide +kernel)) rfl, by decide +kernel, by decide +kernel, by decide +kernel⟩
abbrev rm_Model_eRead : Room := { frames := 3, cells := 0, slots := 0, locals := 69 }
theorem k_Model_215 : Cond.constant R_Model 215 (100000) ∈ dk_tb := dk_in (List.mem_of_getElem? (i := 1187) (by decide +kernel)) rfl
theorem m_Model_212 : Cond.methodLink R_Model 212 y_Model_next ∈ dk_tb := dk_in (List.mem_of_getElem? (i := 1175) (by decide +kernel)) rfl
theorem m_Model_216 : Cond.methodLink R_Model 216 y_Model_opensOne ∈ dk_tb := dk_in (List.mem_of_getElem? (i := 1199) (by decide +kernel)) rfl
theorem m_Model_219 : Cond.methodLink R_Model 219 y_Model_signOf ∈ dk_tb := dk_in (List.mem_of_getElem? (i := 1207) (by decide +kernel)) rfl
theorem m_Model_222 : Cond.methodLink R_Model 222 y_Model_between ∈ dk_tb := dk_in (List.mem_of_getElem? (i := 1211) (by decide +kernel)) rfl
def B_Model_eRead_61 (n : Nat) (k14 : Int32 → Int32 → dk_S → Option (Int32 × dk_S)) (x2 : Int32) (u1 : Int32) (S : dk_S) : Option (Int32 × dk_S) :=
  dk_cv (F_Model_puts n u1 S) fun S1 => dk_cv (F_Model_unwinds n (7 : Int32) S1) fun S3 => k14 (0 : Int32) x2 S3
set_option maxRecDepth 20000 in
theorem kb_Model_eRead_61 {p : Program} {l : Launch} {e : Env} {s : State} {m : MethodId} {args : Array Value} {below : List Frame} {meth : Method} {c : Code} {g : dk_G} {A : Nat → Prop} {Q : State → Prop} {am : Nat → Nat} {n : Nat} {res : (Int32 × dk_S)} (X : dk_X p s m args meth c b_Model_eRead 4 R_Model (some .boolean) g A) (hR : dk_Ri p l e rm_Model_eRead s m args below meth c g A Q 4 b_Model_eRead (some .boolean) (wM g am) res) {k14 : Int32 → Int32 → dk_S → Option (Int32 × dk_S)} (hk14 : ∀ (x1 : Int32) (x2 : Int32)  (S : dk_S), k14 x1 x2 S = some res → dk_J p l e rm_Model_eRead s m args below meth c g A Q 4 0 0 14 [(0, .ref (am 0)), (1, .int x1), (2, .int x2)] [] (wM g am S)) {x2 : Int32} {u1 : Int32} {S : dk_S}  (hF : B_Model_eRead_61 n k14 x2 u1 S = some res) : dk_J p l e rm_Model_eRead s m args below meth c g A Q 4 0 0 61 [(0, .ref (am 0)), (2, .int x2)] [.int u1, .ref (am 0)] (wM g am S) := by
  unfold B_Model_eRead_61 at hF
  refine dk_callVv X v_Model_puts [.int u1] (c_Model_puts l g am n u1 S) 0 (oM_Model g am S) rfl rfl m_Model_202 rfl rfl ⟨rfl, rfl, Nat.le_of_ble_eq_true rfl, Nat.le_of_ble_eq_true rfl, Nat.le_refl _, Nat.le_refl _⟩ (Nat.le_of_ble_eq_true rfl) d_Model_eRead_61 hF (fun S1 hF => ?_)
  refine dk_aload_n (k := 0) (i := 0) X 0 rfl rfl d_Model_eRead_64 ?_
  refine dk_bipush (v := 7) X (by decide) d_Model_eRead_65 ?_
  refine dk_callVv X v_Model_unwinds [.int (7 : Int32)] (c_Model_unwinds l g am n (7 : Int32) S1) 0 (oM_Model g am S1) rfl rfl m_Model_209 rfl rfl ⟨rfl, rfl, Nat.le_of_ble_eq_true rfl, Nat.le_of_ble_eq_true rfl, Nat.le_refl _, Nat.le_refl _⟩ (Nat.le_of_ble_eq_true rfl) d_Model_eRead_67 hF (fun S3 hF => ?_)
  refine dk_iconst (v := 0) X (by decide) d_Model_eRead_70 ?_
  refine dk_istore_n (k := 1) (i := 1) (lv' := [(1, .int (0 : Int32)), (0, .ref (am 0)), (2, .int x2)]) X rfl (by decide) rfl d_Model_eRead_71 ?_
  refine dk_goto (tgt := 14) X (by decide) d_Model_eRead_72 ?_
  exact dk_sub [1, 0, 2] rfl (hk14 (0 : Int32) x2 S3 hF)
def B_Model_eRead_38 (n : Nat) (k14 : Int32 → Int32 → dk_S → Option (Int32 × dk_S)) (x2 : Int32) (S : dk_S) : Option (Int32 × dk_S) :=
  if ¬ (S 42 0) = (1 : Int32) then (B_Model_eRead_61 n k14 x2 (S 43 0) S) else (B_Model_eRead_61 n k14 x2 ((100000 : Int32) + (S 43 0)) S)
set_option maxRecDepth 20000 in
theorem kb_Model_eRead_38 {p : Program} {l : Launch} {e : Env} {s : State} {m : MethodId} {args : Array Value} {below : List Frame} {meth : Method} {c : Code} {g : dk_G} {A : Nat → Prop} {Q : State → Prop} {am : Nat → Nat} {n : Nat} {res : (Int32 × dk_S)} (X : dk_X p s m args meth c b_Model_eRead 4 R_Model (some .boolean) g A) (hR : dk_Ri p l e rm_Model_eRead s m args below meth c g A Q 4 b_Model_eRead (some .boolean) (wM g am) res) {k14 : Int32 → Int32 → dk_S → Option (Int32 × dk_S)} (hk14 : ∀ (x1 : Int32) (x2 : Int32)  (S : dk_S), k14 x1 x2 S = some res → dk_J p l e rm_Model_eRead s m args below meth c g A Q 4 0 0 14 [(0, .ref (am 0)), (1, .int x1), (2, .int x2)] [] (wM g am S)) {x2 : Int32} {S : dk_S}  (hF : B_Model_eRead_38 n k14 x2 S = some res) : dk_J p l e rm_Model_eRead s m args below meth c g A Q 4 0 0 38 [(0, .ref (am 0)), (2, .int x2)] [] (wM g am S) := by
  unfold B_Model_eRead_38 at hF
  refine dk_aload_n (k := 0) (i := 0) X 0 rfl rfl d_Model_eRead_38 ?_
  refine dk_aload_n (k := 0) (i := 0) X 0 rfl rfl d_Model_eRead_39 ?_
  refine dk_get X q_Model 0 42 (by decide) (oM_Model g am S) rfl f_Model_179 d_Model_eRead_40 ?_
  refine dk_iconst (v := 1) X (by decide) d_Model_eRead_43 ?_
  refine dk_icmp_ne (tgt := 57) X (by decide) d_Model_eRead_44 hF (fun hF => ?_) (fun hF => ?_)
  · refine dk_aload_n (k := 0) (i := 0) X 0 rfl rfl d_Model_eRead_57 ?_
    refine dk_get X q_Model 0 43 (by decide) (oM_Model g am S) rfl f_Model_182 d_Model_eRead_58 ?_
    exact (kb_Model_eRead_61 (n := n) X hR hk14  hF)
  · refine dk_ldc (v := 100000) X k_Model_215 d_Model_eRead_47 ?_
    refine dk_aload_n (k := 0) (i := 0) X 0 rfl rfl d_Model_eRead_49 ?_
    refine dk_get X q_Model 0 43 (by decide) (oM_Model g am S) rfl f_Model_182 d_Model_eRead_50 ?_
    refine dk_iadd X d_Model_eRead_53 ?_
    refine dk_goto (tgt := 61) X (by decide) d_Model_eRead_54 ?_
    exact (kb_Model_eRead_61 (n := n) X hR hk14  hF)
def B_Model_eRead_99 (n : Nat) (k14 : Int32 → Int32 → dk_S → Option (Int32 × dk_S)) (x1 : Int32) (S : dk_S) : Option (Int32 × dk_S) :=
  if ¬ (S 42 0) = (45 : Int32) then (if ¬ (S 42 0) = (40 : Int32) then (dk_b (0 : Int32) (some ((0 : Int32), S))) else (dk_c (F_Model_opensOne n (0 : Int32) S) fun r6 S5 => if ¬ r6 = 0 then (k14 x1 (1 : Int32) S5) else (dk_b (0 : Int32) (some ((0 : Int32), S5))))) else (dk_c (F_Model_opensOne n (19 : Int32) S) fun r8 S7 => if ¬ r8 = 0 then (k14 x1 (0 : Int32) S7) else (dk_b (0 : Int32) (some ((0 : Int32), S7))))
set_option maxRecDepth 20000 in
theorem kb_Model_eRead_99 {p : Program} {l : Launch} {e : Env} {s : State} {m : MethodId} {args : Array Value} {below : List Frame} {meth : Method} {c : Code} {g : dk_G} {A : Nat → Prop} {Q : State → Prop} {am : Nat → Nat} {n : Nat} {res : (Int32 × dk_S)} (X : dk_X p s m args meth c b_Model_eRead 4 R_Model (some .boolean) g A) (hR : dk_Ri p l e rm_Model_eRead s m args below meth c g A Q 4 b_Model_eRead (some .boolean) (wM g am) res) {k14 : Int32 → Int32 → dk_S → Option (Int32 × dk_S)} (hk14 : ∀ (x1 : Int32) (x2 : Int32)  (S : dk_S), k14 x1 x2 S = some res → dk_J p l e rm_Model_eRead s m args below meth c g A Q 4 0 0 14 [(0, .ref (am 0)), (1, .int x1), (2, .int x2)] [] (wM g am S)) {x1 : Int32} {S : dk_S}  (hF : B_Model_eRead_99 n k14 x1 S = some res) : dk_J p l e rm_Model_eRead s m args below meth c g A Q 4 0 0 99 [(0, .ref (am 0)), (1, .int x1)] [] (wM g am S) := by
  unfold B_Model_eRead_99 at hF
  refine dk_aload_n (k := 0) (i := 0) X 0 rfl rfl d_Model_eRead_99 ?_
  refine dk_get X q_Model 0 42 (by decide) (oM_Model g am S) rfl f_Model_179 d_Model_eRead_100 ?_
  refine dk_bipush (v := 45) X (by decide) d_Model_eRead_103 ?_
  refine dk_icmp_ne (tgt := 124) X (by decide) d_Model_eRead_105 hF (fun hF => ?_) (fun hF => ?_)
  · refine dk_aload_n (k := 0) (i := 0) X 0 rfl rfl d_Model_eRead_124 ?_
    refine dk_get X q_Model 0 42 (by decide) (oM_Model g am S) rfl f_Model_179 d_Model_eRead_125 ?_
    refine dk_bipush (v := 40) X (by decide) d_Model_eRead_128 ?_
    refine dk_icmp_ne (tgt := 148) X (by decide) d_Model_eRead_130 hF (fun hF => ?_) (fun hF => ?_)
    · refine dk_iconst (v := 0) X (by decide) d_Model_eRead_148 ?_
      exact dk_retz hR hF d_Model_eRead_149
    · refine dk_aload_n (k := 0) (i := 0) X 0 rfl rfl d_Model_eRead_133 ?_
      refine dk_iconst (v := 0) X (by decide) d_Model_eRead_134 ?_
      refine dk_callVi X v_Model_opensOne [.int (0 : Int32)] (c_Model_opensOne l g am n (0 : Int32) S) 0 (oM_Model g am S) rfl rfl m_Model_216 rfl rfl ⟨rfl, rfl, Nat.le_of_ble_eq_true rfl, Nat.le_of_ble_eq_true rfl, Nat.le_refl _, Nat.le_refl _⟩ (Nat.le_of_ble_eq_true rfl) d_Model_eRead_135 hF (fun r6 S5 hF => ?_)
      refine dk_if_ne (tgt := 143) X (by decide) d_Model_eRead_138 hF (fun hF => ?_) (fun hF => ?_)
      · refine dk_iconst (v := 1) X (by decide) d_Model_eRead_143 ?_
        refine dk_istore_n (k := 2) (i := 2) (lv' := [(2, .int (1 : Int32)), (0, .ref (am 0)), (1, .int x1)]) X rfl (by decide) rfl d_Model_eRead_144 ?_
        refine dk_goto (tgt := 14) X (by decide) d_Model_eRead_145 ?_
        exact dk_sub [1, 2, 0] rfl (hk14 x1 (1 : Int32) S5 hF)
      · refine dk_iconst (v := 0) X (by decide) d_Model_eRead_141 ?_
        exact dk_retz hR hF d_Model_eRead_142
  · refine dk_aload_n (k := 0) (i := 0) X 0 rfl rfl d_Model_eRead_108 ?_
    refine dk_bipush (v := 19) X (by decide) d_Model_eRead_109 ?_
    refine dk_callVi X v_Model_opensOne [.int (19 : Int32)] (c_Model_opensOne l g am n (19 : Int32) S) 0 (oM_Model g am S) rfl rfl m_Model_216 rfl rfl ⟨rfl, rfl, Nat.le_of_ble_eq_true rfl, Nat.le_of_ble_eq_true rfl, Nat.le_refl _, Nat.le_refl _⟩ (Nat.le_of_ble_eq_true rfl) d_Model_eRead_111 hF (fun r8 S7 hF => ?_)
    refine dk_if_ne (tgt := 119) X (by decide) d_Model_eRead_114 hF (fun hF => ?_) (fun hF => ?_)
    · refine dk_iconst (v := 0) X (by decide) d_Model_eRead_119 ?_
      refine dk_istore_n (k := 2) (i := 2) (lv' := [(2, .int (0 : Int32)), (0, .ref (am 0)), (1, .int x1)]) X rfl (by decide) rfl d_Model_eRead_120 ?_
      refine dk_goto (tgt := 14) X (by decide) d_Model_eRead_121 ?_
      exact dk_sub [1, 2, 0] rfl (hk14 x1 (0 : Int32) S7 hF)
    · refine dk_iconst (v := 0) X (by decide) d_Model_eRead_117 ?_
      exact dk_retz hR hF d_Model_eRead_118
def B_Model_eRead_262 (n : Nat) (k14 : Int32 → Int32 → dk_S → Option (Int32 × dk_S)) (x1 : Int32) (u0 : Int32) (S : dk_S) : Option (Int32 × dk_S) :=
  k14 x1 u0 S
set_option maxRecDepth 20000 in
theorem kb_Model_eRead_262 {p : Program} {l : Launch} {e : Env} {s : State} {m : MethodId} {args : Array Value} {below : List Frame} {meth : Method} {c : Code} {g : dk_G} {A : Nat → Prop} {Q : State → Prop} {am : Nat → Nat} {n : Nat} {res : (Int32 × dk_S)} (X : dk_X p s m args meth c b_Model_eRead 4 R_Model (some .boolean) g A) (hR : dk_Ri p l e rm_Model_eRead s m args below meth c g A Q 4 b_Model_eRead (some .boolean) (wM g am) res) {k14 : Int32 → Int32 → dk_S → Option (Int32 × dk_S)} (hk14 : ∀ (x1 : Int32) (x2 : Int32)  (S : dk_S), k14 x1 x2 S = some res → dk_J p l e rm_Model_eRead s m args below meth c g A Q 4 0 0 14 [(0, .ref (am 0)), (1, .int x1), (2, .int x2)] [] (wM g am S)) {x1 : Int32} {u0 : Int32} {S : dk_S}  (hF : B_Model_eRead_262 n k14 x1 u0 S = some res) : dk_J p l e rm_Model_eRead s m args below meth c g A Q 4 0 0 262 [(0, .ref (am 0)), (1, .int x1)] [.int u0] (wM g am S) := by
  unfold B_Model_eRead_262 at hF
  refine dk_istore_n (k := 2) (i := 2) (lv' := [(2, .int u0), (0, .ref (am 0)), (1, .int x1)]) X rfl (by decide) rfl d_Model_eRead_262 ?_
  refine dk_goto (tgt := 14) X (by decide) d_Model_eRead_263 ?_
  exact dk_sub [1, 2, 0] rfl (hk14 x1 u0 S hF)
def B_Model_eRead_14b (n : Nat) (k14 : Int32 → Int32 → dk_S → Option (Int32 × dk_S)) (x1 : Int32) (x2 : Int32) (S : dk_S) : Option (Int32 × dk_S) :=
  dk_cv (F_Model_next n S) fun S9 => if x1 = 0 then (if ¬ (S9 42 0) = (59 : Int32) then (if ¬ (S9 42 0) = (41 : Int32) then (dk_c (F_Model_signOf n S9) fun r12 S11 => if r12 = (-1 : Int32) then (dk_b (0 : Int32) (some ((0 : Int32), S11))) else (dk_c (F_Model_between n r12 S11) fun r14 S13 => if ¬ r14 = 0 then (if (12 : Int32) < r12 then (B_Model_eRead_262 n k14 (1 : Int32) (0 : Int32) S13) else (B_Model_eRead_262 n k14 (1 : Int32) (1 : Int32) S13)) else (dk_b (0 : Int32) (some ((0 : Int32), S13))))) else (dk_cv (F_Model_unwinds n (1 : Int32) S9) fun S15 => if ¬ (S15 46 0) = 0 then (dk_p S15 46 ((S15 46 0) - (1 : Int32)) fun S17 => dk_p S17 47 ((S17 47 0) - (1 : Int32)) fun S18 => dk_cv (F_Model_unwinds n (7 : Int32) S18) fun S19 => k14 x1 x2 S19) else (dk_b (0 : Int32) (some ((0 : Int32), S15))))) else (dk_cv (F_Model_unwinds n (1 : Int32) S9) fun S21 => if ¬ (S21 46 0) = 0 then (dk_b (0 : Int32) (some ((0 : Int32), S21))) else (dk_b (1 : Int32) (some ((1 : Int32), S21))))) else (if (S9 42 0) = (1 : Int32) then (B_Model_eRead_38 n k14 x2 S9) else (if ¬ (S9 42 0) = (2 : Int32) then (if ¬ (S9 42 0) = (6 : Int32) then (B_Model_eRead_99 n k14 x1 S9) else (if x2 = 0 then (B_Model_eRead_99 n k14 x1 S9) else (dk_c (F_Model_opensOne n (13 : Int32) S9) fun r24 S23 => if ¬ r24 = 0 then (k14 x1 x2 S23) else (dk_b (0 : Int32) (some ((0 : Int32), S23)))))) else (B_Model_eRead_38 n k14 x2 S9)))
set_option maxRecDepth 20000 in
theorem kb_Model_eRead_14b {p : Program} {l : Launch} {e : Env} {s : State} {m : MethodId} {args : Array Value} {below : List Frame} {meth : Method} {c : Code} {g : dk_G} {A : Nat → Prop} {Q : State → Prop} {am : Nat → Nat} {n : Nat} {res : (Int32 × dk_S)} (X : dk_X p s m args meth c b_Model_eRead 4 R_Model (some .boolean) g A) (hR : dk_Ri p l e rm_Model_eRead s m args below meth c g A Q 4 b_Model_eRead (some .boolean) (wM g am) res) {k14 : Int32 → Int32 → dk_S → Option (Int32 × dk_S)} (hk14 : ∀ (x1 : Int32) (x2 : Int32)  (S : dk_S), k14 x1 x2 S = some res → dk_J p l e rm_Model_eRead s m args below meth c g A Q 4 0 0 14 [(0, .ref (am 0)), (1, .int x1), (2, .int x2)] [] (wM g am S)) {x1 : Int32} {x2 : Int32} {S : dk_S}  (hF : B_Model_eRead_14b n k14 x1 x2 S = some res) : dk_J p l e rm_Model_eRead s m args below meth c g A Q 4 0 0 14 [(0, .ref (am 0)), (1, .int x1), (2, .int x2)] [] (wM g am S) := by
  unfold B_Model_eRead_14b at hF
  refine dk_aload_n (k := 0) (i := 0) X 0 rfl rfl d_Model_eRead_14 ?_
  refine dk_callVv X v_Model_next [] (c_Model_next l g am n S) 0 (oM_Model g am S) rfl rfl m_Model_212 rfl rfl ⟨rfl, rfl, Nat.le_of_ble_eq_true rfl, Nat.le_of_ble_eq_true rfl, Nat.le_refl _, Nat.le_refl _⟩ (Nat.le_of_ble_eq_true rfl) d_Model_eRead_15 hF (fun S9 hF => ?_)
  refine dk_iload_n (k := 1) (i := 1) X 1 rfl rfl d_Model_eRead_18 ?_
  refine dk_if_eq (tgt := 150) X (by decide) d_Model_eRead_19 hF (fun hF => ?_) (fun hF => ?_)
  · refine dk_aload_n (k := 0) (i := 0) X 0 rfl rfl d_Model_eRead_150 ?_
    refine dk_get X q_Model 0 42 (by decide) (oM_Model g am S9) rfl f_Model_179 d_Model_eRead_151 ?_
    refine dk_bipush (v := 59) X (by decide) d_Model_eRead_154 ?_
    refine dk_icmp_ne (tgt := 177) X (by decide) d_Model_eRead_156 hF (fun hF => ?_) (fun hF => ?_)
    · refine dk_aload_n (k := 0) (i := 0) X 0 rfl rfl d_Model_eRead_177 ?_
      refine dk_get X q_Model 0 42 (by decide) (oM_Model g am S9) rfl f_Model_179 d_Model_eRead_178 ?_
      refine dk_bipush (v := 41) X (by decide) d_Model_eRead_181 ?_
      refine dk_icmp_ne (tgt := 229) X (by decide) d_Model_eRead_183 hF (fun hF => ?_) (fun hF => ?_)
      · refine dk_aload_n (k := 0) (i := 0) X 0 rfl rfl d_Model_eRead_229 ?_
        refine dk_callVi X v_Model_signOf [] (c_Model_signOf l g am n S9) 0 (oM_Model g am S9) rfl rfl m_Model_219 rfl rfl ⟨rfl, rfl, Nat.le_of_ble_eq_true rfl, Nat.le_of_ble_eq_true rfl, Nat.le_refl _, Nat.le_refl _⟩ (Nat.le_of_ble_eq_true rfl) d_Model_eRead_230 hF (fun r12 S11 hF => ?_)
        refine dk_istore_n (k := 3) (i := 3) (lv' := [(3, .int r12), (0, .ref (am 0)), (1, .int x1), (2, .int x2)]) X rfl (by decide) rfl d_Model_eRead_233 ?_
        refine dk_iload_n (k := 3) (i := 3) X 0 rfl rfl d_Model_eRead_234 ?_
        refine dk_iconst (v := -1) X (by decide) d_Model_eRead_235 ?_
        refine dk_icmp_eq (tgt := 247) X (by decide) d_Model_eRead_236 hF (fun hF => ?_) (fun hF => ?_)
        · refine dk_iconst (v := 0) X (by decide) d_Model_eRead_247 ?_
          exact dk_retz hR hF d_Model_eRead_248
        · refine dk_aload_n (k := 0) (i := 0) X 1 rfl rfl d_Model_eRead_239 ?_
          refine dk_iload_n (k := 3) (i := 3) X 0 rfl rfl d_Model_eRead_240 ?_
          refine dk_callVi X v_Model_between [.int r12] (c_Model_between l g am n r12 S11) 0 (oM_Model g am S11) rfl rfl m_Model_222 rfl rfl ⟨rfl, rfl, Nat.le_of_ble_eq_true rfl, Nat.le_of_ble_eq_true rfl, Nat.le_refl _, Nat.le_refl _⟩ (Nat.le_of_ble_eq_true rfl) d_Model_eRead_241 hF (fun r14 S13 hF => ?_)
          refine dk_if_ne (tgt := 249) X (by decide) d_Model_eRead_244 hF (fun hF => ?_) (fun hF => ?_)
          · refine dk_iconst (v := 1) X (by decide) d_Model_eRead_249 ?_
            refine dk_istore_n (k := 1) (i := 1) (lv' := [(1, .int (1 : Int32)), (3, .int r12), (0, .ref (am 0)), (2, .int x2)]) X rfl (by decide) rfl d_Model_eRead_250 ?_
            refine dk_iload_n (k := 3) (i := 3) X 1 rfl rfl d_Model_eRead_251 ?_
            refine dk_bipush (v := 12) X (by decide) d_Model_eRead_252 ?_
            refine dk_icmp_gt (tgt := 261) X (by decide) d_Model_eRead_254 hF (fun hF => ?_) (fun hF => ?_)
            · refine dk_iconst (v := 0) X (by decide) d_Model_eRead_261 ?_
              exact dk_sub [2, 0] rfl (kb_Model_eRead_262 (n := n) X hR hk14  hF)
            · refine dk_iconst (v := 1) X (by decide) d_Model_eRead_257 ?_
              refine dk_goto (tgt := 262) X (by decide) d_Model_eRead_258 ?_
              exact dk_sub [2, 0] rfl (kb_Model_eRead_262 (n := n) X hR hk14  hF)
          · refine dk_iconst (v := 0) X (by decide) d_Model_eRead_247 ?_
            exact dk_retz hR hF d_Model_eRead_248
      · refine dk_aload_n (k := 0) (i := 0) X 0 rfl rfl d_Model_eRead_186 ?_
        refine dk_iconst (v := 1) X (by decide) d_Model_eRead_187 ?_
        refine dk_callVv X v_Model_unwinds [.int (1 : Int32)] (c_Model_unwinds l g am n (1 : Int32) S9) 0 (oM_Model g am S9) rfl rfl m_Model_209 rfl rfl ⟨rfl, rfl, Nat.le_of_ble_eq_true rfl, Nat.le_of_ble_eq_true rfl, Nat.le_refl _, Nat.le_refl _⟩ (Nat.le_of_ble_eq_true rfl) d_Model_eRead_188 hF (fun S15 hF => ?_)
        refine dk_aload_n (k := 0) (i := 0) X 0 rfl rfl d_Model_eRead_191 ?_
        refine dk_get X q_Model 0 46 (by decide) (oM_Model g am S15) rfl f_Model_192 d_Model_eRead_192 ?_
        refine dk_if_ne (tgt := 200) X (by decide) d_Model_eRead_195 hF (fun hF => ?_) (fun hF => ?_)
        · refine dk_aload_n (k := 0) (i := 0) X 0 rfl rfl d_Model_eRead_200 ?_
          refine dk_dup X rfl d_Model_eRead_201 ?_
          refine dk_get X q_Model 0 46 (by decide) (oM_Model g am S15) rfl f_Model_192 d_Model_eRead_202 ?_
          refine dk_iconst (v := 1) X (by decide) d_Model_eRead_205 ?_
          refine dk_isub X d_Model_eRead_206 ?_
          refine dk_puti X q_Model 0 46 (by decide) (oM_Model g am S15) f_Model_192 rfl rfl (Nat.le_of_ble_eq_true rfl) (sM_Model_heldMany g am S15 _) d_Model_eRead_207 hF (fun S17 hF => ?_)
          refine dk_aload_n (k := 0) (i := 0) X 0 rfl rfl d_Model_eRead_210 ?_
          refine dk_dup X rfl d_Model_eRead_211 ?_
          refine dk_get X q_Model 0 47 (by decide) (oM_Model g am S17) rfl f_Model_199 d_Model_eRead_212 ?_
          refine dk_iconst (v := 1) X (by decide) d_Model_eRead_215 ?_
          refine dk_isub X d_Model_eRead_216 ?_
          refine dk_puti X q_Model 0 47 (by decide) (oM_Model g am S17) f_Model_199 rfl rfl (Nat.le_of_ble_eq_true rfl) (sM_Model_opens g am S17 _) d_Model_eRead_217 hF (fun S18 hF => ?_)
          refine dk_aload_n (k := 0) (i := 0) X 0 rfl rfl d_Model_eRead_220 ?_
          refine dk_bipush (v := 7) X (by decide) d_Model_eRead_221 ?_
          refine dk_callVv X v_Model_unwinds [.int (7 : Int32)] (c_Model_unwinds l g am n (7 : Int32) S18) 0 (oM_Model g am S18) rfl rfl m_Model_209 rfl rfl ⟨rfl, rfl, Nat.le_of_ble_eq_true rfl, Nat.le_of_ble_eq_true rfl, Nat.le_refl _, Nat.le_refl _⟩ (Nat.le_of_ble_eq_true rfl) d_Model_eRead_223 hF (fun S19 hF => ?_)
          refine dk_goto (tgt := 14) X (by decide) d_Model_eRead_226 ?_
          exact (hk14 x1 x2 S19 hF)
        · refine dk_iconst (v := 0) X (by decide) d_Model_eRead_198 ?_
          exact dk_retz hR hF d_Model_eRead_199
    · refine dk_aload_n (k := 0) (i := 0) X 0 rfl rfl d_Model_eRead_159 ?_
      refine dk_iconst (v := 1) X (by decide) d_Model_eRead_160 ?_
      refine dk_callVv X v_Model_unwinds [.int (1 : Int32)] (c_Model_unwinds l g am n (1 : Int32) S9) 0 (oM_Model g am S9) rfl rfl m_Model_209 rfl rfl ⟨rfl, rfl, Nat.le_of_ble_eq_true rfl, Nat.le_of_ble_eq_true rfl, Nat.le_refl _, Nat.le_refl _⟩ (Nat.le_of_ble_eq_true rfl) d_Model_eRead_161 hF (fun S21 hF => ?_)
      refine dk_aload_n (k := 0) (i := 0) X 0 rfl rfl d_Model_eRead_164 ?_
      refine dk_get X q_Model 0 46 (by decide) (oM_Model g am S21) rfl f_Model_192 d_Model_eRead_165 ?_
      refine dk_if_ne (tgt := 175) X (by decide) d_Model_eRead_168 hF (fun hF => ?_) (fun hF => ?_)
      · refine dk_iconst (v := 0) X (by decide) d_Model_eRead_175 ?_
        exact dk_retz hR hF d_Model_eRead_176
      · refine dk_iconst (v := 1) X (by decide) d_Model_eRead_171 ?_
        refine dk_goto (tgt := 176) X (by decide) d_Model_eRead_172 ?_
        exact dk_retz hR hF d_Model_eRead_176
  · refine dk_aload_n (k := 0) (i := 0) X 0 rfl rfl d_Model_eRead_22 ?_
    refine dk_get X q_Model 0 42 (by decide) (oM_Model g am S9) rfl f_Model_179 d_Model_eRead_23 ?_
    refine dk_iconst (v := 1) X (by decide) d_Model_eRead_26 ?_
    refine dk_icmp_eq (tgt := 38) X (by decide) d_Model_eRead_27 hF (fun hF => ?_) (fun hF => ?_)
    · exact dk_sub [0, 2] rfl (kb_Model_eRead_38 (n := n) X hR hk14  hF)
    · refine dk_aload_n (k := 0) (i := 0) X 0 rfl rfl d_Model_eRead_30 ?_
      refine dk_get X q_Model 0 42 (by decide) (oM_Model g am S9) rfl f_Model_179 d_Model_eRead_31 ?_
      refine dk_iconst (v := 2) X (by decide) d_Model_eRead_34 ?_
      refine dk_icmp_ne (tgt := 75) X (by decide) d_Model_eRead_35 hF (fun hF => ?_) (fun hF => ?_)
      · refine dk_aload_n (k := 0) (i := 0) X 0 rfl rfl d_Model_eRead_75 ?_
        refine dk_get X q_Model 0 42 (by decide) (oM_Model g am S9) rfl f_Model_179 d_Model_eRead_76 ?_
        refine dk_bipush (v := 6) X (by decide) d_Model_eRead_79 ?_
        refine dk_icmp_ne (tgt := 99) X (by decide) d_Model_eRead_81 hF (fun hF => ?_) (fun hF => ?_)
        · exact dk_sub [0, 1] rfl (kb_Model_eRead_99 (n := n) X hR hk14  hF)
        · refine dk_iload_n (k := 2) (i := 2) X 2 rfl rfl d_Model_eRead_84 ?_
          refine dk_if_eq (tgt := 99) X (by decide) d_Model_eRead_85 hF (fun hF => ?_) (fun hF => ?_)
          · exact dk_sub [0, 1] rfl (kb_Model_eRead_99 (n := n) X hR hk14  hF)
          · refine dk_aload_n (k := 0) (i := 0) X 0 rfl rfl d_Model_eRead_88 ?_
            refine dk_bipush (v := 13) X (by decide) d_Model_eRead_89 ?_
            refine dk_callVi X v_Model_opensOne [.int (13 : Int32)] (c_Model_opensOne l g am n (13 : Int32) S9) 0 (oM_Model g am S9) rfl rfl m_Model_216 rfl rfl ⟨rfl, rfl, Nat.le_of_ble_eq_true rfl, Nat.le_of_ble_eq_true rfl, Nat.le_refl _, Nat.le_refl _⟩ (Nat.le_of_ble_eq_true rfl) d_Model_eRead_91 hF (fun r24 S23 hF => ?_)
            refine dk_if_ne (tgt := 14) X (by decide) d_Model_eRead_94 hF (fun hF => ?_) (fun hF => ?_)
            · exact (hk14 x1 x2 S23 hF)
            · refine dk_iconst (v := 0) X (by decide) d_Model_eRead_97 ?_
              exact dk_retz hR hF d_Model_eRead_98
      · exact dk_sub [0, 2] rfl (kb_Model_eRead_38 (n := n) X hR hk14  hF)
def B_Model_eRead_14 (n : Nat)  : Nat → Int32 → Int32 → dk_S → Option (Int32 × dk_S)
  | 0 => fun _ _ _ => none
  | q + 1 => fun x1 x2 S => B_Model_eRead_14b n (fun x1 x2 S => B_Model_eRead_14 n  q x1 x2 S) x1 x2 S
theorem kb_Model_eRead_14 {p : Program} {l : Launch} {e : Env} {s : State} {m : MethodId} {args : Array Value} {below : List Frame} {meth : Method} {c : Code} {g : dk_G} {A : Nat → Prop} {Q : State → Prop} {am : Nat → Nat} {n : Nat} {res : (Int32 × dk_S)} (X : dk_X p s m args meth c b_Model_eRead 4 R_Model (some .boolean) g A) (hR : dk_Ri p l e rm_Model_eRead s m args below meth c g A Q 4 b_Model_eRead (some .boolean) (wM g am) res)  : ∀ (q : Nat) (x1 : Int32) (x2 : Int32)  (S : dk_S), B_Model_eRead_14 n  q x1 x2 S = some res → dk_J p l e rm_Model_eRead s m args below meth c g A Q 4 0 0 14 [(0, .ref (am 0)), (1, .int x1), (2, .int x2)] [] (wM g am S) := by
  intro q
  induction q with
  | zero => intro x1 x2  S hF; cases hF
  | succ q ih => intro x1 x2  S hF; exact kb_Model_eRead_14b (n := n) X hR ih  hF
def B_Model_eRead_0 (n : Nat)   (S : dk_S) : Option (Int32 × dk_S) :=
  dk_p S 46 (0 : Int32) fun S25 => dk_p S25 47 (0 : Int32) fun S26 => B_Model_eRead_14 n  n (1 : Int32) (1 : Int32) S26
set_option maxRecDepth 20000 in
theorem kb_Model_eRead_0 {p : Program} {l : Launch} {e : Env} {s : State} {m : MethodId} {args : Array Value} {below : List Frame} {meth : Method} {c : Code} {g : dk_G} {A : Nat → Prop} {Q : State → Prop} {am : Nat → Nat} {n : Nat} {res : (Int32 × dk_S)} (X : dk_X p s m args meth c b_Model_eRead 4 R_Model (some .boolean) g A) (hR : dk_Ri p l e rm_Model_eRead s m args below meth c g A Q 4 b_Model_eRead (some .boolean) (wM g am) res)   {S : dk_S}  (hF : B_Model_eRead_0 n   S = some res) : dk_J p l e rm_Model_eRead s m args below meth c g A Q 4 0 0 0 [(0, .ref (am 0))] [] (wM g am S) := by
  unfold B_Model_eRead_0 at hF
  refine dk_aload_n (k := 0) (i := 0) X 0 rfl rfl d_Model_eRead_0 ?_
  refine dk_iconst (v := 0) X (by decide) d_Model_eRead_1 ?_
  refine dk_puti X q_Model 0 46 (by decide) (oM_Model g am S) f_Model_192 rfl rfl (Nat.le_of_ble_eq_true rfl) (sM_Model_heldMany g am S _) d_Model_eRead_2 hF (fun S25 hF => ?_)
  refine dk_aload_n (k := 0) (i := 0) X 0 rfl rfl d_Model_eRead_5 ?_
  refine dk_iconst (v := 0) X (by decide) d_Model_eRead_6 ?_
  refine dk_puti X q_Model 0 47 (by decide) (oM_Model g am S25) f_Model_199 rfl rfl (Nat.le_of_ble_eq_true rfl) (sM_Model_opens g am S25 _) d_Model_eRead_7 hF (fun S26 hF => ?_)
  refine dk_iconst (v := 1) X (by decide) d_Model_eRead_10 ?_
  refine dk_istore_n (k := 1) (i := 1) (lv' := [(1, .int (1 : Int32)), (0, .ref (am 0))]) X rfl (by decide) rfl d_Model_eRead_11 ?_
  refine dk_iconst (v := 1) X (by decide) d_Model_eRead_12 ?_
  refine dk_istore_n (k := 2) (i := 2) (lv' := [(2, .int (1 : Int32)), (1, .int (1 : Int32)), (0, .ref (am 0))]) X rfl (by decide) rfl d_Model_eRead_13 ?_
  exact dk_sub [2, 1, 0] rfl (kb_Model_eRead_14 (n := n) X hR  n (1 : Int32) (1 : Int32) S26 hF)
def F_Model_eRead (n : Nat)  (S : dk_S) : Option (Int32 × dk_S) := B_Model_eRead_0 n  S
theorem c_Model_eRead (l : Launch) (g : dk_G) (am : Nat → Nat) (n : Nat)   (S : dk_S) : dk_Mi l g y_Model_eRead b_Model_eRead 4 rm_Model_eRead (some .boolean) [.ref (am 0)] (wM g am) S (F_Model_eRead n  S) := dk_enteri (by decide) (Nat.le_of_ble_eq_true rfl) (fun p e s m args below meth c A Q res hF X hR => (kb_Model_eRead_0 (n := n) X hR  hF))
abbrev b_Model_text : ByteArray := prog_11_method_27_code
def y_Model_text : MethodName := ⟨R_Model, "text", "()I"⟩
theorem d_Model_text_0 : decode b_Model_text 0 = .ok (.aload_n 0, 1) := by decide +kernel
theorem d_Model_text_1 : decode b_Model_text 1 = .ok (.getfield 46, 3) := by decide +kernel
theorem d_Model_text_4 : decode b_Model_text 4 = .ok (.bipush 6, 2) := by decide +kernel
theorem d_Model_text_6 : decode b_Model_text 6 = .ok (.if_icmp .ne 6, 3) := by decide +kernel
theorem d_Model_text_9 : decode b_Model_text 9 = .ok (.bipush (-4), 2) := by decide +kernel
theorem d_Model_text_11 : decode b_Model_text 11 = .ok (.ireturn, 1) := by decide +kernel
theorem d_Model_text_12 : decode b_Model_text 12 = .ok (.aload_n 0, 1) := by decide +kernel
theorem d_Model_text_13 : decode b_Model_text 13 = .ok (.iconst 0, 1) := by decide +kernel
theorem d_Model_text_14 : decode b_Model_text 14 = .ok (.putfield 173, 3) := by decide +kernel
theorem d_Model_text_17 : decode b_Model_text 17 = .ok (.aload_n 0, 1) := by decide +kernel
theorem d_Model_text_18 : decode b_Model_text 18 = .ok (.iconst 0, 1) := by decide +kernel
theorem d_Model_text_19 : decode b_Model_text 19 = .ok (.putfield 189, 3) := by decide +kernel
theorem d_Model_text_22 : decode b_Model_text 22 = .ok (.iconst 1, 1) := by decide +kernel
theorem d_Model_text_23 : decode b_Model_text 23 = .ok (.istore_n 1, 1) := by decide +kernel
theorem d_Model_text_24 : decode b_Model_text 24 = .ok (.iconst 0, 1) := by decide +kernel
theorem d_Model_text_25 : decode b_Model_text 25 = .ok (.istore_n 2, 1) := by decide +kernel
theorem d_Model_text_26 : decode b_Model_text 26 = .ok (.iload_n 2, 1) := by decide +kernel
theorem d_Model_text_27 : decode b_Model_text 27 = .ok (.iconst 2, 1) := by decide +kernel
theorem d_Model_text_28 : decode b_Model_text 28 = .ok (.if_icmp .ge 73, 3) := by decide +kernel
theorem d_Model_text_31 : decode b_Model_text 31 = .ok (.iload_n 1, 1) := by decide +kernel
theorem d_Model_text_32 : decode b_Model_text 32 = .ok (.ifCond .eq 69, 3) := by decide +kernel
theorem d_Model_text_35 : decode b_Model_text 35 = .ok (.aload_n 0, 1) := by decide +kernel
theorem d_Model_text_36 : decode b_Model_text 36 = .ok (.invokevirtual 212, 3) := by decide +kernel
theorem d_Model_text_39 : decode b_Model_text 39 = .ok (.aload_n 0, 1) := by decide +kernel
theorem d_Model_text_40 : decode b_Model_text 40 = .ok (.getfield 179, 3) := by decide +kernel
theorem d_Model_text_43 : decode b_Model_text 43 = .ok (.iconst 3, 1) := by decide +kernel
theorem d_Model_text_44 : decode b_Model_text 44 = .ok (.if_icmp .ne 15, 3) := by decide +kernel
theorem d_Model_text_47 : decode b_Model_text 47 = .ok (.aload_n 0, 1) := by decide +kernel
theorem d_Model_text_48 : decode b_Model_text 48 = .ok (.getfield 182, 3) := by decide +kernel
theorem d_Model_text_51 : decode b_Model_text 51 = .ok (.iload_n 2, 1) := by decide +kernel
theorem d_Model_text_52 : decode b_Model_text 52 = .ok (.if_icmp .ne 7, 3) := by decide +kernel
theorem d_Model_text_55 : decode b_Model_text 55 = .ok (.iconst 1, 1) := by decide +kernel
theorem d_Model_text_56 : decode b_Model_text 56 = .ok (.goto 4, 3) := by decide +kernel
theorem d_Model_text_59 : decode b_Model_text 59 = .ok (.iconst 0, 1) := by decide +kernel
theorem d_Model_text_60 : decode b_Model_text 60 = .ok (.istore_n 1, 1) := by decide +kernel
theorem d_Model_text_61 : decode b_Model_text 61 = .ok (.aload_n 0, 1) := by decide +kernel
theorem d_Model_text_62 : decode b_Model_text 62 = .ok (.getfield 43, 3) := by decide +kernel
theorem d_Model_text_65 : decode b_Model_text 65 = .ok (.iconst 4, 1) := by decide +kernel
theorem d_Model_text_66 : decode b_Model_text 66 = .ok (.aload_n 0, 1) := by decide +kernel
theorem d_Model_text_67 : decode b_Model_text 67 = .ok (.getfield 46, 3) := by decide +kernel
theorem d_Model_text_70 : decode b_Model_text 70 = .ok (.imul, 1) := by decide +kernel
theorem d_Model_text_71 : decode b_Model_text 71 = .ok (.iload_n 2, 1) := by decide +kernel
theorem d_Model_text_72 : decode b_Model_text 72 = .ok (.iadd, 1) := by decide +kernel
theorem d_Model_text_73 : decode b_Model_text 73 = .ok (.aload_n 0, 1) := by decide +kernel
theorem d_Model_text_74 : decode b_Model_text 74 = .ok (.getfield 189, 3) := by decide +kernel
theorem d_Model_text_77 : decode b_Model_text 77 = .ok (.iastore, 1) := by decide +kernel
theorem d_Model_text_78 : decode b_Model_text 78 = .ok (.iload_n 1, 1) := by decide +kernel
theorem d_Model_text_79 : decode b_Model_text 79 = .ok (.ifCond .eq 14, 3) := by decide +kernel
theorem d_Model_text_82 : decode b_Model_text 82 = .ok (.aload_n 0, 1) := by decide +kernel
theorem d_Model_text_83 : decode b_Model_text 83 = .ok (.invokevirtual 225, 3) := by decide +kernel
theorem d_Model_text_86 : decode b_Model_text 86 = .ok (.ifCond .eq 7, 3) := by decide +kernel
theorem d_Model_text_89 : decode b_Model_text 89 = .ok (.iconst 1, 1) := by decide +kernel
theorem d_Model_text_90 : decode b_Model_text 90 = .ok (.goto 4, 3) := by decide +kernel
theorem d_Model_text_93 : decode b_Model_text 93 = .ok (.iconst 0, 1) := by decide +kernel
theorem d_Model_text_94 : decode b_Model_text 94 = .ok (.istore_n 1, 1) := by decide +kernel
theorem d_Model_text_95 : decode b_Model_text 95 = .ok (.iinc 2 1, 3) := by decide +kernel
theorem d_Model_text_98 : decode b_Model_text 98 = .ok (.goto (-72), 3) := by decide +kernel
theorem d_Model_text_101 : decode b_Model_text 101 = .ok (.iload_n 1, 1) := by decide +kernel
theorem d_Model_text_102 : decode b_Model_text 102 = .ok (.ifCond .eq 20, 3) := by decide +kernel
theorem d_Model_text_105 : decode b_Model_text 105 = .ok (.aload_n 0, 1) := by decide +kernel
theorem d_Model_text_106 : decode b_Model_text 106 = .ok (.invokevirtual 212, 3) := by decide +kernel
theorem d_Model_text_109 : decode b_Model_text 109 = .ok (.aload_n 0, 1) := by decide +kernel
theorem d_Model_text_110 : decode b_Model_text 110 = .ok (.getfield 179, 3) := by decide +kernel
theorem d_Model_text_113 : decode b_Model_text 113 = .ok (.ifCond .ne 7, 3) := by decide +kernel
theorem d_Model_text_116 : decode b_Model_text 116 = .ok (.iconst 1, 1) := by decide +kernel
theorem d_Model_text_117 : decode b_Model_text 117 = .ok (.goto 4, 3) := by decide +kernel
theorem d_Model_text_120 : decode b_Model_text 120 = .ok (.iconst 0, 1) := by decide +kernel
theorem d_Model_text_121 : decode b_Model_text 121 = .ok (.istore_n 1, 1) := by decide +kernel
theorem d_Model_text_122 : decode b_Model_text 122 = .ok (.aload_n 0, 1) := by decide +kernel
theorem d_Model_text_123 : decode b_Model_text 123 = .ok (.getfield 43, 3) := by decide +kernel
theorem d_Model_text_126 : decode b_Model_text 126 = .ok (.iconst 4, 1) := by decide +kernel
theorem d_Model_text_127 : decode b_Model_text 127 = .ok (.aload_n 0, 1) := by decide +kernel
theorem d_Model_text_128 : decode b_Model_text 128 = .ok (.getfield 46, 3) := by decide +kernel
theorem d_Model_text_131 : decode b_Model_text 131 = .ok (.imul, 1) := by decide +kernel
theorem d_Model_text_132 : decode b_Model_text 132 = .ok (.iconst 2, 1) := by decide +kernel
theorem d_Model_text_133 : decode b_Model_text 133 = .ok (.iadd, 1) := by decide +kernel
theorem d_Model_text_134 : decode b_Model_text 134 = .ok (.aload_n 0, 1) := by decide +kernel
theorem d_Model_text_135 : decode b_Model_text 135 = .ok (.getfield 189, 3) := by decide +kernel
theorem d_Model_text_138 : decode b_Model_text 138 = .ok (.iastore, 1) := by decide +kernel
theorem d_Model_text_139 : decode b_Model_text 139 = .ok (.aload_n 0, 1) := by decide +kernel
theorem d_Model_text_140 : decode b_Model_text 140 = .ok (.iconst 0, 1) := by decide +kernel
theorem d_Model_text_141 : decode b_Model_text 141 = .ok (.putfield 168, 3) := by decide +kernel
theorem d_Model_text_144 : decode b_Model_text 144 = .ok (.iload_n 1, 1) := by decide +kernel
theorem d_Model_text_145 : decode b_Model_text 145 = .ok (.ifCond .ne 11, 3) := by decide +kernel
theorem d_Model_text_148 : decode b_Model_text 148 = .ok (.bipush (-100), 2) := by decide +kernel
theorem d_Model_text_150 : decode b_Model_text 150 = .ok (.aload_n 0, 1) := by decide +kernel
theorem d_Model_text_151 : decode b_Model_text 151 = .ok (.getfield 176, 3) := by decide +kernel
theorem d_Model_text_154 : decode b_Model_text 154 = .ok (.isub, 1) := by decide +kernel
theorem d_Model_text_155 : decode b_Model_text 155 = .ok (.ireturn, 1) := by decide +kernel
theorem d_Model_text_156 : decode b_Model_text 156 = .ok (.aload_n 0, 1) := by decide +kernel
theorem d_Model_text_157 : decode b_Model_text 157 = .ok (.dup, 1) := by decide +kernel
theorem d_Model_text_158 : decode b_Model_text 158 = .ok (.getfield 46, 3) := by decide +kernel
theorem d_Model_text_161 : decode b_Model_text 161 = .ok (.iconst 1, 1) := by decide +kernel
theorem d_Model_text_162 : decode b_Model_text 162 = .ok (.iadd, 1) := by decide +kernel
theorem d_Model_text_163 : decode b_Model_text 163 = .ok (.putfield 46, 3) := by decide +kernel
theorem d_Model_text_166 : decode b_Model_text 166 = .ok (.aload_n 0, 1) := by decide +kernel
theorem d_Model_text_167 : decode b_Model_text 167 = .ok (.getfield 46, 3) := by decide +kernel
theorem d_Model_text_170 : decode b_Model_text 170 = .ok (.iconst 1, 1) := by decide +kernel
theorem d_Model_text_171 : decode b_Model_text 171 = .ok (.isub, 1) := by decide +kernel
theorem d_Model_text_172 : decode b_Model_text 172 = .ok (.ireturn, 1) := by decide +kernel
theorem v_Model_text : dk_Yv y_Model_text b_Model_text 3 (some .int) 0 := ⟨dk_in (List.mem_of_getElem? (i := 1172) (by decide +kernel)) rfl, dk_in (List.mem_of_getElem? (i := 1173) (by decide +kernel)) rfl, dk_in (List.mem_of_getElem? (i := 75) (by decide +kernel)) rfl, dk_in (List.mem_of_getElem? (i := 1174) (by decide +kernel)) rfl, by decide +kernel, by decide +kernel, by decide +kernel⟩
abbrev rm_Model_text : Room := { frames := 4, cells := 0, slots := 0, locals := 92 }
theorem f_Model_43 : Cond.fieldLink R_Model 43 (T_Model 15).1 (T_Model 15).2.1 (T_Model 15).2.2.1 ∈ dk_tb := dk_in (List.mem_of_getElem? (i := 979) (by decide +kernel)) rfl
theorem m_Model_225 : Cond.methodLink R_Model 225 y_Model_eRead ∈ dk_tb := dk_in (List.mem_of_getElem? (i := 1183) (by decide +kernel)) rfl
def B_Model_text_94 (n : Nat) (k26 : Int32 → Int32 → dk_S → Option (Int32 × dk_S)) (x2 : Int32) (u0 : Int32) (S : dk_S) : Option (Int32 × dk_S) :=
  k26 u0 (x2 + (1 : Int32)) S
set_option maxRecDepth 20000 in
theorem kb_Model_text_94 {p : Program} {l : Launch} {e : Env} {s : State} {m : MethodId} {args : Array Value} {below : List Frame} {meth : Method} {c : Code} {g : dk_G} {A : Nat → Prop} {Q : State → Prop} {am : Nat → Nat} {n : Nat} {res : (Int32 × dk_S)} (X : dk_X p s m args meth c b_Model_text 3 R_Model (some .int) g A) (hR : dk_Ri p l e rm_Model_text s m args below meth c g A Q 3 b_Model_text (some .int) (wM g am) res) {k26 : Int32 → Int32 → dk_S → Option (Int32 × dk_S)} (hk26 : ∀ (x1 : Int32) (x2 : Int32)  (S : dk_S), k26 x1 x2 S = some res → dk_J p l e rm_Model_text s m args below meth c g A Q 3 0 0 26 [(0, .ref (am 0)), (1, .int x1), (2, .int x2)] [] (wM g am S)) {x2 : Int32} {u0 : Int32} {S : dk_S}  (hF : B_Model_text_94 n k26 x2 u0 S = some res) : dk_J p l e rm_Model_text s m args below meth c g A Q 3 0 0 94 [(0, .ref (am 0)), (2, .int x2)] [.int u0] (wM g am S) := by
  unfold B_Model_text_94 at hF
  refine dk_istore_n (k := 1) (i := 1) (lv' := [(1, .int u0), (0, .ref (am 0)), (2, .int x2)]) X rfl (by decide) rfl d_Model_text_94 ?_
  refine dk_iinc (i := 2) (v := (x2 + (1 : Int32))) (lv' := [(2, .int (x2 + (1 : Int32))), (1, .int u0), (0, .ref (am 0))]) X 2 rfl (dk_ii _ (by decide)) (by decide) rfl d_Model_text_95 ?_
  refine dk_goto (tgt := 26) X (by decide) d_Model_text_98 ?_
  exact dk_sub [2, 1, 0] rfl (hk26 u0 (x2 + (1 : Int32)) S hF)
def B_Model_text_93 (n : Nat) (k26 : Int32 → Int32 → dk_S → Option (Int32 × dk_S)) (x2 : Int32) (S : dk_S) : Option (Int32 × dk_S) :=
  B_Model_text_94 n k26 x2 (0 : Int32) S
set_option maxRecDepth 20000 in
theorem kb_Model_text_93 {p : Program} {l : Launch} {e : Env} {s : State} {m : MethodId} {args : Array Value} {below : List Frame} {meth : Method} {c : Code} {g : dk_G} {A : Nat → Prop} {Q : State → Prop} {am : Nat → Nat} {n : Nat} {res : (Int32 × dk_S)} (X : dk_X p s m args meth c b_Model_text 3 R_Model (some .int) g A) (hR : dk_Ri p l e rm_Model_text s m args below meth c g A Q 3 b_Model_text (some .int) (wM g am) res) {k26 : Int32 → Int32 → dk_S → Option (Int32 × dk_S)} (hk26 : ∀ (x1 : Int32) (x2 : Int32)  (S : dk_S), k26 x1 x2 S = some res → dk_J p l e rm_Model_text s m args below meth c g A Q 3 0 0 26 [(0, .ref (am 0)), (1, .int x1), (2, .int x2)] [] (wM g am S)) {x2 : Int32} {S : dk_S}  (hF : B_Model_text_93 n k26 x2 S = some res) : dk_J p l e rm_Model_text s m args below meth c g A Q 3 0 0 93 [(0, .ref (am 0)), (2, .int x2)] [] (wM g am S) := by
  unfold B_Model_text_93 at hF
  refine dk_iconst (v := 0) X (by decide) d_Model_text_93 ?_
  exact (kb_Model_text_94 (n := n) X hR hk26  hF)
def B_Model_text_60 (n : Nat) (k26 : Int32 → Int32 → dk_S → Option (Int32 × dk_S)) (x2 : Int32) (u0 : Int32) (S : dk_S) : Option (Int32 × dk_S) :=
  dk_w S 15 24 (((4 : Int32) * (S 16 0)) + x2) (S 48 0) fun S1 => if u0 = 0 then (B_Model_text_93 n k26 x2 S1) else (dk_c (F_Model_eRead n S1) fun r3 S2 => if r3 = 0 then (B_Model_text_93 n k26 x2 S2) else (B_Model_text_94 n k26 x2 (1 : Int32) S2))
set_option maxRecDepth 20000 in
theorem kb_Model_text_60 {p : Program} {l : Launch} {e : Env} {s : State} {m : MethodId} {args : Array Value} {below : List Frame} {meth : Method} {c : Code} {g : dk_G} {A : Nat → Prop} {Q : State → Prop} {am : Nat → Nat} {n : Nat} {res : (Int32 × dk_S)} (X : dk_X p s m args meth c b_Model_text 3 R_Model (some .int) g A) (hR : dk_Ri p l e rm_Model_text s m args below meth c g A Q 3 b_Model_text (some .int) (wM g am) res) {k26 : Int32 → Int32 → dk_S → Option (Int32 × dk_S)} (hk26 : ∀ (x1 : Int32) (x2 : Int32)  (S : dk_S), k26 x1 x2 S = some res → dk_J p l e rm_Model_text s m args below meth c g A Q 3 0 0 26 [(0, .ref (am 0)), (1, .int x1), (2, .int x2)] [] (wM g am S)) {x2 : Int32} {u0 : Int32} {S : dk_S}  (hF : B_Model_text_60 n k26 x2 u0 S = some res) : dk_J p l e rm_Model_text s m args below meth c g A Q 3 0 0 60 [(0, .ref (am 0)), (2, .int x2)] [.int u0] (wM g am S) := by
  unfold B_Model_text_60 at hF
  refine dk_istore_n (k := 1) (i := 1) (lv' := [(1, .int u0), (0, .ref (am 0)), (2, .int x2)]) X rfl (by decide) rfl d_Model_text_60 ?_
  refine dk_aload_n (k := 0) (i := 0) X 1 rfl rfl d_Model_text_61 ?_
  refine dk_get X q_Model 0 15 (by decide) (oM_Model g am S) rfl f_Model_43 d_Model_text_62 ?_
  refine dk_iconst (v := 4) X (by decide) d_Model_text_65 ?_
  refine dk_aload_n (k := 0) (i := 0) X 1 rfl rfl d_Model_text_66 ?_
  refine dk_get X q_Model 0 16 (by decide) (oM_Model g am S) rfl f_Model_46 d_Model_text_67 ?_
  refine dk_imul X d_Model_text_70 ?_
  refine dk_iload_n (k := 2) (i := 2) X 2 rfl rfl d_Model_text_71 ?_
  refine dk_iadd X d_Model_text_72 ?_
  refine dk_aload_n (k := 0) (i := 0) X 1 rfl rfl d_Model_text_73 ?_
  refine dk_get X q_Model 0 48 (by decide) (oM_Model g am S) rfl f_Model_189 d_Model_text_74 ?_
  refine dk_iast X 12 (aM_12 g am S) (sM_12 g am S _ _) d_Model_text_77 hF (fun S1 hF => ?_)
  refine dk_iload_n (k := 1) (i := 1) X 0 rfl rfl d_Model_text_78 ?_
  refine dk_if_eq (tgt := 93) X (by decide) d_Model_text_79 hF (fun hF => ?_) (fun hF => ?_)
  · exact dk_sub [1, 2] rfl (kb_Model_text_93 (n := n) X hR hk26  hF)
  · refine dk_aload_n (k := 0) (i := 0) X 1 rfl rfl d_Model_text_82 ?_
    refine dk_callVi X v_Model_eRead [] (c_Model_eRead l g am n S1) 0 (oM_Model g am S1) rfl rfl m_Model_225 rfl rfl ⟨rfl, rfl, Nat.le_of_ble_eq_true rfl, Nat.le_of_ble_eq_true rfl, Nat.le_refl _, Nat.le_refl _⟩ (Nat.le_of_ble_eq_true rfl) d_Model_text_83 hF (fun r3 S2 hF => ?_)
    refine dk_if_eq (tgt := 93) X (by decide) d_Model_text_86 hF (fun hF => ?_) (fun hF => ?_)
    · exact dk_sub [1, 2] rfl (kb_Model_text_93 (n := n) X hR hk26  hF)
    · refine dk_iconst (v := 1) X (by decide) d_Model_text_89 ?_
      refine dk_goto (tgt := 94) X (by decide) d_Model_text_90 ?_
      exact dk_sub [1, 2] rfl (kb_Model_text_94 (n := n) X hR hk26  hF)
def B_Model_text_59 (n : Nat) (k26 : Int32 → Int32 → dk_S → Option (Int32 × dk_S)) (x2 : Int32) (S : dk_S) : Option (Int32 × dk_S) :=
  B_Model_text_60 n k26 x2 (0 : Int32) S
set_option maxRecDepth 20000 in
theorem kb_Model_text_59 {p : Program} {l : Launch} {e : Env} {s : State} {m : MethodId} {args : Array Value} {below : List Frame} {meth : Method} {c : Code} {g : dk_G} {A : Nat → Prop} {Q : State → Prop} {am : Nat → Nat} {n : Nat} {res : (Int32 × dk_S)} (X : dk_X p s m args meth c b_Model_text 3 R_Model (some .int) g A) (hR : dk_Ri p l e rm_Model_text s m args below meth c g A Q 3 b_Model_text (some .int) (wM g am) res) {k26 : Int32 → Int32 → dk_S → Option (Int32 × dk_S)} (hk26 : ∀ (x1 : Int32) (x2 : Int32)  (S : dk_S), k26 x1 x2 S = some res → dk_J p l e rm_Model_text s m args below meth c g A Q 3 0 0 26 [(0, .ref (am 0)), (1, .int x1), (2, .int x2)] [] (wM g am S)) {x2 : Int32} {S : dk_S}  (hF : B_Model_text_59 n k26 x2 S = some res) : dk_J p l e rm_Model_text s m args below meth c g A Q 3 0 0 59 [(0, .ref (am 0)), (2, .int x2)] [] (wM g am S) := by
  unfold B_Model_text_59 at hF
  refine dk_iconst (v := 0) X (by decide) d_Model_text_59 ?_
  exact (kb_Model_text_60 (n := n) X hR hk26  hF)
def B_Model_text_122 (n : Nat)  (x1 : Int32) (S : dk_S) : Option (Int32 × dk_S) :=
  dk_w S 15 24 (((4 : Int32) * (S 16 0)) + (2 : Int32)) (S 48 0) fun S4 => dk_p S4 13 (0 : Int32) fun S5 => if ¬ x1 = 0 then (dk_p S5 16 ((S5 16 0) + (1 : Int32)) fun S6 => some (((S6 16 0) - (1 : Int32)), S6)) else (some (((-100 : Int32) - (S5 41 0)), S5))
set_option maxRecDepth 20000 in
theorem kb_Model_text_122 {p : Program} {l : Launch} {e : Env} {s : State} {m : MethodId} {args : Array Value} {below : List Frame} {meth : Method} {c : Code} {g : dk_G} {A : Nat → Prop} {Q : State → Prop} {am : Nat → Nat} {n : Nat} {res : (Int32 × dk_S)} (X : dk_X p s m args meth c b_Model_text 3 R_Model (some .int) g A) (hR : dk_Ri p l e rm_Model_text s m args below meth c g A Q 3 b_Model_text (some .int) (wM g am) res)  {x1 : Int32} {S : dk_S}  (hF : B_Model_text_122 n  x1 S = some res) : dk_J p l e rm_Model_text s m args below meth c g A Q 3 0 0 122 [(0, .ref (am 0)), (1, .int x1)] [] (wM g am S) := by
  unfold B_Model_text_122 at hF
  refine dk_aload_n (k := 0) (i := 0) X 0 rfl rfl d_Model_text_122 ?_
  refine dk_get X q_Model 0 15 (by decide) (oM_Model g am S) rfl f_Model_43 d_Model_text_123 ?_
  refine dk_iconst (v := 4) X (by decide) d_Model_text_126 ?_
  refine dk_aload_n (k := 0) (i := 0) X 0 rfl rfl d_Model_text_127 ?_
  refine dk_get X q_Model 0 16 (by decide) (oM_Model g am S) rfl f_Model_46 d_Model_text_128 ?_
  refine dk_imul X d_Model_text_131 ?_
  refine dk_iconst (v := 2) X (by decide) d_Model_text_132 ?_
  refine dk_iadd X d_Model_text_133 ?_
  refine dk_aload_n (k := 0) (i := 0) X 0 rfl rfl d_Model_text_134 ?_
  refine dk_get X q_Model 0 48 (by decide) (oM_Model g am S) rfl f_Model_189 d_Model_text_135 ?_
  refine dk_iast X 12 (aM_12 g am S) (sM_12 g am S _ _) d_Model_text_138 hF (fun S4 hF => ?_)
  refine dk_aload_n (k := 0) (i := 0) X 0 rfl rfl d_Model_text_139 ?_
  refine dk_iconst (v := 0) X (by decide) d_Model_text_140 ?_
  refine dk_puti X q_Model 0 13 (by decide) (oM_Model g am S4) f_Model_168 rfl rfl (Nat.le_of_ble_eq_true rfl) (sM_Model_taped g am S4 _) d_Model_text_141 hF (fun S5 hF => ?_)
  refine dk_iload_n (k := 1) (i := 1) X 1 rfl rfl d_Model_text_144 ?_
  refine dk_if_ne (tgt := 156) X (by decide) d_Model_text_145 hF (fun hF => ?_) (fun hF => ?_)
  · refine dk_aload_n (k := 0) (i := 0) X 0 rfl rfl d_Model_text_156 ?_
    refine dk_dup X rfl d_Model_text_157 ?_
    refine dk_get X q_Model 0 16 (by decide) (oM_Model g am S5) rfl f_Model_46 d_Model_text_158 ?_
    refine dk_iconst (v := 1) X (by decide) d_Model_text_161 ?_
    refine dk_iadd X d_Model_text_162 ?_
    refine dk_puti X q_Model 0 16 (by decide) (oM_Model g am S5) f_Model_46 rfl rfl (Nat.le_of_ble_eq_true rfl) (sM_Model_texts g am S5 _) d_Model_text_163 hF (fun S6 hF => ?_)
    refine dk_aload_n (k := 0) (i := 0) X 0 rfl rfl d_Model_text_166 ?_
    refine dk_get X q_Model 0 16 (by decide) (oM_Model g am S6) rfl f_Model_46 d_Model_text_167 ?_
    refine dk_iconst (v := 1) X (by decide) d_Model_text_170 ?_
    refine dk_isub X d_Model_text_171 ?_
    exact dk_reti hR hF d_Model_text_172
  · refine dk_bipush (v := -100) X (by decide) d_Model_text_148 ?_
    refine dk_aload_n (k := 0) (i := 0) X 0 rfl rfl d_Model_text_150 ?_
    refine dk_get X q_Model 0 41 (by decide) (oM_Model g am S5) rfl f_Model_176 d_Model_text_151 ?_
    refine dk_isub X d_Model_text_154 ?_
    exact dk_reti hR hF d_Model_text_155
def B_Model_text_121 (n : Nat)  (u0 : Int32) (S : dk_S) : Option (Int32 × dk_S) :=
  B_Model_text_122 n  u0 S
set_option maxRecDepth 20000 in
theorem kb_Model_text_121 {p : Program} {l : Launch} {e : Env} {s : State} {m : MethodId} {args : Array Value} {below : List Frame} {meth : Method} {c : Code} {g : dk_G} {A : Nat → Prop} {Q : State → Prop} {am : Nat → Nat} {n : Nat} {res : (Int32 × dk_S)} (X : dk_X p s m args meth c b_Model_text 3 R_Model (some .int) g A) (hR : dk_Ri p l e rm_Model_text s m args below meth c g A Q 3 b_Model_text (some .int) (wM g am) res)  {u0 : Int32} {S : dk_S}  (hF : B_Model_text_121 n  u0 S = some res) : dk_J p l e rm_Model_text s m args below meth c g A Q 3 0 0 121 [(0, .ref (am 0))] [.int u0] (wM g am S) := by
  unfold B_Model_text_121 at hF
  refine dk_istore_n (k := 1) (i := 1) (lv' := [(1, .int u0), (0, .ref (am 0))]) X rfl (by decide) rfl d_Model_text_121 ?_
  exact dk_sub [1, 0] rfl (kb_Model_text_122 (n := n) X hR   hF)
def B_Model_text_101 (n : Nat)  (x1 : Int32) (S : dk_S) : Option (Int32 × dk_S) :=
  if x1 = 0 then (B_Model_text_122 n  x1 S) else (dk_cv (F_Model_next n S) fun S7 => if ¬ (S7 42 0) = 0 then (B_Model_text_121 n  (0 : Int32) S7) else (B_Model_text_121 n  (1 : Int32) S7))
set_option maxRecDepth 20000 in
theorem kb_Model_text_101 {p : Program} {l : Launch} {e : Env} {s : State} {m : MethodId} {args : Array Value} {below : List Frame} {meth : Method} {c : Code} {g : dk_G} {A : Nat → Prop} {Q : State → Prop} {am : Nat → Nat} {n : Nat} {res : (Int32 × dk_S)} (X : dk_X p s m args meth c b_Model_text 3 R_Model (some .int) g A) (hR : dk_Ri p l e rm_Model_text s m args below meth c g A Q 3 b_Model_text (some .int) (wM g am) res)  {x1 : Int32} {S : dk_S}  (hF : B_Model_text_101 n  x1 S = some res) : dk_J p l e rm_Model_text s m args below meth c g A Q 3 0 0 101 [(0, .ref (am 0)), (1, .int x1)] [] (wM g am S) := by
  unfold B_Model_text_101 at hF
  refine dk_iload_n (k := 1) (i := 1) X 1 rfl rfl d_Model_text_101 ?_
  refine dk_if_eq (tgt := 122) X (by decide) d_Model_text_102 hF (fun hF => ?_) (fun hF => ?_)
  · exact (kb_Model_text_122 (n := n) X hR   hF)
  · refine dk_aload_n (k := 0) (i := 0) X 0 rfl rfl d_Model_text_105 ?_
    refine dk_callVv X v_Model_next [] (c_Model_next l g am n S) 0 (oM_Model g am S) rfl rfl m_Model_212 rfl rfl ⟨rfl, rfl, Nat.le_of_ble_eq_true rfl, Nat.le_of_ble_eq_true rfl, Nat.le_refl _, Nat.le_refl _⟩ (Nat.le_of_ble_eq_true rfl) d_Model_text_106 hF (fun S7 hF => ?_)
    refine dk_aload_n (k := 0) (i := 0) X 0 rfl rfl d_Model_text_109 ?_
    refine dk_get X q_Model 0 42 (by decide) (oM_Model g am S7) rfl f_Model_179 d_Model_text_110 ?_
    refine dk_if_ne (tgt := 120) X (by decide) d_Model_text_113 hF (fun hF => ?_) (fun hF => ?_)
    · refine dk_iconst (v := 0) X (by decide) d_Model_text_120 ?_
      exact dk_sub [0] rfl (kb_Model_text_121 (n := n) X hR   hF)
    · refine dk_iconst (v := 1) X (by decide) d_Model_text_116 ?_
      refine dk_goto (tgt := 121) X (by decide) d_Model_text_117 ?_
      exact dk_sub [0] rfl (kb_Model_text_121 (n := n) X hR   hF)
def B_Model_text_26b (n : Nat) (k26 : Int32 → Int32 → dk_S → Option (Int32 × dk_S)) (x1 : Int32) (x2 : Int32) (S : dk_S) : Option (Int32 × dk_S) :=
  if (2 : Int32) ≤ x2 then (B_Model_text_101 n  x1 S) else (if x1 = 0 then (B_Model_text_101 n  x1 S) else (dk_cv (F_Model_next n S) fun S9 => if ¬ (S9 42 0) = (3 : Int32) then (B_Model_text_59 n k26 x2 S9) else (if ¬ (S9 43 0) = x2 then (B_Model_text_59 n k26 x2 S9) else (B_Model_text_60 n k26 x2 (1 : Int32) S9))))
set_option maxRecDepth 20000 in
theorem kb_Model_text_26b {p : Program} {l : Launch} {e : Env} {s : State} {m : MethodId} {args : Array Value} {below : List Frame} {meth : Method} {c : Code} {g : dk_G} {A : Nat → Prop} {Q : State → Prop} {am : Nat → Nat} {n : Nat} {res : (Int32 × dk_S)} (X : dk_X p s m args meth c b_Model_text 3 R_Model (some .int) g A) (hR : dk_Ri p l e rm_Model_text s m args below meth c g A Q 3 b_Model_text (some .int) (wM g am) res) {k26 : Int32 → Int32 → dk_S → Option (Int32 × dk_S)} (hk26 : ∀ (x1 : Int32) (x2 : Int32)  (S : dk_S), k26 x1 x2 S = some res → dk_J p l e rm_Model_text s m args below meth c g A Q 3 0 0 26 [(0, .ref (am 0)), (1, .int x1), (2, .int x2)] [] (wM g am S)) {x1 : Int32} {x2 : Int32} {S : dk_S}  (hF : B_Model_text_26b n k26 x1 x2 S = some res) : dk_J p l e rm_Model_text s m args below meth c g A Q 3 0 0 26 [(0, .ref (am 0)), (1, .int x1), (2, .int x2)] [] (wM g am S) := by
  unfold B_Model_text_26b at hF
  refine dk_iload_n (k := 2) (i := 2) X 2 rfl rfl d_Model_text_26 ?_
  refine dk_iconst (v := 2) X (by decide) d_Model_text_27 ?_
  refine dk_icmp_ge (tgt := 101) X (by decide) d_Model_text_28 hF (fun hF => ?_) (fun hF => ?_)
  · exact dk_sub [0, 1] rfl (kb_Model_text_101 (n := n) X hR   hF)
  · refine dk_iload_n (k := 1) (i := 1) X 1 rfl rfl d_Model_text_31 ?_
    refine dk_if_eq (tgt := 101) X (by decide) d_Model_text_32 hF (fun hF => ?_) (fun hF => ?_)
    · exact dk_sub [0, 1] rfl (kb_Model_text_101 (n := n) X hR   hF)
    · refine dk_aload_n (k := 0) (i := 0) X 0 rfl rfl d_Model_text_35 ?_
      refine dk_callVv X v_Model_next [] (c_Model_next l g am n S) 0 (oM_Model g am S) rfl rfl m_Model_212 rfl rfl ⟨rfl, rfl, Nat.le_of_ble_eq_true rfl, Nat.le_of_ble_eq_true rfl, Nat.le_refl _, Nat.le_refl _⟩ (Nat.le_of_ble_eq_true rfl) d_Model_text_36 hF (fun S9 hF => ?_)
      refine dk_aload_n (k := 0) (i := 0) X 0 rfl rfl d_Model_text_39 ?_
      refine dk_get X q_Model 0 42 (by decide) (oM_Model g am S9) rfl f_Model_179 d_Model_text_40 ?_
      refine dk_iconst (v := 3) X (by decide) d_Model_text_43 ?_
      refine dk_icmp_ne (tgt := 59) X (by decide) d_Model_text_44 hF (fun hF => ?_) (fun hF => ?_)
      · exact dk_sub [0, 2] rfl (kb_Model_text_59 (n := n) X hR hk26  hF)
      · refine dk_aload_n (k := 0) (i := 0) X 0 rfl rfl d_Model_text_47 ?_
        refine dk_get X q_Model 0 43 (by decide) (oM_Model g am S9) rfl f_Model_182 d_Model_text_48 ?_
        refine dk_iload_n (k := 2) (i := 2) X 2 rfl rfl d_Model_text_51 ?_
        refine dk_icmp_ne (tgt := 59) X (by decide) d_Model_text_52 hF (fun hF => ?_) (fun hF => ?_)
        · exact dk_sub [0, 2] rfl (kb_Model_text_59 (n := n) X hR hk26  hF)
        · refine dk_iconst (v := 1) X (by decide) d_Model_text_55 ?_
          refine dk_goto (tgt := 60) X (by decide) d_Model_text_56 ?_
          exact dk_sub [0, 2] rfl (kb_Model_text_60 (n := n) X hR hk26  hF)
def B_Model_text_26 (n : Nat)  : Nat → Int32 → Int32 → dk_S → Option (Int32 × dk_S)
  | 0 => fun _ _ _ => none
  | q + 1 => fun x1 x2 S => B_Model_text_26b n (fun x1 x2 S => B_Model_text_26 n  q x1 x2 S) x1 x2 S
theorem kb_Model_text_26 {p : Program} {l : Launch} {e : Env} {s : State} {m : MethodId} {args : Array Value} {below : List Frame} {meth : Method} {c : Code} {g : dk_G} {A : Nat → Prop} {Q : State → Prop} {am : Nat → Nat} {n : Nat} {res : (Int32 × dk_S)} (X : dk_X p s m args meth c b_Model_text 3 R_Model (some .int) g A) (hR : dk_Ri p l e rm_Model_text s m args below meth c g A Q 3 b_Model_text (some .int) (wM g am) res)  : ∀ (q : Nat) (x1 : Int32) (x2 : Int32)  (S : dk_S), B_Model_text_26 n  q x1 x2 S = some res → dk_J p l e rm_Model_text s m args below meth c g A Q 3 0 0 26 [(0, .ref (am 0)), (1, .int x1), (2, .int x2)] [] (wM g am S) := by
  intro q
  induction q with
  | zero => intro x1 x2  S hF; cases hF
  | succ q ih => intro x1 x2  S hF; exact kb_Model_text_26b (n := n) X hR ih  hF
def B_Model_text_0 (n : Nat)   (S : dk_S) : Option (Int32 × dk_S) :=
  if ¬ (S 16 0) = (6 : Int32) then (dk_p S 40 (0 : Int32) fun S11 => dk_p S11 48 (0 : Int32) fun S12 => B_Model_text_26 n  n (1 : Int32) (0 : Int32) S12) else (some ((-4 : Int32), S))
set_option maxRecDepth 20000 in
theorem kb_Model_text_0 {p : Program} {l : Launch} {e : Env} {s : State} {m : MethodId} {args : Array Value} {below : List Frame} {meth : Method} {c : Code} {g : dk_G} {A : Nat → Prop} {Q : State → Prop} {am : Nat → Nat} {n : Nat} {res : (Int32 × dk_S)} (X : dk_X p s m args meth c b_Model_text 3 R_Model (some .int) g A) (hR : dk_Ri p l e rm_Model_text s m args below meth c g A Q 3 b_Model_text (some .int) (wM g am) res)   {S : dk_S}  (hF : B_Model_text_0 n   S = some res) : dk_J p l e rm_Model_text s m args below meth c g A Q 3 0 0 0 [(0, .ref (am 0))] [] (wM g am S) := by
  unfold B_Model_text_0 at hF
  refine dk_aload_n (k := 0) (i := 0) X 0 rfl rfl d_Model_text_0 ?_
  refine dk_get X q_Model 0 16 (by decide) (oM_Model g am S) rfl f_Model_46 d_Model_text_1 ?_
  refine dk_bipush (v := 6) X (by decide) d_Model_text_4 ?_
  refine dk_icmp_ne (tgt := 12) X (by decide) d_Model_text_6 hF (fun hF => ?_) (fun hF => ?_)
  · refine dk_aload_n (k := 0) (i := 0) X 0 rfl rfl d_Model_text_12 ?_
    refine dk_iconst (v := 0) X (by decide) d_Model_text_13 ?_
    refine dk_puti X q_Model 0 40 (by decide) (oM_Model g am S) f_Model_173 rfl rfl (Nat.le_of_ble_eq_true rfl) (sM_Model_at g am S _) d_Model_text_14 hF (fun S11 hF => ?_)
    refine dk_aload_n (k := 0) (i := 0) X 0 rfl rfl d_Model_text_17 ?_
    refine dk_iconst (v := 0) X (by decide) d_Model_text_18 ?_
    refine dk_puti X q_Model 0 48 (by decide) (oM_Model g am S11) f_Model_189 rfl rfl (Nat.le_of_ble_eq_true rfl) (sM_Model_out g am S11 _) d_Model_text_19 hF (fun S12 hF => ?_)
    refine dk_iconst (v := 1) X (by decide) d_Model_text_22 ?_
    refine dk_istore_n (k := 1) (i := 1) (lv' := [(1, .int (1 : Int32)), (0, .ref (am 0))]) X rfl (by decide) rfl d_Model_text_23 ?_
    refine dk_iconst (v := 0) X (by decide) d_Model_text_24 ?_
    refine dk_istore_n (k := 2) (i := 2) (lv' := [(2, .int (0 : Int32)), (1, .int (1 : Int32)), (0, .ref (am 0))]) X rfl (by decide) rfl d_Model_text_25 ?_
    exact dk_sub [2, 1, 0] rfl (kb_Model_text_26 (n := n) X hR  n (1 : Int32) (0 : Int32) S12 hF)
  · refine dk_bipush (v := -4) X (by decide) d_Model_text_9 ?_
    exact dk_reti hR hF d_Model_text_11
def F_Model_text (n : Nat)  (S : dk_S) : Option (Int32 × dk_S) := B_Model_text_0 n  S
theorem c_Model_text (l : Launch) (g : dk_G) (am : Nat → Nat) (n : Nat)   (S : dk_S) : dk_Mi l g y_Model_text b_Model_text 3 rm_Model_text (some .int) [.ref (am 0)] (wM g am) S (F_Model_text n  S) := dk_enteri (by decide) (Nat.le_of_ble_eq_true rfl) (fun p e s m args below meth c A Q res hF X hR => (kb_Model_text_0 (n := n) X hR  hF))
abbrev b_Model_force : ByteArray := prog_11_method_30_code
def y_Model_force : MethodName := ⟨R_Model, "force", "(I)I"⟩
theorem d_Model_force_0 : decode b_Model_force 0 = .ok (.iload_n 1, 1) := by decide +kernel
theorem d_Model_force_1 : decode b_Model_force 1 = .ok (.iconst 0, 1) := by decide +kernel
theorem d_Model_force_2 : decode b_Model_force 2 = .ok (.aload_n 0, 1) := by decide +kernel
theorem d_Model_force_3 : decode b_Model_force 3 = .ok (.getfield 46, 3) := by decide +kernel
theorem d_Model_force_6 : decode b_Model_force 6 = .ok (.iconst 1, 1) := by decide +kernel
theorem d_Model_force_7 : decode b_Model_force 7 = .ok (.isub, 1) := by decide +kernel
theorem d_Model_force_8 : decode b_Model_force 8 = .ok (.invokestatic 144, 3) := by decide +kernel
theorem d_Model_force_11 : decode b_Model_force 11 = .ok (.ifCond .ne 6, 3) := by decide +kernel
theorem d_Model_force_14 : decode b_Model_force 14 = .ok (.bipush (-2), 2) := by decide +kernel
theorem d_Model_force_16 : decode b_Model_force 16 = .ok (.ireturn, 1) := by decide +kernel
theorem d_Model_force_17 : decode b_Model_force 17 = .ok (.aload_n 0, 1) := by decide +kernel
theorem d_Model_force_18 : decode b_Model_force 18 = .ok (.getfield 229, 3) := by decide +kernel
theorem d_Model_force_21 : decode b_Model_force 21 = .ok (.istore_n 2, 1) := by decide +kernel
theorem d_Model_force_22 : decode b_Model_force 22 = .ok (.aload_n 0, 1) := by decide +kernel
theorem d_Model_force_23 : decode b_Model_force 23 = .ok (.iload_n 1, 1) := by decide +kernel
theorem d_Model_force_24 : decode b_Model_force 24 = .ok (.putfield 229, 3) := by decide +kernel
theorem d_Model_force_27 : decode b_Model_force 27 = .ok (.iload_n 2, 1) := by decide +kernel
theorem d_Model_force_28 : decode b_Model_force 28 = .ok (.ireturn, 1) := by decide +kernel
theorem v_Model_force : dk_Yv y_Model_force b_Model_force 3 (some .int) 1 := ⟨dk_in (List.mem_of_getElem? (i := 1216) (by decide +kernel)) rfl, dk_in (List.mem_of_getElem? (i := 1217) (by decide +kernel)) rfl, dk_in (List.mem_of_getElem? (i := 75) (by decide +kernel)) rfl, dk_in (List.mem_of_getElem? (i := 1218) (by decide +kernel)) rfl, by decide +kernel, by decide +kernel, by decide +kernel⟩
abbrev rm_Model_force : Room := { frames := 1, cells := 0, slots := 0, locals := 22 }
theorem f_Model_229 : Cond.fieldLink R_Model 229 (T_Model 17).1 (T_Model 17).2.1 (T_Model 17).2.2.1 ∈ dk_tb := dk_in (List.mem_of_getElem? (i := 981) (by decide +kernel)) rfl
def B_Model_force_0 (n : Nat)  (x1 : Int32) (S : dk_S) : Option (Int32 × dk_S) :=
  dk_c (F_Model_in n x1 (0 : Int32) ((S 16 0) - (1 : Int32)) S) fun r2 S1 => if ¬ r2 = 0 then (dk_p S1 17 x1 fun S3 => some ((S1 17 0), S3)) else (some ((-2 : Int32), S1))
set_option maxRecDepth 20000 in
theorem kb_Model_force_0 {p : Program} {l : Launch} {e : Env} {s : State} {m : MethodId} {args : Array Value} {below : List Frame} {meth : Method} {c : Code} {g : dk_G} {A : Nat → Prop} {Q : State → Prop} {am : Nat → Nat} {n : Nat} {res : (Int32 × dk_S)} (X : dk_X p s m args meth c b_Model_force 3 R_Model (some .int) g A) (hR : dk_Ri p l e rm_Model_force s m args below meth c g A Q 3 b_Model_force (some .int) (wM g am) res)  {x1 : Int32} {S : dk_S}  (hF : B_Model_force_0 n  x1 S = some res) : dk_J p l e rm_Model_force s m args below meth c g A Q 3 0 0 0 [(0, .ref (am 0)), (1, .int x1)] [] (wM g am S) := by
  unfold B_Model_force_0 at hF
  refine dk_iload_n (k := 1) (i := 1) X 1 rfl rfl d_Model_force_0 ?_
  refine dk_iconst (v := 0) X (by decide) d_Model_force_1 ?_
  refine dk_aload_n (k := 0) (i := 0) X 0 rfl rfl d_Model_force_2 ?_
  refine dk_get X q_Model 0 16 (by decide) (oM_Model g am S) rfl f_Model_46 d_Model_force_3 ?_
  refine dk_iconst (v := 1) X (by decide) d_Model_force_6 ?_
  refine dk_isub X d_Model_force_7 ?_
  refine dk_callSi X v_Model_in [.int x1, .int (0 : Int32), .int ((S 16 0) - (1 : Int32))] (c_Model_in l g am n x1 (0 : Int32) ((S 16 0) - (1 : Int32)) S) m_Model_144 rfl rfl ⟨rfl, rfl, Nat.le_of_ble_eq_true rfl, Nat.le_of_ble_eq_true rfl, Nat.le_refl _, Nat.le_refl _⟩ (Nat.le_of_ble_eq_true rfl) d_Model_force_8 hF (fun r2 S1 hF => ?_)
  refine dk_if_ne (tgt := 17) X (by decide) d_Model_force_11 hF (fun hF => ?_) (fun hF => ?_)
  · refine dk_aload_n (k := 0) (i := 0) X 0 rfl rfl d_Model_force_17 ?_
    refine dk_get X q_Model 0 17 (by decide) (oM_Model g am S1) rfl f_Model_229 d_Model_force_18 ?_
    refine dk_istore_n (k := 2) (i := 2) (lv' := [(2, .int (S1 17 0)), (0, .ref (am 0)), (1, .int x1)]) X rfl (by decide) rfl d_Model_force_21 ?_
    refine dk_aload_n (k := 0) (i := 0) X 1 rfl rfl d_Model_force_22 ?_
    refine dk_iload_n (k := 1) (i := 1) X 2 rfl rfl d_Model_force_23 ?_
    refine dk_puti X q_Model 0 17 (by decide) (oM_Model g am S1) f_Model_229 rfl rfl (Nat.le_of_ble_eq_true rfl) (sM_Model_rule g am S1 _) d_Model_force_24 hF (fun S3 hF => ?_)
    refine dk_iload_n (k := 2) (i := 2) X 0 rfl rfl d_Model_force_27 ?_
    exact dk_reti hR hF d_Model_force_28
  · refine dk_bipush (v := -2) X (by decide) d_Model_force_14 ?_
    exact dk_reti hR hF d_Model_force_16
def F_Model_force (n : Nat) (x1 : Int32) (S : dk_S) : Option (Int32 × dk_S) := B_Model_force_0 n x1 S
theorem c_Model_force (l : Launch) (g : dk_G) (am : Nat → Nat) (n : Nat) (x1 : Int32)  (S : dk_S) : dk_Mi l g y_Model_force b_Model_force 3 rm_Model_force (some .int) [.ref (am 0), .int x1] (wM g am) S (F_Model_force n x1 S) := dk_enteri (by decide) (Nat.le_of_ble_eq_true rfl) (fun p e s m args below meth c A Q res hF X hR => (kb_Model_force_0 (n := n) X hR  hF))
abbrev b_Model_names : ByteArray := prog_11_method_31_code
def y_Model_names : MethodName := ⟨R_Model, "names", "(IIIIII)V"⟩
theorem d_Model_names_0 : decode b_Model_names 0 = .ok (.aload_n 0, 1) := by decide +kernel
theorem d_Model_names_1 : decode b_Model_names 1 = .ok (.getfield 131, 3) := by decide +kernel
theorem d_Model_names_4 : decode b_Model_names 4 = .ok (.iconst 0, 1) := by decide +kernel
theorem d_Model_names_5 : decode b_Model_names 5 = .ok (.iload_n 1, 1) := by decide +kernel
theorem d_Model_names_6 : decode b_Model_names 6 = .ok (.iastore, 1) := by decide +kernel
theorem d_Model_names_7 : decode b_Model_names 7 = .ok (.aload_n 0, 1) := by decide +kernel
theorem d_Model_names_8 : decode b_Model_names 8 = .ok (.getfield 131, 3) := by decide +kernel
theorem d_Model_names_11 : decode b_Model_names 11 = .ok (.iconst 1, 1) := by decide +kernel
theorem d_Model_names_12 : decode b_Model_names 12 = .ok (.iload_n 2, 1) := by decide +kernel
theorem d_Model_names_13 : decode b_Model_names 13 = .ok (.iastore, 1) := by decide +kernel
theorem d_Model_names_14 : decode b_Model_names 14 = .ok (.aload_n 0, 1) := by decide +kernel
theorem d_Model_names_15 : decode b_Model_names 15 = .ok (.getfield 131, 3) := by decide +kernel
theorem d_Model_names_18 : decode b_Model_names 18 = .ok (.iconst 2, 1) := by decide +kernel
theorem d_Model_names_19 : decode b_Model_names 19 = .ok (.iload_n 3, 1) := by decide +kernel
theorem d_Model_names_20 : decode b_Model_names 20 = .ok (.iastore, 1) := by decide +kernel
theorem d_Model_names_21 : decode b_Model_names 21 = .ok (.aload_n 0, 1) := by decide +kernel
theorem d_Model_names_22 : decode b_Model_names 22 = .ok (.getfield 131, 3) := by decide +kernel
theorem d_Model_names_25 : decode b_Model_names 25 = .ok (.iconst 3, 1) := by decide +kernel
theorem d_Model_names_26 : decode b_Model_names 26 = .ok (.iload 4, 2) := by decide +kernel
theorem d_Model_names_28 : decode b_Model_names 28 = .ok (.iastore, 1) := by decide +kernel
theorem d_Model_names_29 : decode b_Model_names 29 = .ok (.aload_n 0, 1) := by decide +kernel
theorem d_Model_names_30 : decode b_Model_names 30 = .ok (.getfield 131, 3) := by decide +kernel
theorem d_Model_names_33 : decode b_Model_names 33 = .ok (.iconst 4, 1) := by decide +kernel
theorem d_Model_names_34 : decode b_Model_names 34 = .ok (.aload_n 0, 1) := by decide +kernel
theorem d_Model_names_35 : decode b_Model_names 35 = .ok (.getfield 16, 3) := by decide +kernel
theorem d_Model_names_38 : decode b_Model_names 38 = .ok (.iload 5, 2) := by decide +kernel
theorem d_Model_names_40 : decode b_Model_names 40 = .ok (.iaload, 1) := by decide +kernel
theorem d_Model_names_41 : decode b_Model_names 41 = .ok (.iconst (-1), 1) := by decide +kernel
theorem d_Model_names_42 : decode b_Model_names 42 = .ok (.if_icmp .ne 7, 3) := by decide +kernel
theorem d_Model_names_45 : decode b_Model_names 45 = .ok (.iconst 0, 1) := by decide +kernel
theorem d_Model_names_46 : decode b_Model_names 46 = .ok (.goto 4, 3) := by decide +kernel
theorem d_Model_names_49 : decode b_Model_names 49 = .ok (.iconst 1, 1) := by decide +kernel
theorem d_Model_names_50 : decode b_Model_names 50 = .ok (.iastore, 1) := by decide +kernel
theorem d_Model_names_51 : decode b_Model_names 51 = .ok (.aload_n 0, 1) := by decide +kernel
theorem d_Model_names_52 : decode b_Model_names 52 = .ok (.getfield 131, 3) := by decide +kernel
theorem d_Model_names_55 : decode b_Model_names 55 = .ok (.iconst 5, 1) := by decide +kernel
theorem d_Model_names_56 : decode b_Model_names 56 = .ok (.iload 6, 2) := by decide +kernel
theorem d_Model_names_58 : decode b_Model_names 58 = .ok (.iastore, 1) := by decide +kernel
theorem d_Model_names_59 : decode b_Model_names 59 = .ok (.return_, 1) := by decide +kernel
theorem v_Model_names : dk_Yv y_Model_names b_Model_names 7 (none) 6 := ⟨dk_in (List.mem_of_getElem? (i := 1229) (by decide +kernel)) rfl, dk_in (List.mem_of_getElem? (i := 47) (by decide +kernel)) rfl, dk_in (List.mem_of_getElem? (i := 75) (by decide +kernel)) rfl, dk_in (List.mem_of_getElem? (i := 1230) (by decide +kernel)) rfl, by decide +kernel, by decide +kernel, by decide +kernel⟩
abbrev rm_Model_names : Room := { frames := 0, cells := 0, slots := 0, locals := 0 }
theorem f_Model_131 : Cond.fieldLink R_Model 131 (T_Model 50).1 (T_Model 50).2.1 (T_Model 50).2.2.1 ∈ dk_tb := dk_in (List.mem_of_getElem? (i := 1014) (by decide +kernel)) rfl
def B_Model_names_50 (n : Nat)  (x6 : Int32) (u1 : Int32) (u2 : Int32) (S : dk_S) : Option dk_S :=
  dk_w S 50 6 u1 u2 fun S1 => dk_w S1 50 6 (5 : Int32) x6 fun S2 => some S2
set_option maxRecDepth 20000 in
theorem kb_Model_names_50 {p : Program} {l : Launch} {e : Env} {s : State} {m : MethodId} {args : Array Value} {below : List Frame} {meth : Method} {c : Code} {g : dk_G} {A : Nat → Prop} {Q : State → Prop} {am : Nat → Nat} {n : Nat} {res : dk_S} (X : dk_X p s m args meth c b_Model_names 7 R_Model (none) g A) (hR : dk_Rv p l e rm_Model_names s m args below meth c g A Q 7 b_Model_names (none) (wM g am) res)  {x6 : Int32} {u1 : Int32} {u2 : Int32} {S : dk_S}  (hF : B_Model_names_50 n  x6 u1 u2 S = some res) : dk_J p l e rm_Model_names s m args below meth c g A Q 7 0 0 50 [(0, .ref (am 0)), (6, .int x6)] [.int u2, .int u1, .ref (am 32)] (wM g am S) := by
  unfold B_Model_names_50 at hF
  refine dk_iast X 32 (aM_32 g am S) (sM_32 g am S _ _) d_Model_names_50 hF (fun S1 hF => ?_)
  refine dk_aload_n (k := 0) (i := 0) X 0 rfl rfl d_Model_names_51 ?_
  refine dk_get X q_Model 0 50 (by decide) (oM_Model g am S1) rfl f_Model_131 d_Model_names_52 ?_
  refine dk_iconst (v := 5) X (by decide) d_Model_names_55 ?_
  refine dk_iload (i := 6) X 1 rfl d_Model_names_56 ?_
  refine dk_iast X 32 (aM_32 g am S1) (sM_32 g am S1 _ _) d_Model_names_58 hF (fun S2 hF => ?_)
  exact dk_retv hR hF d_Model_names_59
def B_Model_names_0 (n : Nat)  (x1 : Int32) (x2 : Int32) (x3 : Int32) (x4 : Int32) (x5 : Int32) (x6 : Int32) (S : dk_S) : Option dk_S :=
  dk_w S 50 6 (0 : Int32) x1 fun S3 => dk_w S3 50 6 (1 : Int32) x2 fun S4 => dk_w S4 50 6 (2 : Int32) x3 fun S5 => dk_w S5 50 6 (3 : Int32) x4 fun S6 => dk_r 6 (S6 4) x5 fun v7 => if ¬ v7 = (-1 : Int32) then (B_Model_names_50 n  x6 (4 : Int32) (1 : Int32) S6) else (B_Model_names_50 n  x6 (4 : Int32) (0 : Int32) S6)
set_option maxRecDepth 20000 in
theorem kb_Model_names_0 {p : Program} {l : Launch} {e : Env} {s : State} {m : MethodId} {args : Array Value} {below : List Frame} {meth : Method} {c : Code} {g : dk_G} {A : Nat → Prop} {Q : State → Prop} {am : Nat → Nat} {n : Nat} {res : dk_S} (X : dk_X p s m args meth c b_Model_names 7 R_Model (none) g A) (hR : dk_Rv p l e rm_Model_names s m args below meth c g A Q 7 b_Model_names (none) (wM g am) res)  {x1 : Int32} {x2 : Int32} {x3 : Int32} {x4 : Int32} {x5 : Int32} {x6 : Int32} {S : dk_S}  (hF : B_Model_names_0 n  x1 x2 x3 x4 x5 x6 S = some res) : dk_J p l e rm_Model_names s m args below meth c g A Q 7 0 0 0 [(0, .ref (am 0)), (1, .int x1), (2, .int x2), (3, .int x3), (4, .int x4), (5, .int x5), (6, .int x6)] [] (wM g am S) := by
  unfold B_Model_names_0 at hF
  refine dk_aload_n (k := 0) (i := 0) X 0 rfl rfl d_Model_names_0 ?_
  refine dk_get X q_Model 0 50 (by decide) (oM_Model g am S) rfl f_Model_131 d_Model_names_1 ?_
  refine dk_iconst (v := 0) X (by decide) d_Model_names_4 ?_
  refine dk_iload_n (k := 1) (i := 1) X 1 rfl rfl d_Model_names_5 ?_
  refine dk_iast X 32 (aM_32 g am S) (sM_32 g am S _ _) d_Model_names_6 hF (fun S3 hF => ?_)
  refine dk_aload_n (k := 0) (i := 0) X 0 rfl rfl d_Model_names_7 ?_
  refine dk_get X q_Model 0 50 (by decide) (oM_Model g am S3) rfl f_Model_131 d_Model_names_8 ?_
  refine dk_iconst (v := 1) X (by decide) d_Model_names_11 ?_
  refine dk_iload_n (k := 2) (i := 2) X 2 rfl rfl d_Model_names_12 ?_
  refine dk_iast X 32 (aM_32 g am S3) (sM_32 g am S3 _ _) d_Model_names_13 hF (fun S4 hF => ?_)
  refine dk_aload_n (k := 0) (i := 0) X 0 rfl rfl d_Model_names_14 ?_
  refine dk_get X q_Model 0 50 (by decide) (oM_Model g am S4) rfl f_Model_131 d_Model_names_15 ?_
  refine dk_iconst (v := 2) X (by decide) d_Model_names_18 ?_
  refine dk_iload_n (k := 3) (i := 3) X 3 rfl rfl d_Model_names_19 ?_
  refine dk_iast X 32 (aM_32 g am S4) (sM_32 g am S4 _ _) d_Model_names_20 hF (fun S5 hF => ?_)
  refine dk_aload_n (k := 0) (i := 0) X 0 rfl rfl d_Model_names_21 ?_
  refine dk_get X q_Model 0 50 (by decide) (oM_Model g am S5) rfl f_Model_131 d_Model_names_22 ?_
  refine dk_iconst (v := 3) X (by decide) d_Model_names_25 ?_
  refine dk_iload (i := 4) X 4 rfl d_Model_names_26 ?_
  refine dk_iast X 32 (aM_32 g am S5) (sM_32 g am S5 _ _) d_Model_names_28 hF (fun S6 hF => ?_)
  refine dk_aload_n (k := 0) (i := 0) X 0 rfl rfl d_Model_names_29 ?_
  refine dk_get X q_Model 0 50 (by decide) (oM_Model g am S6) rfl f_Model_131 d_Model_names_30 ?_
  refine dk_iconst (v := 4) X (by decide) d_Model_names_33 ?_
  refine dk_aload_n (k := 0) (i := 0) X 0 rfl rfl d_Model_names_34 ?_
  refine dk_get X q_Model 0 4 (by decide) (oM_Model g am S6) rfl f_Model_16 d_Model_names_35 ?_
  refine dk_iload (i := 5) X 5 rfl d_Model_names_38 ?_
  refine dk_iald X 3 (aM_3 g am S6) d_Model_names_40 hF (fun v7 hF => ?_)
  refine dk_iconst (v := -1) X (by decide) d_Model_names_41 ?_
  refine dk_icmp_ne (tgt := 49) X (by decide) d_Model_names_42 hF (fun hF => ?_) (fun hF => ?_)
  · refine dk_iconst (v := 1) X (by decide) d_Model_names_49 ?_
    exact dk_sub [0, 6] rfl (kb_Model_names_50 (n := n) X hR   hF)
  · refine dk_iconst (v := 0) X (by decide) d_Model_names_45 ?_
    refine dk_goto (tgt := 50) X (by decide) d_Model_names_46 ?_
    exact dk_sub [0, 6] rfl (kb_Model_names_50 (n := n) X hR   hF)
def F_Model_names (n : Nat) (x1 : Int32) (x2 : Int32) (x3 : Int32) (x4 : Int32) (x5 : Int32) (x6 : Int32) (S : dk_S) : Option dk_S := B_Model_names_0 n x1 x2 x3 x4 x5 x6 S
theorem c_Model_names (l : Launch) (g : dk_G) (am : Nat → Nat) (n : Nat) (x1 : Int32) (x2 : Int32) (x3 : Int32) (x4 : Int32) (x5 : Int32) (x6 : Int32)  (S : dk_S) : dk_Mv l g y_Model_names b_Model_names 7 rm_Model_names (none) [.ref (am 0), .int x1, .int x2, .int x3, .int x4, .int x5, .int x6] (wM g am) S (F_Model_names n x1 x2 x3 x4 x5 x6 S) := dk_enterv (by decide) rfl (Nat.le_of_ble_eq_true rfl) (fun p e s m args below meth c A Q res hF X hR => (kb_Model_names_0 (n := n) X hR  hF))
abbrev b_Model_two : ByteArray := prog_11_method_28_code
def y_Model_two : MethodName := ⟨R_Model, "two", "(III)I"⟩
theorem d_Model_two_0 : decode b_Model_two 0 = .ok (.iload_n 0, 1) := by decide +kernel
theorem d_Model_two_1 : decode b_Model_two 1 = .ok (.tableswitch 101 11 17 #[43, 57, 101, 71, 82, 93, 97], 43) := by decide +kernel
theorem d_Model_two_44 : decode b_Model_two 44 = .ok (.iload_n 1, 1) := by decide +kernel
theorem d_Model_two_45 : decode b_Model_two 45 = .ok (.ifCond .ne 7, 3) := by decide +kernel
theorem d_Model_two_48 : decode b_Model_two 48 = .ok (.iload_n 2, 1) := by decide +kernel
theorem d_Model_two_49 : decode b_Model_two 49 = .ok (.ifCond .eq 7, 3) := by decide +kernel
theorem d_Model_two_52 : decode b_Model_two 52 = .ok (.iconst 1, 1) := by decide +kernel
theorem d_Model_two_53 : decode b_Model_two 53 = .ok (.goto 4, 3) := by decide +kernel
theorem d_Model_two_56 : decode b_Model_two 56 = .ok (.iconst 0, 1) := by decide +kernel
theorem d_Model_two_57 : decode b_Model_two 57 = .ok (.ireturn, 1) := by decide +kernel
theorem d_Model_two_58 : decode b_Model_two 58 = .ok (.iload_n 1, 1) := by decide +kernel
theorem d_Model_two_59 : decode b_Model_two 59 = .ok (.ifCond .eq 11, 3) := by decide +kernel
theorem d_Model_two_62 : decode b_Model_two 62 = .ok (.iload_n 2, 1) := by decide +kernel
theorem d_Model_two_63 : decode b_Model_two 63 = .ok (.ifCond .eq 7, 3) := by decide +kernel
theorem d_Model_two_66 : decode b_Model_two 66 = .ok (.iconst 1, 1) := by decide +kernel
theorem d_Model_two_67 : decode b_Model_two 67 = .ok (.goto 4, 3) := by decide +kernel
theorem d_Model_two_70 : decode b_Model_two 70 = .ok (.iconst 0, 1) := by decide +kernel
theorem d_Model_two_71 : decode b_Model_two 71 = .ok (.ireturn, 1) := by decide +kernel
theorem d_Model_two_72 : decode b_Model_two 72 = .ok (.iload_n 1, 1) := by decide +kernel
theorem d_Model_two_73 : decode b_Model_two 73 = .ok (.iload_n 2, 1) := by decide +kernel
theorem d_Model_two_74 : decode b_Model_two 74 = .ok (.if_icmp .ge 7, 3) := by decide +kernel
theorem d_Model_two_77 : decode b_Model_two 77 = .ok (.iconst 1, 1) := by decide +kernel
theorem d_Model_two_78 : decode b_Model_two 78 = .ok (.goto 4, 3) := by decide +kernel
theorem d_Model_two_81 : decode b_Model_two 81 = .ok (.iconst 0, 1) := by decide +kernel
theorem d_Model_two_82 : decode b_Model_two 82 = .ok (.ireturn, 1) := by decide +kernel
theorem d_Model_two_83 : decode b_Model_two 83 = .ok (.iload_n 1, 1) := by decide +kernel
theorem d_Model_two_84 : decode b_Model_two 84 = .ok (.iload_n 2, 1) := by decide +kernel
theorem d_Model_two_85 : decode b_Model_two 85 = .ok (.if_icmp .ne 7, 3) := by decide +kernel
theorem d_Model_two_88 : decode b_Model_two 88 = .ok (.iconst 1, 1) := by decide +kernel
theorem d_Model_two_89 : decode b_Model_two 89 = .ok (.goto 4, 3) := by decide +kernel
theorem d_Model_two_92 : decode b_Model_two 92 = .ok (.iconst 0, 1) := by decide +kernel
theorem d_Model_two_93 : decode b_Model_two 93 = .ok (.ireturn, 1) := by decide +kernel
theorem d_Model_two_94 : decode b_Model_two 94 = .ok (.iload_n 1, 1) := by decide +kernel
theorem d_Model_two_95 : decode b_Model_two 95 = .ok (.iload_n 2, 1) := by decide +kernel
theorem d_Model_two_96 : decode b_Model_two 96 = .ok (.iadd, 1) := by decide +kernel
theorem d_Model_two_97 : decode b_Model_two 97 = .ok (.ireturn, 1) := by decide +kernel
theorem d_Model_two_98 : decode b_Model_two 98 = .ok (.iload_n 1, 1) := by decide +kernel
theorem d_Model_two_99 : decode b_Model_two 99 = .ok (.iload_n 2, 1) := by decide +kernel
theorem d_Model_two_100 : decode b_Model_two 100 = .ok (.isub, 1) := by decide +kernel
theorem d_Model_two_101 : decode b_Model_two 101 = .ok (.ireturn, 1) := by decide +kernel
theorem d_Model_two_102 : decode b_Model_two 102 = .ok (.iload_n 1, 1) := by decide +kernel
theorem d_Model_two_103 : decode b_Model_two 103 = .ok (.iload_n 2, 1) := by decide +kernel
theorem d_Model_two_104 : decode b_Model_two 104 = .ok (.imul, 1) := by decide +kernel
theorem d_Model_two_105 : decode b_Model_two 105 = .ok (.ireturn, 1) := by decide +kernel
theorem v_Model_two : dk_Ys y_Model_two b_Model_two 3 (some .int) 3 := ⟨dk_in (List.mem_of_getElem? (i := 1236) (by decide +kernel)) rfl, dk_in (List.mem_of_getElem? (i := 75) (by decide +kernel)) rfl, dk_in (List.mem_of_getElem? (i := 1237) (by decide +kernel)) rfl, by decide +kernel, by decide +kernel, by decide +kernel⟩
abbrev rm_Model_two : Room := { frames := 0, cells := 0, slots := 0, locals := 0 }
def B_Model_two_102 (n : Nat)  (x1 : Int32) (x2 : Int32) (S : dk_S) : Option (Int32 × dk_S) :=
  some ((x1 * x2), S)
set_option maxRecDepth 20000 in
theorem kb_Model_two_102 {p : Program} {l : Launch} {e : Env} {s : State} {m : MethodId} {args : Array Value} {below : List Frame} {meth : Method} {c : Code} {g : dk_G} {A : Nat → Prop} {Q : State → Prop} {am : Nat → Nat} {n : Nat} {res : (Int32 × dk_S)} (X : dk_X p s m args meth c b_Model_two 3 R_Model (some .int) g A) (hR : dk_Ri p l e rm_Model_two s m args below meth c g A Q 3 b_Model_two (some .int) (wM g am) res)  {x1 : Int32} {x2 : Int32} {S : dk_S}  (hF : B_Model_two_102 n  x1 x2 S = some res) : dk_J p l e rm_Model_two s m args below meth c g A Q 3 0 0 102 [(1, .int x1), (2, .int x2)] [] (wM g am S) := by
  unfold B_Model_two_102 at hF
  refine dk_iload_n (k := 1) (i := 1) X 0 rfl rfl d_Model_two_102 ?_
  refine dk_iload_n (k := 2) (i := 2) X 1 rfl rfl d_Model_two_103 ?_
  refine dk_imul X d_Model_two_104 ?_
  exact dk_reti hR hF d_Model_two_105
def B_Model_two_0 (n : Nat)  (x0 : Int32) (x1 : Int32) (x2 : Int32) (S : dk_S) : Option (Int32 × dk_S) :=
  if x0 = (11 : Int32) then (if ¬ x1 = 0 then (some ((1 : Int32), S)) else (if x2 = 0 then (some ((0 : Int32), S)) else (some ((1 : Int32), S)))) else (if x0 = (12 : Int32) then (if x1 = 0 then (some ((0 : Int32), S)) else (if x2 = 0 then (some ((0 : Int32), S)) else (some ((1 : Int32), S)))) else (if x0 = (13 : Int32) then (B_Model_two_102 n  x1 x2 S) else (if x0 = (14 : Int32) then (if x2 ≤ x1 then (some ((0 : Int32), S)) else (some ((1 : Int32), S))) else (if x0 = (15 : Int32) then (if ¬ x1 = x2 then (some ((0 : Int32), S)) else (some ((1 : Int32), S))) else (if x0 = (16 : Int32) then (some ((x1 + x2), S)) else (if x0 = (17 : Int32) then (some ((x1 - x2), S)) else (B_Model_two_102 n  x1 x2 S)))))))
set_option maxRecDepth 20000 in
theorem kb_Model_two_0 {p : Program} {l : Launch} {e : Env} {s : State} {m : MethodId} {args : Array Value} {below : List Frame} {meth : Method} {c : Code} {g : dk_G} {A : Nat → Prop} {Q : State → Prop} {am : Nat → Nat} {n : Nat} {res : (Int32 × dk_S)} (X : dk_X p s m args meth c b_Model_two 3 R_Model (some .int) g A) (hR : dk_Ri p l e rm_Model_two s m args below meth c g A Q 3 b_Model_two (some .int) (wM g am) res)  {x0 : Int32} {x1 : Int32} {x2 : Int32} {S : dk_S}  (hF : B_Model_two_0 n  x0 x1 x2 S = some res) : dk_J p l e rm_Model_two s m args below meth c g A Q 3 0 0 0 [(0, .int x0), (1, .int x1), (2, .int x2)] [] (wM g am S) := by
  unfold B_Model_two_0 at hF
  refine dk_iload_n (k := 0) (i := 0) X 0 rfl rfl d_Model_two_0 ?_
  refine dk_if hF (fun hc11 hF => ?_) (fun hc11 hF => ?_)
  · refine dk_tsIn (v := 11) (tgt := 44) X d_Model_two_1 (by rw [hc11]; decide) (by decide) (by decide) rfl (by decide) ?_
    refine dk_iload_n (k := 1) (i := 1) X 1 rfl rfl d_Model_two_44 ?_
    refine dk_if_ne (tgt := 52) X (by decide) d_Model_two_45 hF (fun hF => ?_) (fun hF => ?_)
    · refine dk_iconst (v := 1) X (by decide) d_Model_two_52 ?_
      refine dk_goto (tgt := 57) X (by decide) d_Model_two_53 ?_
      exact dk_reti hR hF d_Model_two_57
    · refine dk_iload_n (k := 2) (i := 2) X 2 rfl rfl d_Model_two_48 ?_
      refine dk_if_eq (tgt := 56) X (by decide) d_Model_two_49 hF (fun hF => ?_) (fun hF => ?_)
      · refine dk_iconst (v := 0) X (by decide) d_Model_two_56 ?_
        exact dk_reti hR hF d_Model_two_57
      · refine dk_iconst (v := 1) X (by decide) d_Model_two_52 ?_
        refine dk_goto (tgt := 57) X (by decide) d_Model_two_53 ?_
        exact dk_reti hR hF d_Model_two_57
  · refine dk_if hF (fun hc12 hF => ?_) (fun hc12 hF => ?_)
    · refine dk_tsIn (v := 12) (tgt := 58) X d_Model_two_1 (by rw [hc12]; decide) (by decide) (by decide) rfl (by decide) ?_
      refine dk_iload_n (k := 1) (i := 1) X 1 rfl rfl d_Model_two_58 ?_
      refine dk_if_eq (tgt := 70) X (by decide) d_Model_two_59 hF (fun hF => ?_) (fun hF => ?_)
      · refine dk_iconst (v := 0) X (by decide) d_Model_two_70 ?_
        exact dk_reti hR hF d_Model_two_71
      · refine dk_iload_n (k := 2) (i := 2) X 2 rfl rfl d_Model_two_62 ?_
        refine dk_if_eq (tgt := 70) X (by decide) d_Model_two_63 hF (fun hF => ?_) (fun hF => ?_)
        · refine dk_iconst (v := 0) X (by decide) d_Model_two_70 ?_
          exact dk_reti hR hF d_Model_two_71
        · refine dk_iconst (v := 1) X (by decide) d_Model_two_66 ?_
          refine dk_goto (tgt := 71) X (by decide) d_Model_two_67 ?_
          exact dk_reti hR hF d_Model_two_71
    · refine dk_if hF (fun hc13 hF => ?_) (fun hc13 hF => ?_)
      · refine dk_tsIn (v := 13) (tgt := 102) X d_Model_two_1 (by rw [hc13]; decide) (by decide) (by decide) rfl (by decide) ?_
        exact dk_sub [1, 2] rfl (kb_Model_two_102 (n := n) X hR   hF)
      · refine dk_if hF (fun hc14 hF => ?_) (fun hc14 hF => ?_)
        · refine dk_tsIn (v := 14) (tgt := 72) X d_Model_two_1 (by rw [hc14]; decide) (by decide) (by decide) rfl (by decide) ?_
          refine dk_iload_n (k := 1) (i := 1) X 1 rfl rfl d_Model_two_72 ?_
          refine dk_iload_n (k := 2) (i := 2) X 2 rfl rfl d_Model_two_73 ?_
          refine dk_icmp_ge (tgt := 81) X (by decide) d_Model_two_74 hF (fun hF => ?_) (fun hF => ?_)
          · refine dk_iconst (v := 0) X (by decide) d_Model_two_81 ?_
            exact dk_reti hR hF d_Model_two_82
          · refine dk_iconst (v := 1) X (by decide) d_Model_two_77 ?_
            refine dk_goto (tgt := 82) X (by decide) d_Model_two_78 ?_
            exact dk_reti hR hF d_Model_two_82
        · refine dk_if hF (fun hc15 hF => ?_) (fun hc15 hF => ?_)
          · refine dk_tsIn (v := 15) (tgt := 83) X d_Model_two_1 (by rw [hc15]; decide) (by decide) (by decide) rfl (by decide) ?_
            refine dk_iload_n (k := 1) (i := 1) X 1 rfl rfl d_Model_two_83 ?_
            refine dk_iload_n (k := 2) (i := 2) X 2 rfl rfl d_Model_two_84 ?_
            refine dk_icmp_ne (tgt := 92) X (by decide) d_Model_two_85 hF (fun hF => ?_) (fun hF => ?_)
            · refine dk_iconst (v := 0) X (by decide) d_Model_two_92 ?_
              exact dk_reti hR hF d_Model_two_93
            · refine dk_iconst (v := 1) X (by decide) d_Model_two_88 ?_
              refine dk_goto (tgt := 93) X (by decide) d_Model_two_89 ?_
              exact dk_reti hR hF d_Model_two_93
          · refine dk_if hF (fun hc16 hF => ?_) (fun hc16 hF => ?_)
            · refine dk_tsIn (v := 16) (tgt := 94) X d_Model_two_1 (by rw [hc16]; decide) (by decide) (by decide) rfl (by decide) ?_
              refine dk_iload_n (k := 1) (i := 1) X 1 rfl rfl d_Model_two_94 ?_
              refine dk_iload_n (k := 2) (i := 2) X 2 rfl rfl d_Model_two_95 ?_
              refine dk_iadd X d_Model_two_96 ?_
              exact dk_reti hR hF d_Model_two_97
            · refine dk_if hF (fun hc17 hF => ?_) (fun hc17 hF => ?_)
              · refine dk_tsIn (v := 17) (tgt := 98) X d_Model_two_1 (by rw [hc17]; decide) (by decide) (by decide) rfl (by decide) ?_
                refine dk_iload_n (k := 1) (i := 1) X 1 rfl rfl d_Model_two_98 ?_
                refine dk_iload_n (k := 2) (i := 2) X 2 rfl rfl d_Model_two_99 ?_
                refine dk_isub X d_Model_two_100 ?_
                exact dk_reti hR hF d_Model_two_101
              · refine dk_tsOut (tgt := 102) X d_Model_two_1 (by have e11 := lv_neT hc11 (a := 11) (by decide); have e12 := lv_neT hc12 (a := 12) (by decide); have e13 := lv_neT hc13 (a := 13) (by decide); have e14 := lv_neT hc14 (a := 14) (by decide); have e15 := lv_neT hc15 (a := 15) (by decide); have e16 := lv_neT hc16 (a := 16) (by decide); have e17 := lv_neT hc17 (a := 17) (by decide); omega) (by decide) ?_
                exact dk_sub [1, 2] rfl (kb_Model_two_102 (n := n) X hR   hF)
def F_Model_two (n : Nat) (x0 : Int32) (x1 : Int32) (x2 : Int32) (S : dk_S) : Option (Int32 × dk_S) := B_Model_two_0 n x0 x1 x2 S
theorem c_Model_two (l : Launch) (g : dk_G) (am : Nat → Nat) (n : Nat) (x0 : Int32) (x1 : Int32) (x2 : Int32)  (S : dk_S) : dk_Mi l g y_Model_two b_Model_two 3 rm_Model_two (some .int) [.int x0, .int x1, .int x2] (wM g am) S (F_Model_two n x0 x1 x2 S) := dk_enteri (by decide) (Nat.le_of_ble_eq_true rfl) (fun p e s m args below meth c A Q res hF X hR => (kb_Model_two_0 (n := n) X hR  hF))
