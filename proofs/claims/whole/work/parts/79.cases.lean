
theorem d_law_176 : decode code 176 = .ok (.aload_n 1, 1) := by decide +kernel
theorem d_law_177 : decode code 177 = .ok (.aload_n 0, 1) := by decide +kernel
theorem d_law_178 : decode code 178 = .ok (.iload_n 3, 1) := by decide +kernel
theorem d_law_179 : decode code 179 = .ok (.iconst 1, 1) := by decide +kernel
theorem d_law_180 : decode code 180 = .ok (.iadd, 1) := by decide +kernel
theorem d_law_181 : decode code 181 = .ok (.iaload, 1) := by decide +kernel
theorem m_law_13 : Cond.methodLink R_law 13 y_Hare_ground ∈ dk_tb := dk_in (List.mem_of_getElem? (i := 403) (by decide +kernel)) rfl
theorem d_law_182 : decode code 182 = .ok (.invokevirtual 13, 3) := by decide +kernel
theorem d_law_185 : decode code 185 = .ok (.aload_n 2, 1) := by decide +kernel
theorem d_law_186 : decode code 186 = .ok (.aload_n 0, 1) := by decide +kernel
theorem d_law_187 : decode code 187 = .ok (.iload_n 3, 1) := by decide +kernel
theorem d_law_188 : decode code 188 = .ok (.iconst 1, 1) := by decide +kernel
theorem d_law_189 : decode code 189 = .ok (.iadd, 1) := by decide +kernel
theorem d_law_190 : decode code 190 = .ok (.iaload, 1) := by decide +kernel
theorem m_law_17 : Cond.methodLink R_law 17 y_Model_ground ∈ dk_tb := dk_in (List.mem_of_getElem? (i := 1119) (by decide +kernel)) rfl
theorem d_law_191 : decode code 191 = .ok (.invokevirtual 17, 3) := by decide +kernel
theorem d_law_194 : decode code 194 = .ok (.if_icmp .eq 1049, 3) := by decide +kernel
theorem d_law_199 : decode code 199 = .ok (.aload_n 1, 1) := by decide +kernel
theorem d_law_200 : decode code 200 = .ok (.aload_n 0, 1) := by decide +kernel
theorem d_law_201 : decode code 201 = .ok (.iload_n 3, 1) := by decide +kernel
theorem d_law_202 : decode code 202 = .ok (.iconst 1, 1) := by decide +kernel
theorem d_law_203 : decode code 203 = .ok (.iadd, 1) := by decide +kernel
theorem d_law_204 : decode code 204 = .ok (.iaload, 1) := by decide +kernel
theorem d_law_205 : decode code 205 = .ok (.aload_n 0, 1) := by decide +kernel
theorem d_law_206 : decode code 206 = .ok (.iload_n 3, 1) := by decide +kernel
theorem d_law_207 : decode code 207 = .ok (.iconst 2, 1) := by decide +kernel
theorem d_law_208 : decode code 208 = .ok (.iadd, 1) := by decide +kernel
theorem d_law_209 : decode code 209 = .ok (.iaload, 1) := by decide +kernel
theorem m_law_18 : Cond.methodLink R_law 18 y_Hare_owns ∈ dk_tb := dk_in (List.mem_of_getElem? (i := 417) (by decide +kernel)) rfl
theorem d_law_210 : decode code 210 = .ok (.invokevirtual 18, 3) := by decide +kernel
theorem d_law_213 : decode code 213 = .ok (.aload_n 2, 1) := by decide +kernel
theorem d_law_214 : decode code 214 = .ok (.aload_n 0, 1) := by decide +kernel
theorem d_law_215 : decode code 215 = .ok (.iload_n 3, 1) := by decide +kernel
theorem d_law_216 : decode code 216 = .ok (.iconst 1, 1) := by decide +kernel
theorem d_law_217 : decode code 217 = .ok (.iadd, 1) := by decide +kernel
theorem d_law_218 : decode code 218 = .ok (.iaload, 1) := by decide +kernel
theorem d_law_219 : decode code 219 = .ok (.aload_n 0, 1) := by decide +kernel
theorem d_law_220 : decode code 220 = .ok (.iload_n 3, 1) := by decide +kernel
theorem d_law_221 : decode code 221 = .ok (.iconst 2, 1) := by decide +kernel
theorem d_law_222 : decode code 222 = .ok (.iadd, 1) := by decide +kernel
theorem d_law_223 : decode code 223 = .ok (.iaload, 1) := by decide +kernel
theorem m_law_22 : Cond.methodLink R_law 22 y_Model_owns ∈ dk_tb := dk_in (List.mem_of_getElem? (i := 1126) (by decide +kernel)) rfl
theorem d_law_224 : decode code 224 = .ok (.invokevirtual 22, 3) := by decide +kernel
theorem d_law_227 : decode code 227 = .ok (.if_icmp .eq 1016, 3) := by decide +kernel
theorem d_law_232 : decode code 232 = .ok (.aload_n 1, 1) := by decide +kernel
theorem d_law_233 : decode code 233 = .ok (.aload_n 0, 1) := by decide +kernel
theorem d_law_234 : decode code 234 = .ok (.iload_n 3, 1) := by decide +kernel
theorem d_law_235 : decode code 235 = .ok (.iconst 1, 1) := by decide +kernel
theorem d_law_236 : decode code 236 = .ok (.iadd, 1) := by decide +kernel
theorem d_law_237 : decode code 237 = .ok (.iaload, 1) := by decide +kernel
theorem d_law_238 : decode code 238 = .ok (.aload_n 0, 1) := by decide +kernel
theorem d_law_239 : decode code 239 = .ok (.iload_n 3, 1) := by decide +kernel
theorem d_law_240 : decode code 240 = .ok (.iconst 2, 1) := by decide +kernel
theorem d_law_241 : decode code 241 = .ok (.iadd, 1) := by decide +kernel
theorem d_law_242 : decode code 242 = .ok (.iaload, 1) := by decide +kernel
theorem m_law_23 : Cond.methodLink R_law 23 y_Hare_beast ∈ dk_tb := dk_in (List.mem_of_getElem? (i := 425) (by decide +kernel)) rfl
theorem d_law_243 : decode code 243 = .ok (.invokevirtual 23, 3) := by decide +kernel
theorem d_law_246 : decode code 246 = .ok (.aload_n 2, 1) := by decide +kernel
theorem d_law_247 : decode code 247 = .ok (.aload_n 0, 1) := by decide +kernel
theorem d_law_248 : decode code 248 = .ok (.iload_n 3, 1) := by decide +kernel
theorem d_law_249 : decode code 249 = .ok (.iconst 1, 1) := by decide +kernel
theorem d_law_250 : decode code 250 = .ok (.iadd, 1) := by decide +kernel
theorem d_law_251 : decode code 251 = .ok (.iaload, 1) := by decide +kernel
theorem d_law_252 : decode code 252 = .ok (.aload_n 0, 1) := by decide +kernel
theorem d_law_253 : decode code 253 = .ok (.iload_n 3, 1) := by decide +kernel
theorem d_law_254 : decode code 254 = .ok (.iconst 2, 1) := by decide +kernel
theorem d_law_255 : decode code 255 = .ok (.iadd, 1) := by decide +kernel
theorem d_law_256 : decode code 256 = .ok (.iaload, 1) := by decide +kernel
theorem m_law_26 : Cond.methodLink R_law 26 y_Model_beast ∈ dk_tb := dk_in (List.mem_of_getElem? (i := 1134) (by decide +kernel)) rfl
theorem d_law_257 : decode code 257 = .ok (.invokevirtual 26, 3) := by decide +kernel
theorem d_law_260 : decode code 260 = .ok (.if_icmp .eq 983, 3) := by decide +kernel
theorem d_law_265 : decode code 265 = .ok (.aload_n 1, 1) := by decide +kernel
theorem d_law_266 : decode code 266 = .ok (.aload_n 0, 1) := by decide +kernel
theorem d_law_267 : decode code 267 = .ok (.iload_n 3, 1) := by decide +kernel
theorem d_law_268 : decode code 268 = .ok (.iconst 1, 1) := by decide +kernel
theorem d_law_269 : decode code 269 = .ok (.iadd, 1) := by decide +kernel
theorem d_law_270 : decode code 270 = .ok (.iaload, 1) := by decide +kernel
theorem d_law_271 : decode code 271 = .ok (.aload_n 0, 1) := by decide +kernel
theorem d_law_272 : decode code 272 = .ok (.iload_n 3, 1) := by decide +kernel
theorem d_law_273 : decode code 273 = .ok (.iconst 2, 1) := by decide +kernel
theorem d_law_274 : decode code 274 = .ok (.iadd, 1) := by decide +kernel
theorem d_law_275 : decode code 275 = .ok (.iaload, 1) := by decide +kernel
theorem d_law_276 : decode code 276 = .ok (.aload_n 0, 1) := by decide +kernel
theorem d_law_277 : decode code 277 = .ok (.iload_n 3, 1) := by decide +kernel
theorem d_law_278 : decode code 278 = .ok (.iconst 3, 1) := by decide +kernel
theorem d_law_279 : decode code 279 = .ok (.iadd, 1) := by decide +kernel
theorem d_law_280 : decode code 280 = .ok (.iaload, 1) := by decide +kernel
theorem d_law_281 : decode code 281 = .ok (.aload_n 0, 1) := by decide +kernel
theorem d_law_282 : decode code 282 = .ok (.iload_n 3, 1) := by decide +kernel
theorem d_law_283 : decode code 283 = .ok (.iconst 4, 1) := by decide +kernel
theorem d_law_284 : decode code 284 = .ok (.iadd, 1) := by decide +kernel
theorem d_law_285 : decode code 285 = .ok (.iaload, 1) := by decide +kernel
theorem d_law_286 : decode code 286 = .ok (.aload_n 0, 1) := by decide +kernel
theorem d_law_287 : decode code 287 = .ok (.iload_n 3, 1) := by decide +kernel
theorem d_law_288 : decode code 288 = .ok (.iconst 5, 1) := by decide +kernel
theorem d_law_289 : decode code 289 = .ok (.iadd, 1) := by decide +kernel
theorem d_law_290 : decode code 290 = .ok (.iaload, 1) := by decide +kernel
theorem m_law_27 : Cond.methodLink R_law 27 y_Hare_moment ∈ dk_tb := dk_in (List.mem_of_getElem? (i := 433) (by decide +kernel)) rfl
theorem d_law_291 : decode code 291 = .ok (.invokevirtual 27, 3) := by decide +kernel
theorem d_law_294 : decode code 294 = .ok (.aload_n 2, 1) := by decide +kernel
theorem d_law_295 : decode code 295 = .ok (.aload_n 0, 1) := by decide +kernel
theorem d_law_296 : decode code 296 = .ok (.iload_n 3, 1) := by decide +kernel
theorem d_law_297 : decode code 297 = .ok (.iconst 1, 1) := by decide +kernel
theorem d_law_298 : decode code 298 = .ok (.iadd, 1) := by decide +kernel
theorem d_law_299 : decode code 299 = .ok (.iaload, 1) := by decide +kernel
theorem d_law_300 : decode code 300 = .ok (.aload_n 0, 1) := by decide +kernel
theorem d_law_301 : decode code 301 = .ok (.iload_n 3, 1) := by decide +kernel
theorem d_law_302 : decode code 302 = .ok (.iconst 2, 1) := by decide +kernel
theorem d_law_303 : decode code 303 = .ok (.iadd, 1) := by decide +kernel
theorem d_law_304 : decode code 304 = .ok (.iaload, 1) := by decide +kernel
theorem d_law_305 : decode code 305 = .ok (.aload_n 0, 1) := by decide +kernel
theorem d_law_306 : decode code 306 = .ok (.iload_n 3, 1) := by decide +kernel
theorem d_law_307 : decode code 307 = .ok (.iconst 3, 1) := by decide +kernel
theorem d_law_308 : decode code 308 = .ok (.iadd, 1) := by decide +kernel
theorem d_law_309 : decode code 309 = .ok (.iaload, 1) := by decide +kernel
theorem d_law_310 : decode code 310 = .ok (.aload_n 0, 1) := by decide +kernel
theorem d_law_311 : decode code 311 = .ok (.iload_n 3, 1) := by decide +kernel
theorem d_law_312 : decode code 312 = .ok (.iconst 4, 1) := by decide +kernel
theorem d_law_313 : decode code 313 = .ok (.iadd, 1) := by decide +kernel
theorem d_law_314 : decode code 314 = .ok (.iaload, 1) := by decide +kernel
theorem d_law_315 : decode code 315 = .ok (.aload_n 0, 1) := by decide +kernel
theorem d_law_316 : decode code 316 = .ok (.iload_n 3, 1) := by decide +kernel
theorem d_law_317 : decode code 317 = .ok (.iconst 5, 1) := by decide +kernel
theorem d_law_318 : decode code 318 = .ok (.iadd, 1) := by decide +kernel
theorem d_law_319 : decode code 319 = .ok (.iaload, 1) := by decide +kernel
theorem m_law_31 : Cond.methodLink R_law 31 y_Model_moment ∈ dk_tb := dk_in (List.mem_of_getElem? (i := 1138) (by decide +kernel)) rfl
theorem d_law_320 : decode code 320 = .ok (.invokevirtual 31, 3) := by decide +kernel
theorem d_law_323 : decode code 323 = .ok (.if_icmp .eq 920, 3) := by decide +kernel
theorem d_law_328 : decode code 328 = .ok (.aload_n 1, 1) := by decide +kernel
theorem m_law_32 : Cond.methodLink R_law 32 y_Hare_undo ∈ dk_tb := dk_in (List.mem_of_getElem? (i := 449) (by decide +kernel)) rfl
theorem d_law_329 : decode code 329 = .ok (.invokevirtual 32, 3) := by decide +kernel
theorem d_law_332 : decode code 332 = .ok (.aload_n 2, 1) := by decide +kernel
theorem m_law_36 : Cond.methodLink R_law 36 y_Model_undo ∈ dk_tb := dk_in (List.mem_of_getElem? (i := 1146) (by decide +kernel)) rfl
theorem d_law_333 : decode code 333 = .ok (.invokevirtual 36, 3) := by decide +kernel
theorem d_law_336 : decode code 336 = .ok (.if_icmp .eq 907, 3) := by decide +kernel
theorem d_law_341 : decode code 341 = .ok (.aload_n 1, 1) := by decide +kernel
theorem d_law_342 : decode code 342 = .ok (.aload_n 0, 1) := by decide +kernel
theorem d_law_343 : decode code 343 = .ok (.iload_n 3, 1) := by decide +kernel
theorem d_law_344 : decode code 344 = .ok (.iconst 1, 1) := by decide +kernel
theorem d_law_345 : decode code 345 = .ok (.iadd, 1) := by decide +kernel
theorem d_law_346 : decode code 346 = .ok (.iaload, 1) := by decide +kernel
theorem d_law_347 : decode code 347 = .ok (.aload_n 0, 1) := by decide +kernel
theorem d_law_348 : decode code 348 = .ok (.iload_n 3, 1) := by decide +kernel
theorem d_law_349 : decode code 349 = .ok (.iconst 2, 1) := by decide +kernel
theorem d_law_350 : decode code 350 = .ok (.iadd, 1) := by decide +kernel
theorem d_law_351 : decode code 351 = .ok (.iaload, 1) := by decide +kernel
theorem m_law_37 : Cond.methodLink R_law 37 y_Hare_unsure ∈ dk_tb := dk_in (List.mem_of_getElem? (i := 457) (by decide +kernel)) rfl
theorem d_law_352 : decode code 352 = .ok (.invokevirtual 37, 3) := by decide +kernel
theorem d_law_355 : decode code 355 = .ok (.aload_n 2, 1) := by decide +kernel
theorem d_law_356 : decode code 356 = .ok (.aload_n 0, 1) := by decide +kernel
theorem d_law_357 : decode code 357 = .ok (.iload_n 3, 1) := by decide +kernel
theorem d_law_358 : decode code 358 = .ok (.iconst 1, 1) := by decide +kernel
theorem d_law_359 : decode code 359 = .ok (.iadd, 1) := by decide +kernel
theorem d_law_360 : decode code 360 = .ok (.iaload, 1) := by decide +kernel
theorem d_law_361 : decode code 361 = .ok (.aload_n 0, 1) := by decide +kernel
theorem d_law_362 : decode code 362 = .ok (.iload_n 3, 1) := by decide +kernel
theorem d_law_363 : decode code 363 = .ok (.iconst 2, 1) := by decide +kernel
theorem d_law_364 : decode code 364 = .ok (.iadd, 1) := by decide +kernel
theorem d_law_365 : decode code 365 = .ok (.iaload, 1) := by decide +kernel
theorem m_law_40 : Cond.methodLink R_law 40 y_Model_unsure ∈ dk_tb := dk_in (List.mem_of_getElem? (i := 1150) (by decide +kernel)) rfl
theorem d_law_366 : decode code 366 = .ok (.invokevirtual 40, 3) := by decide +kernel
theorem d_law_369 : decode code 369 = .ok (.if_icmp .eq 874, 3) := by decide +kernel
theorem d_law_374 : decode code 374 = .ok (.aload_n 1, 1) := by decide +kernel
theorem d_law_375 : decode code 375 = .ok (.aload_n 0, 1) := by decide +kernel
theorem d_law_376 : decode code 376 = .ok (.iload_n 3, 1) := by decide +kernel
theorem d_law_377 : decode code 377 = .ok (.iconst 1, 1) := by decide +kernel
theorem d_law_378 : decode code 378 = .ok (.iadd, 1) := by decide +kernel
theorem d_law_379 : decode code 379 = .ok (.iaload, 1) := by decide +kernel
theorem d_law_380 : decode code 380 = .ok (.aload_n 0, 1) := by decide +kernel
theorem d_law_381 : decode code 381 = .ok (.iload_n 3, 1) := by decide +kernel
theorem d_law_382 : decode code 382 = .ok (.iconst 2, 1) := by decide +kernel
theorem d_law_383 : decode code 383 = .ok (.iadd, 1) := by decide +kernel
theorem d_law_384 : decode code 384 = .ok (.iaload, 1) := by decide +kernel
theorem m_law_41 : Cond.methodLink R_law 41 y_Hare_momentTold ∈ dk_tb := dk_in (List.mem_of_getElem? (i := 469) (by decide +kernel)) rfl
theorem d_law_385 : decode code 385 = .ok (.invokevirtual 41, 3) := by decide +kernel
theorem d_law_388 : decode code 388 = .ok (.aload_n 2, 1) := by decide +kernel
theorem d_law_389 : decode code 389 = .ok (.aload_n 0, 1) := by decide +kernel
theorem d_law_390 : decode code 390 = .ok (.iload_n 3, 1) := by decide +kernel
theorem d_law_391 : decode code 391 = .ok (.iconst 1, 1) := by decide +kernel
theorem d_law_392 : decode code 392 = .ok (.iadd, 1) := by decide +kernel
theorem d_law_393 : decode code 393 = .ok (.iaload, 1) := by decide +kernel
theorem d_law_394 : decode code 394 = .ok (.aload_n 0, 1) := by decide +kernel
theorem d_law_395 : decode code 395 = .ok (.iload_n 3, 1) := by decide +kernel
theorem d_law_396 : decode code 396 = .ok (.iconst 2, 1) := by decide +kernel
theorem d_law_397 : decode code 397 = .ok (.iadd, 1) := by decide +kernel
theorem d_law_398 : decode code 398 = .ok (.iaload, 1) := by decide +kernel
theorem m_law_44 : Cond.methodLink R_law 44 y_Model_momentTold ∈ dk_tb := dk_in (List.mem_of_getElem? (i := 1162) (by decide +kernel)) rfl
theorem d_law_399 : decode code 399 = .ok (.invokevirtual 44, 3) := by decide +kernel
theorem d_law_402 : decode code 402 = .ok (.if_icmp .eq 841, 3) := by decide +kernel
theorem d_law_407 : decode code 407 = .ok (.aload_n 1, 1) := by decide +kernel
theorem d_law_408 : decode code 408 = .ok (.aload_n 0, 1) := by decide +kernel
theorem d_law_409 : decode code 409 = .ok (.iload_n 3, 1) := by decide +kernel
theorem d_law_410 : decode code 410 = .ok (.iconst 1, 1) := by decide +kernel
theorem d_law_411 : decode code 411 = .ok (.iadd, 1) := by decide +kernel
theorem d_law_412 : decode code 412 = .ok (.iaload, 1) := by decide +kernel
theorem d_law_413 : decode code 413 = .ok (.i2l, 1) := by decide +kernel
theorem d_law_414 : decode code 414 = .ok (.bipush 32, 2) := by decide +kernel
theorem d_law_416 : decode code 416 = .ok (.lshl, 1) := by decide +kernel
theorem d_law_417 : decode code 417 = .ok (.aload_n 0, 1) := by decide +kernel
theorem d_law_418 : decode code 418 = .ok (.iload_n 3, 1) := by decide +kernel
theorem d_law_419 : decode code 419 = .ok (.iconst 2, 1) := by decide +kernel
theorem d_law_420 : decode code 420 = .ok (.iadd, 1) := by decide +kernel
theorem d_law_421 : decode code 421 = .ok (.iaload, 1) := by decide +kernel
theorem d_law_422 : decode code 422 = .ok (.i2l, 1) := by decide +kernel
theorem k_law_45 : Cond.constantLong R_law 45 (4294967295) ∈ dk_tb := dk_in (List.mem_of_getElem? (i := 1397) (by decide +kernel)) rfl
theorem d_law_423 : decode code 423 = .ok (.ldc2_w 45, 3) := by decide +kernel
theorem d_law_426 : decode code 426 = .ok (.land, 1) := by decide +kernel
theorem d_law_427 : decode code 427 = .ok (.lor, 1) := by decide +kernel
theorem d_law_428 : decode code 428 = .ok (.aload_n 0, 1) := by decide +kernel
theorem d_law_429 : decode code 429 = .ok (.iload_n 3, 1) := by decide +kernel
theorem d_law_430 : decode code 430 = .ok (.iconst 3, 1) := by decide +kernel
theorem d_law_431 : decode code 431 = .ok (.iadd, 1) := by decide +kernel
theorem d_law_432 : decode code 432 = .ok (.iaload, 1) := by decide +kernel
theorem m_law_47 : Cond.methodLink R_law 47 y_Hare_feed ∈ dk_tb := dk_in (List.mem_of_getElem? (i := 473) (by decide +kernel)) rfl
theorem d_law_433 : decode code 433 = .ok (.invokevirtual 47, 3) := by decide +kernel
theorem d_law_436 : decode code 436 = .ok (.aload_n 2, 1) := by decide +kernel
theorem d_law_437 : decode code 437 = .ok (.aload_n 0, 1) := by decide +kernel
theorem d_law_438 : decode code 438 = .ok (.iload_n 3, 1) := by decide +kernel
theorem d_law_439 : decode code 439 = .ok (.iconst 1, 1) := by decide +kernel
theorem d_law_440 : decode code 440 = .ok (.iadd, 1) := by decide +kernel
theorem d_law_441 : decode code 441 = .ok (.iaload, 1) := by decide +kernel
theorem d_law_442 : decode code 442 = .ok (.i2l, 1) := by decide +kernel
theorem d_law_443 : decode code 443 = .ok (.bipush 32, 2) := by decide +kernel
theorem d_law_445 : decode code 445 = .ok (.lshl, 1) := by decide +kernel
theorem d_law_446 : decode code 446 = .ok (.aload_n 0, 1) := by decide +kernel
theorem d_law_447 : decode code 447 = .ok (.iload_n 3, 1) := by decide +kernel
theorem d_law_448 : decode code 448 = .ok (.iconst 2, 1) := by decide +kernel
theorem d_law_449 : decode code 449 = .ok (.iadd, 1) := by decide +kernel
theorem d_law_450 : decode code 450 = .ok (.iaload, 1) := by decide +kernel
theorem d_law_451 : decode code 451 = .ok (.i2l, 1) := by decide +kernel
theorem d_law_452 : decode code 452 = .ok (.ldc2_w 45, 3) := by decide +kernel
theorem d_law_455 : decode code 455 = .ok (.land, 1) := by decide +kernel
theorem d_law_456 : decode code 456 = .ok (.lor, 1) := by decide +kernel
theorem d_law_457 : decode code 457 = .ok (.aload_n 0, 1) := by decide +kernel
theorem d_law_458 : decode code 458 = .ok (.iload_n 3, 1) := by decide +kernel
theorem d_law_459 : decode code 459 = .ok (.iconst 3, 1) := by decide +kernel
theorem d_law_460 : decode code 460 = .ok (.iadd, 1) := by decide +kernel
theorem d_law_461 : decode code 461 = .ok (.iaload, 1) := by decide +kernel
theorem m_law_51 : Cond.methodLink R_law 51 y_Model_feed ∈ dk_tb := dk_in (List.mem_of_getElem? (i := 1166) (by decide +kernel)) rfl
theorem d_law_462 : decode code 462 = .ok (.invokevirtual 51, 3) := by decide +kernel
theorem d_law_465 : decode code 465 = .ok (.if_icmp .eq 778, 3) := by decide +kernel
theorem d_law_470 : decode code 470 = .ok (.aload_n 1, 1) := by decide +kernel
theorem m_law_52 : Cond.methodLink R_law 52 y_Hare_text ∈ dk_tb := dk_in (List.mem_of_getElem? (i := 481) (by decide +kernel)) rfl
theorem d_law_471 : decode code 471 = .ok (.invokevirtual 52, 3) := by decide +kernel
theorem d_law_474 : decode code 474 = .ok (.aload_n 2, 1) := by decide +kernel
theorem m_law_55 : Cond.methodLink R_law 55 y_Model_text ∈ dk_tb := dk_in (List.mem_of_getElem? (i := 1171) (by decide +kernel)) rfl
theorem d_law_475 : decode code 475 = .ok (.invokevirtual 55, 3) := by decide +kernel
theorem d_law_478 : decode code 478 = .ok (.if_icmp .eq 765, 3) := by decide +kernel
theorem d_law_483 : decode code 483 = .ok (.aload_n 1, 1) := by decide +kernel
theorem d_law_484 : decode code 484 = .ok (.aload_n 0, 1) := by decide +kernel
theorem d_law_485 : decode code 485 = .ok (.iload_n 3, 1) := by decide +kernel
theorem d_law_486 : decode code 486 = .ok (.iconst 1, 1) := by decide +kernel
theorem d_law_487 : decode code 487 = .ok (.iadd, 1) := by decide +kernel
theorem d_law_488 : decode code 488 = .ok (.iaload, 1) := by decide +kernel
theorem m_law_56 : Cond.methodLink R_law 56 y_Hare_force ∈ dk_tb := dk_in (List.mem_of_getElem? (i := 639) (by decide +kernel)) rfl
theorem d_law_489 : decode code 489 = .ok (.invokevirtual 56, 3) := by decide +kernel
theorem d_law_492 : decode code 492 = .ok (.aload_n 2, 1) := by decide +kernel
theorem d_law_493 : decode code 493 = .ok (.aload_n 0, 1) := by decide +kernel
theorem d_law_494 : decode code 494 = .ok (.iload_n 3, 1) := by decide +kernel
theorem d_law_495 : decode code 495 = .ok (.iconst 1, 1) := by decide +kernel
theorem d_law_496 : decode code 496 = .ok (.iadd, 1) := by decide +kernel
theorem d_law_497 : decode code 497 = .ok (.iaload, 1) := by decide +kernel
theorem m_law_59 : Cond.methodLink R_law 59 y_Model_force ∈ dk_tb := dk_in (List.mem_of_getElem? (i := 1215) (by decide +kernel)) rfl
theorem d_law_498 : decode code 498 = .ok (.invokevirtual 59, 3) := by decide +kernel
theorem d_law_501 : decode code 501 = .ok (.if_icmp .eq 742, 3) := by decide +kernel
theorem d_law_506 : decode code 506 = .ok (.aload_n 1, 1) := by decide +kernel
theorem d_law_507 : decode code 507 = .ok (.aload_n 0, 1) := by decide +kernel
theorem d_law_508 : decode code 508 = .ok (.iload_n 3, 1) := by decide +kernel
theorem d_law_509 : decode code 509 = .ok (.iconst 1, 1) := by decide +kernel
theorem d_law_510 : decode code 510 = .ok (.iadd, 1) := by decide +kernel
theorem d_law_511 : decode code 511 = .ok (.iaload, 1) := by decide +kernel
theorem d_law_512 : decode code 512 = .ok (.aload_n 0, 1) := by decide +kernel
theorem d_law_513 : decode code 513 = .ok (.iload_n 3, 1) := by decide +kernel
theorem d_law_514 : decode code 514 = .ok (.iconst 2, 1) := by decide +kernel
theorem d_law_515 : decode code 515 = .ok (.iadd, 1) := by decide +kernel
theorem d_law_516 : decode code 516 = .ok (.iaload, 1) := by decide +kernel
theorem d_law_517 : decode code 517 = .ok (.aload_n 0, 1) := by decide +kernel
theorem d_law_518 : decode code 518 = .ok (.iload_n 3, 1) := by decide +kernel
theorem d_law_519 : decode code 519 = .ok (.iconst 3, 1) := by decide +kernel
theorem d_law_520 : decode code 520 = .ok (.iadd, 1) := by decide +kernel
theorem d_law_521 : decode code 521 = .ok (.iaload, 1) := by decide +kernel
theorem m_law_60 : Cond.methodLink R_law 60 y_Hare_follow ∈ dk_tb := dk_in (List.mem_of_getElem? (i := 647) (by decide +kernel)) rfl
theorem d_law_522 : decode code 522 = .ok (.invokevirtual 60, 3) := by decide +kernel
theorem d_law_525 : decode code 525 = .ok (.aload_n 2, 1) := by decide +kernel
theorem d_law_526 : decode code 526 = .ok (.aload_n 0, 1) := by decide +kernel
theorem d_law_527 : decode code 527 = .ok (.iload_n 3, 1) := by decide +kernel
theorem d_law_528 : decode code 528 = .ok (.iconst 1, 1) := by decide +kernel
theorem d_law_529 : decode code 529 = .ok (.iadd, 1) := by decide +kernel
theorem d_law_530 : decode code 530 = .ok (.iaload, 1) := by decide +kernel
theorem d_law_531 : decode code 531 = .ok (.aload_n 0, 1) := by decide +kernel
theorem d_law_532 : decode code 532 = .ok (.iload_n 3, 1) := by decide +kernel
theorem d_law_533 : decode code 533 = .ok (.iconst 2, 1) := by decide +kernel
theorem d_law_534 : decode code 534 = .ok (.iadd, 1) := by decide +kernel
theorem d_law_535 : decode code 535 = .ok (.iaload, 1) := by decide +kernel
theorem d_law_536 : decode code 536 = .ok (.aload_n 0, 1) := by decide +kernel
theorem d_law_537 : decode code 537 = .ok (.iload_n 3, 1) := by decide +kernel
theorem d_law_538 : decode code 538 = .ok (.iconst 3, 1) := by decide +kernel
theorem d_law_539 : decode code 539 = .ok (.iadd, 1) := by decide +kernel
theorem d_law_540 : decode code 540 = .ok (.iaload, 1) := by decide +kernel
theorem m_law_64 : Cond.methodLink R_law 64 y_Model_follow ∈ dk_tb := dk_in (List.mem_of_getElem? (i := 1219) (by decide +kernel)) rfl
theorem d_law_541 : decode code 541 = .ok (.invokevirtual 64, 3) := by decide +kernel
theorem d_law_544 : decode code 544 = .ok (.if_icmp .eq 699, 3) := by decide +kernel
theorem d_law_549 : decode code 549 = .ok (.aload_n 1, 1) := by decide +kernel
theorem d_law_550 : decode code 550 = .ok (.aload_n 0, 1) := by decide +kernel
theorem d_law_551 : decode code 551 = .ok (.iload_n 3, 1) := by decide +kernel
theorem d_law_552 : decode code 552 = .ok (.iconst 1, 1) := by decide +kernel
theorem d_law_553 : decode code 553 = .ok (.iadd, 1) := by decide +kernel
theorem d_law_554 : decode code 554 = .ok (.iaload, 1) := by decide +kernel
theorem m_law_65 : Cond.methodLink R_law 65 y_Hare_claims ∈ dk_tb := dk_in (List.mem_of_getElem? (i := 677) (by decide +kernel)) rfl
theorem d_law_555 : decode code 555 = .ok (.invokevirtual 65, 3) := by decide +kernel
theorem d_law_558 : decode code 558 = .ok (.aload_n 2, 1) := by decide +kernel
theorem d_law_559 : decode code 559 = .ok (.aload_n 0, 1) := by decide +kernel
theorem d_law_560 : decode code 560 = .ok (.iload_n 3, 1) := by decide +kernel
theorem d_law_561 : decode code 561 = .ok (.iconst 1, 1) := by decide +kernel
theorem d_law_562 : decode code 562 = .ok (.iadd, 1) := by decide +kernel
theorem d_law_563 : decode code 563 = .ok (.iaload, 1) := by decide +kernel
theorem m_law_68 : Cond.methodLink R_law 68 y_Model_claims ∈ dk_tb := dk_in (List.mem_of_getElem? (i := 1238) (by decide +kernel)) rfl
theorem d_law_564 : decode code 564 = .ok (.invokevirtual 68, 3) := by decide +kernel
theorem d_law_567 : decode code 567 = .ok (.if_icmp .eq 676, 3) := by decide +kernel
theorem d_law_572 : decode code 572 = .ok (.aload_n 1, 1) := by decide +kernel
theorem d_law_573 : decode code 573 = .ok (.aload_n 0, 1) := by decide +kernel
theorem d_law_574 : decode code 574 = .ok (.iload_n 3, 1) := by decide +kernel
theorem d_law_575 : decode code 575 = .ok (.iconst 1, 1) := by decide +kernel
theorem d_law_576 : decode code 576 = .ok (.iadd, 1) := by decide +kernel
theorem d_law_577 : decode code 577 = .ok (.iaload, 1) := by decide +kernel
theorem d_law_578 : decode code 578 = .ok (.aload_n 0, 1) := by decide +kernel
theorem d_law_579 : decode code 579 = .ok (.iload_n 3, 1) := by decide +kernel
theorem d_law_580 : decode code 580 = .ok (.iconst 2, 1) := by decide +kernel
theorem d_law_581 : decode code 581 = .ok (.iadd, 1) := by decide +kernel
theorem d_law_582 : decode code 582 = .ok (.iaload, 1) := by decide +kernel
theorem d_law_583 : decode code 583 = .ok (.aload_n 0, 1) := by decide +kernel
theorem d_law_584 : decode code 584 = .ok (.iload_n 3, 1) := by decide +kernel
theorem d_law_585 : decode code 585 = .ok (.iconst 3, 1) := by decide +kernel
theorem d_law_586 : decode code 586 = .ok (.iadd, 1) := by decide +kernel
theorem d_law_587 : decode code 587 = .ok (.iaload, 1) := by decide +kernel
theorem m_law_69 : Cond.methodLink R_law 69 y_Hare_claimTold ∈ dk_tb := dk_in (List.mem_of_getElem? (i := 739) (by decide +kernel)) rfl
theorem d_law_588 : decode code 588 = .ok (.invokevirtual 69, 3) := by decide +kernel
theorem d_law_591 : decode code 591 = .ok (.aload_n 2, 1) := by decide +kernel
theorem d_law_592 : decode code 592 = .ok (.aload_n 0, 1) := by decide +kernel
theorem d_law_593 : decode code 593 = .ok (.iload_n 3, 1) := by decide +kernel
theorem d_law_594 : decode code 594 = .ok (.iconst 1, 1) := by decide +kernel
theorem d_law_595 : decode code 595 = .ok (.iadd, 1) := by decide +kernel
theorem d_law_596 : decode code 596 = .ok (.iaload, 1) := by decide +kernel
theorem d_law_597 : decode code 597 = .ok (.aload_n 0, 1) := by decide +kernel
theorem d_law_598 : decode code 598 = .ok (.iload_n 3, 1) := by decide +kernel
theorem d_law_599 : decode code 599 = .ok (.iconst 2, 1) := by decide +kernel
theorem d_law_600 : decode code 600 = .ok (.iadd, 1) := by decide +kernel
theorem d_law_601 : decode code 601 = .ok (.iaload, 1) := by decide +kernel
theorem d_law_602 : decode code 602 = .ok (.aload_n 0, 1) := by decide +kernel
theorem d_law_603 : decode code 603 = .ok (.iload_n 3, 1) := by decide +kernel
theorem d_law_604 : decode code 604 = .ok (.iconst 3, 1) := by decide +kernel
theorem d_law_605 : decode code 605 = .ok (.iadd, 1) := by decide +kernel
theorem d_law_606 : decode code 606 = .ok (.iaload, 1) := by decide +kernel
theorem m_law_72 : Cond.methodLink R_law 72 y_Model_claimTold ∈ dk_tb := dk_in (List.mem_of_getElem? (i := 1262) (by decide +kernel)) rfl
theorem d_law_607 : decode code 607 = .ok (.invokevirtual 72, 3) := by decide +kernel
theorem d_law_610 : decode code 610 = .ok (.if_icmp .eq 633, 3) := by decide +kernel
theorem d_law_615 : decode code 615 = .ok (.aload_n 1, 1) := by decide +kernel
theorem d_law_616 : decode code 616 = .ok (.aload_n 0, 1) := by decide +kernel
theorem d_law_617 : decode code 617 = .ok (.iload_n 3, 1) := by decide +kernel
theorem d_law_618 : decode code 618 = .ok (.iconst 1, 1) := by decide +kernel
theorem d_law_619 : decode code 619 = .ok (.iadd, 1) := by decide +kernel
theorem d_law_620 : decode code 620 = .ok (.iaload, 1) := by decide +kernel
theorem d_law_621 : decode code 621 = .ok (.aload_n 0, 1) := by decide +kernel
theorem d_law_622 : decode code 622 = .ok (.iload_n 3, 1) := by decide +kernel
theorem d_law_623 : decode code 623 = .ok (.iconst 2, 1) := by decide +kernel
theorem d_law_624 : decode code 624 = .ok (.iadd, 1) := by decide +kernel
theorem d_law_625 : decode code 625 = .ok (.iaload, 1) := by decide +kernel
theorem m_law_73 : Cond.methodLink R_law 73 y_Hare_whoseIs ∈ dk_tb := dk_in (List.mem_of_getElem? (i := 777) (by decide +kernel)) rfl
theorem d_law_626 : decode code 626 = .ok (.invokevirtual 73, 3) := by decide +kernel
theorem d_law_629 : decode code 629 = .ok (.aload_n 2, 1) := by decide +kernel
theorem d_law_630 : decode code 630 = .ok (.aload_n 0, 1) := by decide +kernel
theorem d_law_631 : decode code 631 = .ok (.iload_n 3, 1) := by decide +kernel
theorem d_law_632 : decode code 632 = .ok (.iconst 1, 1) := by decide +kernel
theorem d_law_633 : decode code 633 = .ok (.iadd, 1) := by decide +kernel
theorem d_law_634 : decode code 634 = .ok (.iaload, 1) := by decide +kernel
theorem d_law_635 : decode code 635 = .ok (.aload_n 0, 1) := by decide +kernel
theorem d_law_636 : decode code 636 = .ok (.iload_n 3, 1) := by decide +kernel
theorem d_law_637 : decode code 637 = .ok (.iconst 2, 1) := by decide +kernel
theorem d_law_638 : decode code 638 = .ok (.iadd, 1) := by decide +kernel
theorem d_law_639 : decode code 639 = .ok (.iaload, 1) := by decide +kernel
theorem m_law_76 : Cond.methodLink R_law 76 y_Model_whoseIs ∈ dk_tb := dk_in (List.mem_of_getElem? (i := 1282) (by decide +kernel)) rfl
theorem d_law_640 : decode code 640 = .ok (.invokevirtual 76, 3) := by decide +kernel
theorem d_law_643 : decode code 643 = .ok (.if_icmp .eq 600, 3) := by decide +kernel
theorem d_law_648 : decode code 648 = .ok (.aload_n 1, 1) := by decide +kernel
theorem d_law_649 : decode code 649 = .ok (.aload_n 0, 1) := by decide +kernel
theorem d_law_650 : decode code 650 = .ok (.iload_n 3, 1) := by decide +kernel
theorem d_law_651 : decode code 651 = .ok (.iconst 1, 1) := by decide +kernel
theorem d_law_652 : decode code 652 = .ok (.iadd, 1) := by decide +kernel
theorem d_law_653 : decode code 653 = .ok (.iaload, 1) := by decide +kernel
theorem d_law_654 : decode code 654 = .ok (.aload_n 0, 1) := by decide +kernel
theorem d_law_655 : decode code 655 = .ok (.iload_n 3, 1) := by decide +kernel
theorem d_law_656 : decode code 656 = .ok (.iconst 2, 1) := by decide +kernel
theorem d_law_657 : decode code 657 = .ok (.iadd, 1) := by decide +kernel
theorem d_law_658 : decode code 658 = .ok (.iaload, 1) := by decide +kernel
theorem m_law_77 : Cond.methodLink R_law 77 y_Hare_why ∈ dk_tb := dk_in (List.mem_of_getElem? (i := 791) (by decide +kernel)) rfl
theorem d_law_659 : decode code 659 = .ok (.invokevirtual 77, 3) := by decide +kernel
theorem d_law_662 : decode code 662 = .ok (.aload_n 2, 1) := by decide +kernel
theorem d_law_663 : decode code 663 = .ok (.aload_n 0, 1) := by decide +kernel
theorem d_law_664 : decode code 664 = .ok (.iload_n 3, 1) := by decide +kernel
theorem d_law_665 : decode code 665 = .ok (.iconst 1, 1) := by decide +kernel
theorem d_law_666 : decode code 666 = .ok (.iadd, 1) := by decide +kernel
theorem d_law_667 : decode code 667 = .ok (.iaload, 1) := by decide +kernel
theorem d_law_668 : decode code 668 = .ok (.aload_n 0, 1) := by decide +kernel
theorem d_law_669 : decode code 669 = .ok (.iload_n 3, 1) := by decide +kernel
theorem d_law_670 : decode code 670 = .ok (.iconst 2, 1) := by decide +kernel
theorem d_law_671 : decode code 671 = .ok (.iadd, 1) := by decide +kernel
theorem d_law_672 : decode code 672 = .ok (.iaload, 1) := by decide +kernel
theorem m_law_80 : Cond.methodLink R_law 80 y_Model_why ∈ dk_tb := dk_in (List.mem_of_getElem? (i := 1294) (by decide +kernel)) rfl
theorem d_law_673 : decode code 673 = .ok (.invokevirtual 80, 3) := by decide +kernel
theorem d_law_676 : decode code 676 = .ok (.if_icmp .eq 567, 3) := by decide +kernel
theorem d_law_681 : decode code 681 = .ok (.aload_n 1, 1) := by decide +kernel
theorem d_law_682 : decode code 682 = .ok (.aload_n 0, 1) := by decide +kernel
theorem d_law_683 : decode code 683 = .ok (.iload_n 3, 1) := by decide +kernel
theorem d_law_684 : decode code 684 = .ok (.iconst 1, 1) := by decide +kernel
theorem d_law_685 : decode code 685 = .ok (.iadd, 1) := by decide +kernel
theorem d_law_686 : decode code 686 = .ok (.iaload, 1) := by decide +kernel
theorem d_law_687 : decode code 687 = .ok (.aload_n 0, 1) := by decide +kernel
theorem d_law_688 : decode code 688 = .ok (.iload_n 3, 1) := by decide +kernel
theorem d_law_689 : decode code 689 = .ok (.iconst 2, 1) := by decide +kernel
theorem d_law_690 : decode code 690 = .ok (.iadd, 1) := by decide +kernel
theorem d_law_691 : decode code 691 = .ok (.iaload, 1) := by decide +kernel
theorem d_law_692 : decode code 692 = .ok (.aload_n 0, 1) := by decide +kernel
theorem d_law_693 : decode code 693 = .ok (.iload_n 3, 1) := by decide +kernel
theorem d_law_694 : decode code 694 = .ok (.iconst 3, 1) := by decide +kernel
theorem d_law_695 : decode code 695 = .ok (.iadd, 1) := by decide +kernel
theorem d_law_696 : decode code 696 = .ok (.iaload, 1) := by decide +kernel
theorem m_law_81 : Cond.methodLink R_law 81 y_Hare_where ∈ dk_tb := dk_in (List.mem_of_getElem? (i := 796) (by decide +kernel)) rfl
theorem d_law_697 : decode code 697 = .ok (.invokevirtual 81, 3) := by decide +kernel
theorem d_law_700 : decode code 700 = .ok (.aload_n 2, 1) := by decide +kernel
theorem d_law_701 : decode code 701 = .ok (.aload_n 0, 1) := by decide +kernel
theorem d_law_702 : decode code 702 = .ok (.iload_n 3, 1) := by decide +kernel
theorem d_law_703 : decode code 703 = .ok (.iconst 1, 1) := by decide +kernel
theorem d_law_704 : decode code 704 = .ok (.iadd, 1) := by decide +kernel
theorem d_law_705 : decode code 705 = .ok (.iaload, 1) := by decide +kernel
theorem d_law_706 : decode code 706 = .ok (.aload_n 0, 1) := by decide +kernel
theorem d_law_707 : decode code 707 = .ok (.iload_n 3, 1) := by decide +kernel
theorem d_law_708 : decode code 708 = .ok (.iconst 2, 1) := by decide +kernel
theorem d_law_709 : decode code 709 = .ok (.iadd, 1) := by decide +kernel
theorem d_law_710 : decode code 710 = .ok (.iaload, 1) := by decide +kernel
theorem d_law_711 : decode code 711 = .ok (.aload_n 0, 1) := by decide +kernel
theorem d_law_712 : decode code 712 = .ok (.iload_n 3, 1) := by decide +kernel
theorem d_law_713 : decode code 713 = .ok (.iconst 3, 1) := by decide +kernel
theorem d_law_714 : decode code 714 = .ok (.iadd, 1) := by decide +kernel
theorem d_law_715 : decode code 715 = .ok (.iaload, 1) := by decide +kernel
theorem m_law_84 : Cond.methodLink R_law 84 y_Model_where ∈ dk_tb := dk_in (List.mem_of_getElem? (i := 1298) (by decide +kernel)) rfl
theorem d_law_716 : decode code 716 = .ok (.invokevirtual 84, 3) := by decide +kernel
theorem d_law_719 : decode code 719 = .ok (.if_icmp .eq 524, 3) := by decide +kernel
theorem d_law_724 : decode code 724 = .ok (.aload_n 1, 1) := by decide +kernel
theorem d_law_725 : decode code 725 = .ok (.aload_n 0, 1) := by decide +kernel
theorem d_law_726 : decode code 726 = .ok (.iload_n 3, 1) := by decide +kernel
theorem d_law_727 : decode code 727 = .ok (.iconst 1, 1) := by decide +kernel
theorem d_law_728 : decode code 728 = .ok (.iadd, 1) := by decide +kernel
theorem d_law_729 : decode code 729 = .ok (.iaload, 1) := by decide +kernel
theorem m_law_85 : Cond.methodLink R_law 85 y_Hare_nobody ∈ dk_tb := dk_in (List.mem_of_getElem? (i := 800) (by decide +kernel)) rfl
theorem d_law_730 : decode code 730 = .ok (.invokevirtual 85, 3) := by decide +kernel
theorem d_law_733 : decode code 733 = .ok (.aload_n 2, 1) := by decide +kernel
theorem d_law_734 : decode code 734 = .ok (.aload_n 0, 1) := by decide +kernel
theorem d_law_735 : decode code 735 = .ok (.iload_n 3, 1) := by decide +kernel
theorem d_law_736 : decode code 736 = .ok (.iconst 1, 1) := by decide +kernel
theorem d_law_737 : decode code 737 = .ok (.iadd, 1) := by decide +kernel
theorem d_law_738 : decode code 738 = .ok (.iaload, 1) := by decide +kernel
theorem m_law_88 : Cond.methodLink R_law 88 y_Model_nobody ∈ dk_tb := dk_in (List.mem_of_getElem? (i := 1302) (by decide +kernel)) rfl
theorem d_law_739 : decode code 739 = .ok (.invokevirtual 88, 3) := by decide +kernel
theorem d_law_742 : decode code 742 = .ok (.if_icmp .eq 501, 3) := by decide +kernel
theorem d_law_747 : decode code 747 = .ok (.aload_n 1, 1) := by decide +kernel
theorem d_law_748 : decode code 748 = .ok (.aload_n 0, 1) := by decide +kernel
theorem d_law_749 : decode code 749 = .ok (.iload_n 3, 1) := by decide +kernel
theorem d_law_750 : decode code 750 = .ok (.iconst 1, 1) := by decide +kernel
theorem d_law_751 : decode code 751 = .ok (.iadd, 1) := by decide +kernel
theorem d_law_752 : decode code 752 = .ok (.iaload, 1) := by decide +kernel
theorem d_law_753 : decode code 753 = .ok (.aload_n 0, 1) := by decide +kernel
theorem d_law_754 : decode code 754 = .ok (.iload_n 3, 1) := by decide +kernel
theorem d_law_755 : decode code 755 = .ok (.iconst 2, 1) := by decide +kernel
theorem d_law_756 : decode code 756 = .ok (.iadd, 1) := by decide +kernel
theorem d_law_757 : decode code 757 = .ok (.iaload, 1) := by decide +kernel
theorem m_law_89 : Cond.methodLink R_law 89 y_Hare_judge ∈ dk_tb := dk_in (List.mem_of_getElem? (i := 808) (by decide +kernel)) rfl
theorem d_law_758 : decode code 758 = .ok (.invokevirtual 89, 3) := by decide +kernel
theorem d_law_761 : decode code 761 = .ok (.aload_n 2, 1) := by decide +kernel
theorem d_law_762 : decode code 762 = .ok (.aload_n 0, 1) := by decide +kernel
theorem d_law_763 : decode code 763 = .ok (.iload_n 3, 1) := by decide +kernel
theorem d_law_764 : decode code 764 = .ok (.iconst 1, 1) := by decide +kernel
theorem d_law_765 : decode code 765 = .ok (.iadd, 1) := by decide +kernel
theorem d_law_766 : decode code 766 = .ok (.iaload, 1) := by decide +kernel
theorem d_law_767 : decode code 767 = .ok (.aload_n 0, 1) := by decide +kernel
theorem d_law_768 : decode code 768 = .ok (.iload_n 3, 1) := by decide +kernel
theorem d_law_769 : decode code 769 = .ok (.iconst 2, 1) := by decide +kernel
theorem d_law_770 : decode code 770 = .ok (.iadd, 1) := by decide +kernel
theorem d_law_771 : decode code 771 = .ok (.iaload, 1) := by decide +kernel
theorem m_law_92 : Cond.methodLink R_law 92 y_Model_judge ∈ dk_tb := dk_in (List.mem_of_getElem? (i := 1310) (by decide +kernel)) rfl
theorem d_law_772 : decode code 772 = .ok (.invokevirtual 92, 3) := by decide +kernel
theorem d_law_775 : decode code 775 = .ok (.if_icmp .eq 468, 3) := by decide +kernel
theorem d_law_780 : decode code 780 = .ok (.aload_n 1, 1) := by decide +kernel
theorem d_law_781 : decode code 781 = .ok (.aload_n 0, 1) := by decide +kernel
theorem d_law_782 : decode code 782 = .ok (.iload_n 3, 1) := by decide +kernel
theorem d_law_783 : decode code 783 = .ok (.iconst 1, 1) := by decide +kernel
theorem d_law_784 : decode code 784 = .ok (.iadd, 1) := by decide +kernel
theorem d_law_785 : decode code 785 = .ok (.iaload, 1) := by decide +kernel
theorem m_law_93 : Cond.methodLink R_law 93 y_Hare_may ∈ dk_tb := dk_in (List.mem_of_getElem? (i := 821) (by decide +kernel)) rfl
theorem d_law_786 : decode code 786 = .ok (.invokevirtual 93, 3) := by decide +kernel
theorem d_law_789 : decode code 789 = .ok (.aload_n 2, 1) := by decide +kernel
theorem d_law_790 : decode code 790 = .ok (.aload_n 0, 1) := by decide +kernel
theorem d_law_791 : decode code 791 = .ok (.iload_n 3, 1) := by decide +kernel
theorem d_law_792 : decode code 792 = .ok (.iconst 1, 1) := by decide +kernel
theorem d_law_793 : decode code 793 = .ok (.iadd, 1) := by decide +kernel
theorem d_law_794 : decode code 794 = .ok (.iaload, 1) := by decide +kernel
theorem m_law_96 : Cond.methodLink R_law 96 y_Model_may ∈ dk_tb := dk_in (List.mem_of_getElem? (i := 1314) (by decide +kernel)) rfl
theorem d_law_795 : decode code 795 = .ok (.invokevirtual 96, 3) := by decide +kernel
theorem d_law_798 : decode code 798 = .ok (.if_icmp .eq 445, 3) := by decide +kernel
theorem d_law_803 : decode code 803 = .ok (.aload_n 1, 1) := by decide +kernel
theorem d_law_804 : decode code 804 = .ok (.aload_n 0, 1) := by decide +kernel
theorem d_law_805 : decode code 805 = .ok (.iload_n 3, 1) := by decide +kernel
theorem d_law_806 : decode code 806 = .ok (.iconst 1, 1) := by decide +kernel
theorem d_law_807 : decode code 807 = .ok (.iadd, 1) := by decide +kernel
theorem d_law_808 : decode code 808 = .ok (.iaload, 1) := by decide +kernel
theorem m_law_97 : Cond.methodLink R_law 97 y_Hare_hangs ∈ dk_tb := dk_in (List.mem_of_getElem? (i := 833) (by decide +kernel)) rfl
theorem d_law_809 : decode code 809 = .ok (.invokevirtual 97, 3) := by decide +kernel
theorem d_law_812 : decode code 812 = .ok (.aload_n 2, 1) := by decide +kernel
theorem d_law_813 : decode code 813 = .ok (.aload_n 0, 1) := by decide +kernel
theorem d_law_814 : decode code 814 = .ok (.iload_n 3, 1) := by decide +kernel
theorem d_law_815 : decode code 815 = .ok (.iconst 1, 1) := by decide +kernel
theorem d_law_816 : decode code 816 = .ok (.iadd, 1) := by decide +kernel
theorem d_law_817 : decode code 817 = .ok (.iaload, 1) := by decide +kernel
theorem m_law_100 : Cond.methodLink R_law 100 y_Model_hangs ∈ dk_tb := dk_in (List.mem_of_getElem? (i := 1326) (by decide +kernel)) rfl
theorem d_law_818 : decode code 818 = .ok (.invokevirtual 100, 3) := by decide +kernel
theorem d_law_821 : decode code 821 = .ok (.if_icmp .eq 422, 3) := by decide +kernel
theorem d_law_826 : decode code 826 = .ok (.aload_n 1, 1) := by decide +kernel
theorem d_law_827 : decode code 827 = .ok (.aload_n 0, 1) := by decide +kernel
theorem d_law_828 : decode code 828 = .ok (.iload_n 3, 1) := by decide +kernel
theorem d_law_829 : decode code 829 = .ok (.iconst 1, 1) := by decide +kernel
theorem d_law_830 : decode code 830 = .ok (.iadd, 1) := by decide +kernel
theorem d_law_831 : decode code 831 = .ok (.iaload, 1) := by decide +kernel
theorem d_law_832 : decode code 832 = .ok (.aload_n 0, 1) := by decide +kernel
theorem d_law_833 : decode code 833 = .ok (.iload_n 3, 1) := by decide +kernel
theorem d_law_834 : decode code 834 = .ok (.iconst 2, 1) := by decide +kernel
theorem d_law_835 : decode code 835 = .ok (.iadd, 1) := by decide +kernel
theorem d_law_836 : decode code 836 = .ok (.iaload, 1) := by decide +kernel
theorem m_law_101 : Cond.methodLink R_law 101 y_Hare_least ∈ dk_tb := dk_in (List.mem_of_getElem? (i := 837) (by decide +kernel)) rfl
theorem d_law_837 : decode code 837 = .ok (.invokevirtual 101, 3) := by decide +kernel
theorem d_law_840 : decode code 840 = .ok (.aload_n 2, 1) := by decide +kernel
theorem d_law_841 : decode code 841 = .ok (.aload_n 0, 1) := by decide +kernel
theorem d_law_842 : decode code 842 = .ok (.iload_n 3, 1) := by decide +kernel
theorem d_law_843 : decode code 843 = .ok (.iconst 1, 1) := by decide +kernel
theorem d_law_844 : decode code 844 = .ok (.iadd, 1) := by decide +kernel
theorem d_law_845 : decode code 845 = .ok (.iaload, 1) := by decide +kernel
theorem d_law_846 : decode code 846 = .ok (.aload_n 0, 1) := by decide +kernel
theorem d_law_847 : decode code 847 = .ok (.iload_n 3, 1) := by decide +kernel
theorem d_law_848 : decode code 848 = .ok (.iconst 2, 1) := by decide +kernel
theorem d_law_849 : decode code 849 = .ok (.iadd, 1) := by decide +kernel
theorem d_law_850 : decode code 850 = .ok (.iaload, 1) := by decide +kernel
theorem m_law_104 : Cond.methodLink R_law 104 y_Model_least ∈ dk_tb := dk_in (List.mem_of_getElem? (i := 1330) (by decide +kernel)) rfl
theorem d_law_851 : decode code 851 = .ok (.invokevirtual 104, 3) := by decide +kernel
theorem d_law_854 : decode code 854 = .ok (.if_icmp .eq 389, 3) := by decide +kernel
theorem d_law_859 : decode code 859 = .ok (.aload_n 1, 1) := by decide +kernel
theorem d_law_860 : decode code 860 = .ok (.aload_n 0, 1) := by decide +kernel
theorem d_law_861 : decode code 861 = .ok (.iload_n 3, 1) := by decide +kernel
theorem d_law_862 : decode code 862 = .ok (.iconst 1, 1) := by decide +kernel
theorem d_law_863 : decode code 863 = .ok (.iadd, 1) := by decide +kernel
theorem d_law_864 : decode code 864 = .ok (.iaload, 1) := by decide +kernel
theorem d_law_865 : decode code 865 = .ok (.aload_n 0, 1) := by decide +kernel
theorem d_law_866 : decode code 866 = .ok (.iload_n 3, 1) := by decide +kernel
theorem d_law_867 : decode code 867 = .ok (.iconst 2, 1) := by decide +kernel
theorem d_law_868 : decode code 868 = .ok (.iadd, 1) := by decide +kernel
theorem d_law_869 : decode code 869 = .ok (.iaload, 1) := by decide +kernel
theorem d_law_870 : decode code 870 = .ok (.aload_n 0, 1) := by decide +kernel
theorem d_law_871 : decode code 871 = .ok (.iload_n 3, 1) := by decide +kernel
theorem d_law_872 : decode code 872 = .ok (.iconst 3, 1) := by decide +kernel
theorem d_law_873 : decode code 873 = .ok (.iadd, 1) := by decide +kernel
theorem d_law_874 : decode code 874 = .ok (.iaload, 1) := by decide +kernel
theorem d_law_875 : decode code 875 = .ok (.aload_n 0, 1) := by decide +kernel
theorem d_law_876 : decode code 876 = .ok (.iload_n 3, 1) := by decide +kernel
theorem d_law_877 : decode code 877 = .ok (.iconst 4, 1) := by decide +kernel
theorem d_law_878 : decode code 878 = .ok (.iadd, 1) := by decide +kernel
theorem d_law_879 : decode code 879 = .ok (.iaload, 1) := by decide +kernel
theorem m_law_105 : Cond.methodLink R_law 105 y_Hare_share ∈ dk_tb := dk_in (List.mem_of_getElem? (i := 847) (by decide +kernel)) rfl
theorem d_law_880 : decode code 880 = .ok (.invokevirtual 105, 3) := by decide +kernel
theorem d_law_883 : decode code 883 = .ok (.aload_n 2, 1) := by decide +kernel
theorem d_law_884 : decode code 884 = .ok (.aload_n 0, 1) := by decide +kernel
theorem d_law_885 : decode code 885 = .ok (.iload_n 3, 1) := by decide +kernel
theorem d_law_886 : decode code 886 = .ok (.iconst 1, 1) := by decide +kernel
theorem d_law_887 : decode code 887 = .ok (.iadd, 1) := by decide +kernel
theorem d_law_888 : decode code 888 = .ok (.iaload, 1) := by decide +kernel
theorem d_law_889 : decode code 889 = .ok (.aload_n 0, 1) := by decide +kernel
theorem d_law_890 : decode code 890 = .ok (.iload_n 3, 1) := by decide +kernel
theorem d_law_891 : decode code 891 = .ok (.iconst 2, 1) := by decide +kernel
theorem d_law_892 : decode code 892 = .ok (.iadd, 1) := by decide +kernel
theorem d_law_893 : decode code 893 = .ok (.iaload, 1) := by decide +kernel
theorem d_law_894 : decode code 894 = .ok (.aload_n 0, 1) := by decide +kernel
theorem d_law_895 : decode code 895 = .ok (.iload_n 3, 1) := by decide +kernel
theorem d_law_896 : decode code 896 = .ok (.iconst 3, 1) := by decide +kernel
theorem d_law_897 : decode code 897 = .ok (.iadd, 1) := by decide +kernel
theorem d_law_898 : decode code 898 = .ok (.iaload, 1) := by decide +kernel
theorem d_law_899 : decode code 899 = .ok (.aload_n 0, 1) := by decide +kernel
theorem d_law_900 : decode code 900 = .ok (.iload_n 3, 1) := by decide +kernel
theorem d_law_901 : decode code 901 = .ok (.iconst 4, 1) := by decide +kernel
theorem d_law_902 : decode code 902 = .ok (.iadd, 1) := by decide +kernel
theorem d_law_903 : decode code 903 = .ok (.iaload, 1) := by decide +kernel
theorem m_law_109 : Cond.methodLink R_law 109 y_Model_share ∈ dk_tb := dk_in (List.mem_of_getElem? (i := 1337) (by decide +kernel)) rfl
theorem d_law_904 : decode code 904 = .ok (.invokevirtual 109, 3) := by decide +kernel
theorem d_law_907 : decode code 907 = .ok (.lcmp, 1) := by decide +kernel
theorem d_law_908 : decode code 908 = .ok (.ifCond .eq 335, 3) := by decide +kernel
theorem d_law_913 : decode code 913 = .ok (.aload_n 1, 1) := by decide +kernel
theorem d_law_914 : decode code 914 = .ok (.aload_n 0, 1) := by decide +kernel
theorem d_law_915 : decode code 915 = .ok (.iload_n 3, 1) := by decide +kernel
theorem d_law_916 : decode code 916 = .ok (.iconst 1, 1) := by decide +kernel
theorem d_law_917 : decode code 917 = .ok (.iadd, 1) := by decide +kernel
theorem d_law_918 : decode code 918 = .ok (.iaload, 1) := by decide +kernel
theorem m_law_110 : Cond.methodLink R_law 110 y_Hare_quarrel ∈ dk_tb := dk_in (List.mem_of_getElem? (i := 855) (by decide +kernel)) rfl
theorem d_law_919 : decode code 919 = .ok (.invokevirtual 110, 3) := by decide +kernel
theorem d_law_922 : decode code 922 = .ok (.aload_n 2, 1) := by decide +kernel
theorem d_law_923 : decode code 923 = .ok (.aload_n 0, 1) := by decide +kernel
theorem d_law_924 : decode code 924 = .ok (.iload_n 3, 1) := by decide +kernel
theorem d_law_925 : decode code 925 = .ok (.iconst 1, 1) := by decide +kernel
theorem d_law_926 : decode code 926 = .ok (.iadd, 1) := by decide +kernel
theorem d_law_927 : decode code 927 = .ok (.iaload, 1) := by decide +kernel
theorem m_law_113 : Cond.methodLink R_law 113 y_Model_quarrel ∈ dk_tb := dk_in (List.mem_of_getElem? (i := 1345) (by decide +kernel)) rfl
theorem d_law_928 : decode code 928 = .ok (.invokevirtual 113, 3) := by decide +kernel
theorem d_law_931 : decode code 931 = .ok (.if_icmp .eq 312, 3) := by decide +kernel
theorem d_law_936 : decode code 936 = .ok (.aload_n 1, 1) := by decide +kernel
theorem d_law_937 : decode code 937 = .ok (.aload_n 0, 1) := by decide +kernel
theorem d_law_938 : decode code 938 = .ok (.iload_n 3, 1) := by decide +kernel
theorem d_law_939 : decode code 939 = .ok (.iconst 1, 1) := by decide +kernel
theorem d_law_940 : decode code 940 = .ok (.iadd, 1) := by decide +kernel
theorem d_law_941 : decode code 941 = .ok (.iaload, 1) := by decide +kernel
theorem m_law_114 : Cond.methodLink R_law 114 y_Hare_custom ∈ dk_tb := dk_in (List.mem_of_getElem? (i := 859) (by decide +kernel)) rfl
theorem d_law_942 : decode code 942 = .ok (.invokevirtual 114, 3) := by decide +kernel
theorem d_law_945 : decode code 945 = .ok (.aload_n 2, 1) := by decide +kernel
theorem d_law_946 : decode code 946 = .ok (.aload_n 0, 1) := by decide +kernel
theorem d_law_947 : decode code 947 = .ok (.iload_n 3, 1) := by decide +kernel
theorem d_law_948 : decode code 948 = .ok (.iconst 1, 1) := by decide +kernel
theorem d_law_949 : decode code 949 = .ok (.iadd, 1) := by decide +kernel
theorem d_law_950 : decode code 950 = .ok (.iaload, 1) := by decide +kernel
theorem m_law_117 : Cond.methodLink R_law 117 y_Model_custom ∈ dk_tb := dk_in (List.mem_of_getElem? (i := 1357) (by decide +kernel)) rfl
theorem d_law_951 : decode code 951 = .ok (.invokevirtual 117, 3) := by decide +kernel
theorem d_law_954 : decode code 954 = .ok (.if_icmp .eq 289, 3) := by decide +kernel
theorem d_law_959 : decode code 959 = .ok (.aload_n 1, 1) := by decide +kernel
theorem d_law_960 : decode code 960 = .ok (.aload_n 0, 1) := by decide +kernel
theorem d_law_961 : decode code 961 = .ok (.iload_n 3, 1) := by decide +kernel
theorem d_law_962 : decode code 962 = .ok (.iconst 1, 1) := by decide +kernel
theorem d_law_963 : decode code 963 = .ok (.iadd, 1) := by decide +kernel
theorem d_law_964 : decode code 964 = .ok (.iaload, 1) := by decide +kernel
theorem m_law_118 : Cond.methodLink R_law 118 y_Hare_count ∈ dk_tb := dk_in (List.mem_of_getElem? (i := 863) (by decide +kernel)) rfl
theorem d_law_965 : decode code 965 = .ok (.invokevirtual 118, 3) := by decide +kernel
theorem d_law_968 : decode code 968 = .ok (.aload_n 2, 1) := by decide +kernel
theorem d_law_969 : decode code 969 = .ok (.aload_n 0, 1) := by decide +kernel
theorem d_law_970 : decode code 970 = .ok (.iload_n 3, 1) := by decide +kernel
theorem d_law_971 : decode code 971 = .ok (.iconst 1, 1) := by decide +kernel
theorem d_law_972 : decode code 972 = .ok (.iadd, 1) := by decide +kernel
theorem d_law_973 : decode code 973 = .ok (.iaload, 1) := by decide +kernel
theorem m_law_121 : Cond.methodLink R_law 121 y_Model_count ∈ dk_tb := dk_in (List.mem_of_getElem? (i := 1361) (by decide +kernel)) rfl
theorem d_law_974 : decode code 974 = .ok (.invokevirtual 121, 3) := by decide +kernel
theorem d_law_977 : decode code 977 = .ok (.if_icmp .eq 266, 3) := by decide +kernel
theorem d_law_982 : decode code 982 = .ok (.aload_n 1, 1) := by decide +kernel
theorem m_law_122 : Cond.methodLink R_law 122 y_Hare_image ∈ dk_tb := dk_in (List.mem_of_getElem? (i := 867) (by decide +kernel)) rfl
theorem d_law_983 : decode code 983 = .ok (.invokevirtual 122, 3) := by decide +kernel
theorem d_law_986 : decode code 986 = .ok (.aload_n 2, 1) := by decide +kernel
theorem m_law_125 : Cond.methodLink R_law 125 y_Model_image ∈ dk_tb := dk_in (List.mem_of_getElem? (i := 1365) (by decide +kernel)) rfl
theorem d_law_987 : decode code 987 = .ok (.invokevirtual 125, 3) := by decide +kernel
theorem d_law_990 : decode code 990 = .ok (.if_icmp .eq 253, 3) := by decide +kernel
theorem d_law_995 : decode code 995 = .ok (.aload_n 1, 1) := by decide +kernel
theorem m_law_126 : Cond.methodLink R_law 126 y_Hare_back ∈ dk_tb := dk_in (List.mem_of_getElem? (i := 876) (by decide +kernel)) rfl
theorem d_law_996 : decode code 996 = .ok (.invokevirtual 126, 3) := by decide +kernel
theorem d_law_999 : decode code 999 = .ok (.aload_n 2, 1) := by decide +kernel
theorem m_law_129 : Cond.methodLink R_law 129 y_Model_back ∈ dk_tb := dk_in (List.mem_of_getElem? (i := 1369) (by decide +kernel)) rfl
theorem d_law_1000 : decode code 1000 = .ok (.invokevirtual 129, 3) := by decide +kernel
theorem d_law_1003 : decode code 1003 = .ok (.if_icmp .eq 240, 3) := by decide +kernel
theorem d_law_1008 : decode code 1008 = .ok (.aload_n 1, 1) := by decide +kernel
theorem d_law_1009 : decode code 1009 = .ok (.aload_n 0, 1) := by decide +kernel
theorem d_law_1010 : decode code 1010 = .ok (.iload_n 3, 1) := by decide +kernel
theorem d_law_1011 : decode code 1011 = .ok (.iconst 1, 1) := by decide +kernel
theorem d_law_1012 : decode code 1012 = .ok (.iadd, 1) := by decide +kernel
theorem d_law_1013 : decode code 1013 = .ok (.iaload, 1) := by decide +kernel
theorem d_law_1014 : decode code 1014 = .ok (.aload_n 0, 1) := by decide +kernel
theorem d_law_1015 : decode code 1015 = .ok (.iload_n 3, 1) := by decide +kernel
theorem d_law_1016 : decode code 1016 = .ok (.iconst 2, 1) := by decide +kernel
theorem d_law_1017 : decode code 1017 = .ok (.iadd, 1) := by decide +kernel
theorem d_law_1018 : decode code 1018 = .ok (.iaload, 1) := by decide +kernel
theorem d_law_1019 : decode code 1019 = .ok (.aload_n 0, 1) := by decide +kernel
theorem d_law_1020 : decode code 1020 = .ok (.iload_n 3, 1) := by decide +kernel
theorem d_law_1021 : decode code 1021 = .ok (.iconst 3, 1) := by decide +kernel
theorem d_law_1022 : decode code 1022 = .ok (.iadd, 1) := by decide +kernel
theorem d_law_1023 : decode code 1023 = .ok (.iaload, 1) := by decide +kernel
theorem m_law_130 : Cond.methodLink R_law 130 y_Hare_sheet ∈ dk_tb := dk_in (List.mem_of_getElem? (i := 885) (by decide +kernel)) rfl
theorem d_law_1024 : decode code 1024 = .ok (.invokevirtual 130, 3) := by decide +kernel
theorem d_law_1027 : decode code 1027 = .ok (.aload_n 2, 1) := by decide +kernel
theorem d_law_1028 : decode code 1028 = .ok (.aload_n 0, 1) := by decide +kernel
theorem d_law_1029 : decode code 1029 = .ok (.iload_n 3, 1) := by decide +kernel
theorem d_law_1030 : decode code 1030 = .ok (.iconst 1, 1) := by decide +kernel
theorem d_law_1031 : decode code 1031 = .ok (.iadd, 1) := by decide +kernel
theorem d_law_1032 : decode code 1032 = .ok (.iaload, 1) := by decide +kernel
theorem d_law_1033 : decode code 1033 = .ok (.aload_n 0, 1) := by decide +kernel
theorem d_law_1034 : decode code 1034 = .ok (.iload_n 3, 1) := by decide +kernel
theorem d_law_1035 : decode code 1035 = .ok (.iconst 2, 1) := by decide +kernel
theorem d_law_1036 : decode code 1036 = .ok (.iadd, 1) := by decide +kernel
theorem d_law_1037 : decode code 1037 = .ok (.iaload, 1) := by decide +kernel
theorem d_law_1038 : decode code 1038 = .ok (.aload_n 0, 1) := by decide +kernel
theorem d_law_1039 : decode code 1039 = .ok (.iload_n 3, 1) := by decide +kernel
theorem d_law_1040 : decode code 1040 = .ok (.iconst 3, 1) := by decide +kernel
theorem d_law_1041 : decode code 1041 = .ok (.iadd, 1) := by decide +kernel
theorem d_law_1042 : decode code 1042 = .ok (.iaload, 1) := by decide +kernel
theorem m_law_133 : Cond.methodLink R_law 133 y_Model_sheet ∈ dk_tb := dk_in (List.mem_of_getElem? (i := 1373) (by decide +kernel)) rfl
theorem d_law_1043 : decode code 1043 = .ok (.invokevirtual 133, 3) := by decide +kernel
theorem d_law_1046 : decode code 1046 = .ok (.if_icmp .eq 197, 3) := by decide +kernel
theorem d_law_1051 : decode code 1051 = .ok (.aload_n 1, 1) := by decide +kernel
theorem d_law_1052 : decode code 1052 = .ok (.aload_n 0, 1) := by decide +kernel
theorem d_law_1053 : decode code 1053 = .ok (.iload_n 3, 1) := by decide +kernel
theorem d_law_1054 : decode code 1054 = .ok (.iconst 1, 1) := by decide +kernel
theorem d_law_1055 : decode code 1055 = .ok (.iadd, 1) := by decide +kernel
theorem d_law_1056 : decode code 1056 = .ok (.iaload, 1) := by decide +kernel
theorem d_law_1057 : decode code 1057 = .ok (.aload_n 0, 1) := by decide +kernel
theorem d_law_1058 : decode code 1058 = .ok (.iload_n 3, 1) := by decide +kernel
theorem d_law_1059 : decode code 1059 = .ok (.iconst 2, 1) := by decide +kernel
theorem d_law_1060 : decode code 1060 = .ok (.iadd, 1) := by decide +kernel
theorem d_law_1061 : decode code 1061 = .ok (.iaload, 1) := by decide +kernel
theorem d_law_1062 : decode code 1062 = .ok (.aload_n 0, 1) := by decide +kernel
theorem d_law_1063 : decode code 1063 = .ok (.iload_n 3, 1) := by decide +kernel
theorem d_law_1064 : decode code 1064 = .ok (.iconst 3, 1) := by decide +kernel
theorem d_law_1065 : decode code 1065 = .ok (.iadd, 1) := by decide +kernel
theorem d_law_1066 : decode code 1066 = .ok (.iaload, 1) := by decide +kernel
theorem m_law_134 : Cond.methodLink R_law 134 y_Hare_cell ∈ dk_tb := dk_in (List.mem_of_getElem? (i := 896) (by decide +kernel)) rfl
theorem d_law_1067 : decode code 1067 = .ok (.invokevirtual 134, 3) := by decide +kernel
theorem d_law_1070 : decode code 1070 = .ok (.aload_n 2, 1) := by decide +kernel
theorem d_law_1071 : decode code 1071 = .ok (.aload_n 0, 1) := by decide +kernel
theorem d_law_1072 : decode code 1072 = .ok (.iload_n 3, 1) := by decide +kernel
theorem d_law_1073 : decode code 1073 = .ok (.iconst 1, 1) := by decide +kernel
theorem d_law_1074 : decode code 1074 = .ok (.iadd, 1) := by decide +kernel
theorem d_law_1075 : decode code 1075 = .ok (.iaload, 1) := by decide +kernel
theorem d_law_1076 : decode code 1076 = .ok (.aload_n 0, 1) := by decide +kernel
theorem d_law_1077 : decode code 1077 = .ok (.iload_n 3, 1) := by decide +kernel
theorem d_law_1078 : decode code 1078 = .ok (.iconst 2, 1) := by decide +kernel
theorem d_law_1079 : decode code 1079 = .ok (.iadd, 1) := by decide +kernel
theorem d_law_1080 : decode code 1080 = .ok (.iaload, 1) := by decide +kernel
theorem d_law_1081 : decode code 1081 = .ok (.aload_n 0, 1) := by decide +kernel
theorem d_law_1082 : decode code 1082 = .ok (.iload_n 3, 1) := by decide +kernel
theorem d_law_1083 : decode code 1083 = .ok (.iconst 3, 1) := by decide +kernel
theorem d_law_1084 : decode code 1084 = .ok (.iadd, 1) := by decide +kernel
theorem d_law_1085 : decode code 1085 = .ok (.iaload, 1) := by decide +kernel
theorem m_law_137 : Cond.methodLink R_law 137 y_Model_cell ∈ dk_tb := dk_in (List.mem_of_getElem? (i := 1377) (by decide +kernel)) rfl
theorem d_law_1086 : decode code 1086 = .ok (.invokevirtual 137, 3) := by decide +kernel
theorem d_law_1089 : decode code 1089 = .ok (.if_icmp .eq 154, 3) := by decide +kernel
theorem d_law_1094 : decode code 1094 = .ok (.aload_n 1, 1) := by decide +kernel
theorem d_law_1095 : decode code 1095 = .ok (.aload_n 0, 1) := by decide +kernel
theorem d_law_1096 : decode code 1096 = .ok (.iload_n 3, 1) := by decide +kernel
theorem d_law_1097 : decode code 1097 = .ok (.iconst 1, 1) := by decide +kernel
theorem d_law_1098 : decode code 1098 = .ok (.iadd, 1) := by decide +kernel
theorem d_law_1099 : decode code 1099 = .ok (.iaload, 1) := by decide +kernel
theorem d_law_1100 : decode code 1100 = .ok (.aload_n 0, 1) := by decide +kernel
theorem d_law_1101 : decode code 1101 = .ok (.iload_n 3, 1) := by decide +kernel
theorem d_law_1102 : decode code 1102 = .ok (.iconst 2, 1) := by decide +kernel
theorem d_law_1103 : decode code 1103 = .ok (.iadd, 1) := by decide +kernel
theorem d_law_1104 : decode code 1104 = .ok (.iaload, 1) := by decide +kernel
theorem d_law_1105 : decode code 1105 = .ok (.aload_n 0, 1) := by decide +kernel
theorem d_law_1106 : decode code 1106 = .ok (.iload_n 3, 1) := by decide +kernel
theorem d_law_1107 : decode code 1107 = .ok (.iconst 3, 1) := by decide +kernel
theorem d_law_1108 : decode code 1108 = .ok (.iadd, 1) := by decide +kernel
theorem d_law_1109 : decode code 1109 = .ok (.iaload, 1) := by decide +kernel
theorem d_law_1110 : decode code 1110 = .ok (.aload_n 0, 1) := by decide +kernel
theorem d_law_1111 : decode code 1111 = .ok (.iload_n 3, 1) := by decide +kernel
theorem d_law_1112 : decode code 1112 = .ok (.iconst 4, 1) := by decide +kernel
theorem d_law_1113 : decode code 1113 = .ok (.iadd, 1) := by decide +kernel
theorem d_law_1114 : decode code 1114 = .ok (.iaload, 1) := by decide +kernel
theorem d_law_1115 : decode code 1115 = .ok (.aload_n 0, 1) := by decide +kernel
theorem d_law_1116 : decode code 1116 = .ok (.iload_n 3, 1) := by decide +kernel
theorem d_law_1117 : decode code 1117 = .ok (.iconst 5, 1) := by decide +kernel
theorem d_law_1118 : decode code 1118 = .ok (.iadd, 1) := by decide +kernel
theorem d_law_1119 : decode code 1119 = .ok (.iaload, 1) := by decide +kernel
theorem m_law_138 : Cond.methodLink R_law 138 y_Hare_copy ∈ dk_tb := dk_in (List.mem_of_getElem? (i := 908) (by decide +kernel)) rfl
theorem d_law_1120 : decode code 1120 = .ok (.invokevirtual 138, 3) := by decide +kernel
theorem d_law_1123 : decode code 1123 = .ok (.aload_n 2, 1) := by decide +kernel
theorem d_law_1124 : decode code 1124 = .ok (.aload_n 0, 1) := by decide +kernel
theorem d_law_1125 : decode code 1125 = .ok (.iload_n 3, 1) := by decide +kernel
theorem d_law_1126 : decode code 1126 = .ok (.iconst 1, 1) := by decide +kernel
theorem d_law_1127 : decode code 1127 = .ok (.iadd, 1) := by decide +kernel
theorem d_law_1128 : decode code 1128 = .ok (.iaload, 1) := by decide +kernel
theorem d_law_1129 : decode code 1129 = .ok (.aload_n 0, 1) := by decide +kernel
theorem d_law_1130 : decode code 1130 = .ok (.iload_n 3, 1) := by decide +kernel
theorem d_law_1131 : decode code 1131 = .ok (.iconst 2, 1) := by decide +kernel
theorem d_law_1132 : decode code 1132 = .ok (.iadd, 1) := by decide +kernel
theorem d_law_1133 : decode code 1133 = .ok (.iaload, 1) := by decide +kernel
theorem d_law_1134 : decode code 1134 = .ok (.aload_n 0, 1) := by decide +kernel
theorem d_law_1135 : decode code 1135 = .ok (.iload_n 3, 1) := by decide +kernel
theorem d_law_1136 : decode code 1136 = .ok (.iconst 3, 1) := by decide +kernel
theorem d_law_1137 : decode code 1137 = .ok (.iadd, 1) := by decide +kernel
theorem d_law_1138 : decode code 1138 = .ok (.iaload, 1) := by decide +kernel
theorem d_law_1139 : decode code 1139 = .ok (.aload_n 0, 1) := by decide +kernel
theorem d_law_1140 : decode code 1140 = .ok (.iload_n 3, 1) := by decide +kernel
theorem d_law_1141 : decode code 1141 = .ok (.iconst 4, 1) := by decide +kernel
theorem d_law_1142 : decode code 1142 = .ok (.iadd, 1) := by decide +kernel
theorem d_law_1143 : decode code 1143 = .ok (.iaload, 1) := by decide +kernel
theorem d_law_1144 : decode code 1144 = .ok (.aload_n 0, 1) := by decide +kernel
theorem d_law_1145 : decode code 1145 = .ok (.iload_n 3, 1) := by decide +kernel
theorem d_law_1146 : decode code 1146 = .ok (.iconst 5, 1) := by decide +kernel
theorem d_law_1147 : decode code 1147 = .ok (.iadd, 1) := by decide +kernel
theorem d_law_1148 : decode code 1148 = .ok (.iaload, 1) := by decide +kernel
theorem m_law_141 : Cond.methodLink R_law 141 y_Model_copy ∈ dk_tb := dk_in (List.mem_of_getElem? (i := 1381) (by decide +kernel)) rfl
theorem d_law_1149 : decode code 1149 = .ok (.invokevirtual 141, 3) := by decide +kernel
theorem d_law_1152 : decode code 1152 = .ok (.if_icmp .eq 91, 3) := by decide +kernel
theorem d_law_1157 : decode code 1157 = .ok (.aload_n 1, 1) := by decide +kernel
theorem d_law_1158 : decode code 1158 = .ok (.aload_n 0, 1) := by decide +kernel
theorem d_law_1159 : decode code 1159 = .ok (.iload_n 3, 1) := by decide +kernel
theorem d_law_1160 : decode code 1160 = .ok (.iconst 1, 1) := by decide +kernel
theorem d_law_1161 : decode code 1161 = .ok (.iadd, 1) := by decide +kernel
theorem d_law_1162 : decode code 1162 = .ok (.iaload, 1) := by decide +kernel
theorem d_law_1163 : decode code 1163 = .ok (.aload_n 0, 1) := by decide +kernel
theorem d_law_1164 : decode code 1164 = .ok (.iload_n 3, 1) := by decide +kernel
theorem d_law_1165 : decode code 1165 = .ok (.iconst 2, 1) := by decide +kernel
theorem d_law_1166 : decode code 1166 = .ok (.iadd, 1) := by decide +kernel
theorem d_law_1167 : decode code 1167 = .ok (.iaload, 1) := by decide +kernel
theorem d_law_1168 : decode code 1168 = .ok (.aload_n 0, 1) := by decide +kernel
theorem d_law_1169 : decode code 1169 = .ok (.iload_n 3, 1) := by decide +kernel
theorem d_law_1170 : decode code 1170 = .ok (.iconst 3, 1) := by decide +kernel
theorem d_law_1171 : decode code 1171 = .ok (.iadd, 1) := by decide +kernel
theorem d_law_1172 : decode code 1172 = .ok (.iaload, 1) := by decide +kernel
theorem d_law_1173 : decode code 1173 = .ok (.aload_n 0, 1) := by decide +kernel
theorem d_law_1174 : decode code 1174 = .ok (.iload_n 3, 1) := by decide +kernel
theorem d_law_1175 : decode code 1175 = .ok (.iconst 4, 1) := by decide +kernel
theorem d_law_1176 : decode code 1176 = .ok (.iadd, 1) := by decide +kernel
theorem d_law_1177 : decode code 1177 = .ok (.iaload, 1) := by decide +kernel
theorem m_law_142 : Cond.methodLink R_law 142 y_Hare_tell ∈ dk_tb := dk_in (List.mem_of_getElem? (i := 917) (by decide +kernel)) rfl
theorem d_law_1178 : decode code 1178 = .ok (.invokevirtual 142, 3) := by decide +kernel
theorem d_law_1181 : decode code 1181 = .ok (.aload_n 2, 1) := by decide +kernel
theorem d_law_1182 : decode code 1182 = .ok (.aload_n 0, 1) := by decide +kernel
theorem d_law_1183 : decode code 1183 = .ok (.iload_n 3, 1) := by decide +kernel
theorem d_law_1184 : decode code 1184 = .ok (.iconst 1, 1) := by decide +kernel
theorem d_law_1185 : decode code 1185 = .ok (.iadd, 1) := by decide +kernel
theorem d_law_1186 : decode code 1186 = .ok (.iaload, 1) := by decide +kernel
theorem d_law_1187 : decode code 1187 = .ok (.aload_n 0, 1) := by decide +kernel
theorem d_law_1188 : decode code 1188 = .ok (.iload_n 3, 1) := by decide +kernel
theorem d_law_1189 : decode code 1189 = .ok (.iconst 2, 1) := by decide +kernel
theorem d_law_1190 : decode code 1190 = .ok (.iadd, 1) := by decide +kernel
theorem d_law_1191 : decode code 1191 = .ok (.iaload, 1) := by decide +kernel
theorem d_law_1192 : decode code 1192 = .ok (.aload_n 0, 1) := by decide +kernel
theorem d_law_1193 : decode code 1193 = .ok (.iload_n 3, 1) := by decide +kernel
theorem d_law_1194 : decode code 1194 = .ok (.iconst 3, 1) := by decide +kernel
theorem d_law_1195 : decode code 1195 = .ok (.iadd, 1) := by decide +kernel
theorem d_law_1196 : decode code 1196 = .ok (.iaload, 1) := by decide +kernel
theorem d_law_1197 : decode code 1197 = .ok (.aload_n 0, 1) := by decide +kernel
theorem d_law_1198 : decode code 1198 = .ok (.iload_n 3, 1) := by decide +kernel
theorem d_law_1199 : decode code 1199 = .ok (.iconst 4, 1) := by decide +kernel
theorem d_law_1200 : decode code 1200 = .ok (.iadd, 1) := by decide +kernel
theorem d_law_1201 : decode code 1201 = .ok (.iaload, 1) := by decide +kernel
theorem m_law_146 : Cond.methodLink R_law 146 y_Model_tell ∈ dk_tb := dk_in (List.mem_of_getElem? (i := 1385) (by decide +kernel)) rfl
theorem d_law_1202 : decode code 1202 = .ok (.invokevirtual 146, 3) := by decide +kernel
theorem d_law_1205 : decode code 1205 = .ok (.if_icmp .eq 38, 3) := by decide +kernel
theorem d_law_1210 : decode code 1210 = .ok (.aload_n 1, 1) := by decide +kernel
theorem d_law_1211 : decode code 1211 = .ok (.aload_n 0, 1) := by decide +kernel
theorem d_law_1212 : decode code 1212 = .ok (.iload_n 3, 1) := by decide +kernel
theorem d_law_1213 : decode code 1213 = .ok (.iconst 1, 1) := by decide +kernel
theorem d_law_1214 : decode code 1214 = .ok (.iadd, 1) := by decide +kernel
theorem d_law_1215 : decode code 1215 = .ok (.iaload, 1) := by decide +kernel
theorem d_law_1216 : decode code 1216 = .ok (.aload_n 0, 1) := by decide +kernel
theorem d_law_1217 : decode code 1217 = .ok (.iload_n 3, 1) := by decide +kernel
theorem d_law_1218 : decode code 1218 = .ok (.iconst 2, 1) := by decide +kernel
theorem d_law_1219 : decode code 1219 = .ok (.iadd, 1) := by decide +kernel
theorem d_law_1220 : decode code 1220 = .ok (.iaload, 1) := by decide +kernel
theorem m_law_147 : Cond.methodLink R_law 147 y_Hare_taken ∈ dk_tb := dk_in (List.mem_of_getElem? (i := 922) (by decide +kernel)) rfl
theorem d_law_1221 : decode code 1221 = .ok (.invokevirtual 147, 3) := by decide +kernel
theorem d_law_1224 : decode code 1224 = .ok (.aload_n 2, 1) := by decide +kernel
theorem d_law_1225 : decode code 1225 = .ok (.aload_n 0, 1) := by decide +kernel
theorem d_law_1226 : decode code 1226 = .ok (.iload_n 3, 1) := by decide +kernel
theorem d_law_1227 : decode code 1227 = .ok (.iconst 1, 1) := by decide +kernel
theorem d_law_1228 : decode code 1228 = .ok (.iadd, 1) := by decide +kernel
theorem d_law_1229 : decode code 1229 = .ok (.iaload, 1) := by decide +kernel
theorem d_law_1230 : decode code 1230 = .ok (.aload_n 0, 1) := by decide +kernel
theorem d_law_1231 : decode code 1231 = .ok (.iload_n 3, 1) := by decide +kernel
theorem d_law_1232 : decode code 1232 = .ok (.iconst 2, 1) := by decide +kernel
theorem d_law_1233 : decode code 1233 = .ok (.iadd, 1) := by decide +kernel
theorem d_law_1234 : decode code 1234 = .ok (.iaload, 1) := by decide +kernel
theorem m_law_150 : Cond.methodLink R_law 150 y_Model_taken ∈ dk_tb := dk_in (List.mem_of_getElem? (i := 1390) (by decide +kernel)) rfl
theorem d_law_1235 : decode code 1235 = .ok (.invokevirtual 150, 3) := by decide +kernel
theorem d_law_1238 : decode code 1238 = .ok (.if_icmp .eq 5, 3) := by decide +kernel
/-! MACHINE: the law's thirty-two cases -/
theorem lw_sld {p : Program} {l : Launch} {e : Env} {s : State} {m : MethodId} {below : List Frame} {meth : Method} {c : Code} {g : dk_G} {b L : Nat} {xs : Nat → Int32} {Q : State → Prop} (X : dk_X p s m #[Value.ref b] meth c code 4 R_law ret g (fun q => s.heap.size ≤ q)) (hX : va_X b L xs s s.heap) (hb : b < s.heap.size) {cells slots pc : Nat} {lv : List (Nat × Value)} {st : List Value} {ws : va_W} {i : Int32} (hin : vp_in i L) (hdg : decode code pc = .ok (.iaload, 1)) (kk : dk_J p l e room_1 s m #[Value.ref b] below meth c g (fun q => s.heap.size ≤ q) Q 4 cells slots (pc + 1) lv (.int (xs i.toNatClampNeg) :: st) ws) : dk_J p l e room_1 s m #[Value.ref b] below meth c g (fun q => s.heap.size ≤ q) Q 4 cells slots pc lv (.int i :: .ref b :: st) ws := fun H locs ls hP hD hS hl => va_sld X.1 X.2.1 hX hb (Nat.not_le.mpr hb) hS hin hdg (kk H locs ls hP hD hS hl)
theorem lw_slen {p : Program} {l : Launch} {e : Env} {s : State} {m : MethodId} {below : List Frame} {meth : Method} {c : Code} {g : dk_G} {b L : Nat} {xs : Nat → Int32} {Q : State → Prop} (X : dk_X p s m #[Value.ref b] meth c code 4 R_law ret g (fun q => s.heap.size ≤ q)) (hX : va_X b L xs s s.heap) (hb : b < s.heap.size) {cells slots pc : Nat} {lv : List (Nat × Value)} {st : List Value} {ws : va_W} (hdg : decode code pc = .ok (.arraylength, 1)) (kk : dk_J p l e room_1 s m #[Value.ref b] below meth c g (fun q => s.heap.size ≤ q) Q 4 cells slots (pc + 1) lv (.int (nI L) :: st) ws) : dk_J p l e room_1 s m #[Value.ref b] below meth c g (fun q => s.heap.size ≤ q) Q 4 cells slots pc lv (.ref b :: st) ws := fun H locs ls hP hD hS hl => va_slen X.1 X.2.1 hX hb (Nat.not_le.mpr hb) hS hdg (kk H locs ls hP hD hS hl)
/-- the j-th int behind i -/
theorem lw_arg {p : Program} {l : Launch} {e : Env} {s : State} {m : MethodId} {below : List Frame} {meth : Method} {c : Code} {g : dk_G} {b L : Nat} {xs : Nat → Int32} {Q : State → Prop} (X : dk_X p s m #[Value.ref b] meth c code 4 R_law ret g (fun q => s.heap.size ≤ q)) (hX : va_X b L xs s s.heap) (hb : b < s.heap.size) {cells slots pc : Nat} {st : List Value} {ws : va_W} {i x y : Nat} (hi : i + 6 ≤ L) (hL : L ≤ 384) (j : Nat) {v : Int} (hv : Int32.ofInt v = nI j) (hj : j < 6) (d0 : decode code pc = .ok (.aload_n 0, 1)) (d1 : decode code (pc + 1) = .ok (.iload_n 3, 1)) (d2 : decode code (pc + 2) = .ok (.iconst v, 1)) (d3 : decode code (pc + 3) = .ok (.iadd, 1)) (d4 : decode code (pc + 4) = .ok (.iaload, 1)) (kk : dk_J p l e room_1 s m #[Value.ref b] below meth c g (fun q => s.heap.size ≤ q) Q 4 cells slots (pc + 5) [(0, .ref b), (1, .ref x), (2, .ref y), (3, .int (nI i))] (.int (xs (i + j)) :: st) ws) : dk_J p l e room_1 s m #[Value.ref b] below meth c g (fun q => s.heap.size ≤ q) Q 4 cells slots pc [(0, .ref b), (1, .ref x), (2, .ref y), (3, .int (nI i))] st ws := by
  refine dk_aload_n (k := 0) (i := 0) X 0 rfl rfl d0 ?_
  refine dk_iload_n (k := 3) (i := 3) X 3 rfl rfl d1 ?_
  refine dk_iconst X hv d2 ?_
  refine dk_iadd X d3 ?_
  rw [nI_add]
  refine lw_sld X hX hb (nI_in (by omega) (by omega)) d4 ?_
  rw [nI_clamp (by omega)]
  exact kk
theorem dk_dis {a n : Nat} : ∀ i ∈ List.range' a n, i ∉ List.range' 0 a := fun i h1 h2 => by
  have a1 := (List.mem_range'_1.mp h1).1
  have a2 := (List.mem_range'_1.mp h2).2
  omega
theorem lg_cmp_rf (x : Int64) : lg_cmp x x = 0 := by
  unfold lg_cmp
  rw [if_neg (show ¬ x > x from Int64.lt_irrefl), if_pos rfl]
theorem lw_c0 {p : Program} {l : Launch} {e : Env} {s : State} {m : MethodId} {below : List Frame} {meth : Method} {c : Code} {g : dk_G} {b L : Nat} {xs : Nat → Int32} {Q : State → Prop} (X : dk_X p s m #[Value.ref b] meth c code 4 R_law ret g (fun q => s.heap.size ≤ q)) (hX : va_X b L xs s s.heap) (hb : b < s.heap.size) {cells slots T i : Nat} {ad am : Nat → Nat} {C M : dk_S} (h : Inv T C M) (hi : i + 6 ≤ L) (hL : L ≤ 384) (hc : cells + 3 ≤ room_1.cells) (hs : slots + 162 ≤ room_1.slots) (kk : ∀ (ad2 : Nat → Nat) (T2 : Nat) (C2 M2 : dk_S), Inv T2 C2 M2 → ad2 0 = ad 0 → dk_J p l e room_1 s m #[Value.ref b] below meth c g (fun q => s.heap.size ≤ q) Q 4 (cells + 3) (slots + 162) 1243 [(0, .ref b), (1, .ref (ad 0)), (2, .ref (am 0)), (3, .int (nI i))] [] (wC g ad2 T2 C2 ++ wM g am M2)) : dk_J p l e room_1 s m #[Value.ref b] below meth c g (fun q => s.heap.size ≤ q) Q 4 cells slots 176 [(0, .ref b), (1, .ref (ad 0)), (2, .ref (am 0)), (3, .int (nI i))] [] (wC g ad T C ++ wM g am M) := by
  obtain ⟨r, C2, M2, e1, e2, h2⟩ := s_ground (n := 400) h (xs (i + 1))
  refine dk_aload_n (k := 1) (i := 1) X 1 rfl rfl d_law_176 ?_
  refine lw_arg X hX hb hi hL 1 (by decide) (by decide) d_law_177 d_law_178 d_law_179 d_law_180 d_law_181 ?_
  refine dk_pVi X v_Hare_ground m_law_13 [.int (xs (i + 1))] (c_Hare_ground l g ad T 400 (xs (i + 1)) C) e1 (wr := wM g am M) (q0 := 0) (oC_Hare g ad T C) rfl rfl (List.range' 0 (wC g ad T C).length) (List.range' (wC g ad T C).length (wM g am M).length) (dk_rngA _ _) (dk_rngB _ _) (dk_ndr _ _) (dk_ndr _ _) dk_dis rfl rfl ⟨rfl, rfl, Nat.le_of_ble_eq_true rfl, Nat.le_of_ble_eq_true rfl, Nat.le_trans (Nat.le_add_right _ 3) hc, Nat.le_trans (Nat.le_add_right _ 162) hs⟩ (Nat.le_of_ble_eq_true rfl) d_law_182 ?_
  refine dk_aload_n (k := 2) (i := 2) X 2 rfl rfl d_law_185 ?_
  refine lw_arg X hX hb hi hL 1 (by decide) (by decide) d_law_186 d_law_187 d_law_188 d_law_189 d_law_190 ?_
  refine dk_pVi X v_Model_ground m_law_17 [.int (xs (i + 1))] (c_Model_ground l g am 400 (xs (i + 1)) M) e2 (wr := wC g ad T C2) (q0 := 0) (oM_Model g am M) rfl rfl (List.range' 0 (wM g am M).length) (List.range' (wM g am M).length (wC g ad T C2).length) (dk_rngA _ _) (dk_rngB _ _) (dk_ndr _ _) (dk_ndr _ _) dk_dis rfl rfl ⟨rfl, rfl, Nat.le_of_ble_eq_true rfl, Nat.le_of_ble_eq_true rfl, Nat.le_trans (Nat.le_add_right _ 3) hc, Nat.le_trans (Nat.le_add_right _ 162) hs⟩ (Nat.le_of_ble_eq_true rfl) d_law_191 ?_
  refine dk_icmp_eq (tgt := 1243) X (by decide) d_law_194 (show (if r = r then some () else none) = some () from if_pos rfl) (fun _ => ?_) (fun hF => by cases hF)
  exact dk_wid (k := cells + 3) (n := slots + 162) (Nat.le_add_right _ 3) (Nat.le_add_right _ 162) (kk ad T C2 M2 h2 rfl)
theorem lw_c1 {p : Program} {l : Launch} {e : Env} {s : State} {m : MethodId} {below : List Frame} {meth : Method} {c : Code} {g : dk_G} {b L : Nat} {xs : Nat → Int32} {Q : State → Prop} (X : dk_X p s m #[Value.ref b] meth c code 4 R_law ret g (fun q => s.heap.size ≤ q)) (hX : va_X b L xs s s.heap) (hb : b < s.heap.size) {cells slots T i : Nat} {ad am : Nat → Nat} {C M : dk_S} (h : Inv T C M) (hi : i + 6 ≤ L) (hL : L ≤ 384) (hc : cells + 3 ≤ room_1.cells) (hs : slots + 162 ≤ room_1.slots) (kk : ∀ (ad2 : Nat → Nat) (T2 : Nat) (C2 M2 : dk_S), Inv T2 C2 M2 → ad2 0 = ad 0 → dk_J p l e room_1 s m #[Value.ref b] below meth c g (fun q => s.heap.size ≤ q) Q 4 (cells + 3) (slots + 162) 1243 [(0, .ref b), (1, .ref (ad 0)), (2, .ref (am 0)), (3, .int (nI i))] [] (wC g ad2 T2 C2 ++ wM g am M2)) : dk_J p l e room_1 s m #[Value.ref b] below meth c g (fun q => s.heap.size ≤ q) Q 4 cells slots 199 [(0, .ref b), (1, .ref (ad 0)), (2, .ref (am 0)), (3, .int (nI i))] [] (wC g ad T C ++ wM g am M) := by
  obtain ⟨r, C2, M2, e1, e2, h2⟩ := s_owns (n := 400) h (xs (i + 1)) (xs (i + 2))
  refine dk_aload_n (k := 1) (i := 1) X 1 rfl rfl d_law_199 ?_
  refine lw_arg X hX hb hi hL 1 (by decide) (by decide) d_law_200 d_law_201 d_law_202 d_law_203 d_law_204 ?_
  refine lw_arg X hX hb hi hL 2 (by decide) (by decide) d_law_205 d_law_206 d_law_207 d_law_208 d_law_209 ?_
  refine dk_pVi X v_Hare_owns m_law_18 [.int (xs (i + 1)), .int (xs (i + 2))] (c_Hare_owns l g ad T 400 (xs (i + 1)) (xs (i + 2)) C) e1 (wr := wM g am M) (q0 := 0) (oC_Hare g ad T C) rfl rfl (List.range' 0 (wC g ad T C).length) (List.range' (wC g ad T C).length (wM g am M).length) (dk_rngA _ _) (dk_rngB _ _) (dk_ndr _ _) (dk_ndr _ _) dk_dis rfl rfl ⟨rfl, rfl, Nat.le_of_ble_eq_true rfl, Nat.le_of_ble_eq_true rfl, Nat.le_trans (Nat.le_add_right _ 3) hc, Nat.le_trans (Nat.le_add_right _ 162) hs⟩ (Nat.le_of_ble_eq_true rfl) d_law_210 ?_
  refine dk_aload_n (k := 2) (i := 2) X 2 rfl rfl d_law_213 ?_
  refine lw_arg X hX hb hi hL 1 (by decide) (by decide) d_law_214 d_law_215 d_law_216 d_law_217 d_law_218 ?_
  refine lw_arg X hX hb hi hL 2 (by decide) (by decide) d_law_219 d_law_220 d_law_221 d_law_222 d_law_223 ?_
  refine dk_pVi X v_Model_owns m_law_22 [.int (xs (i + 1)), .int (xs (i + 2))] (c_Model_owns l g am 400 (xs (i + 1)) (xs (i + 2)) M) e2 (wr := wC g ad T C2) (q0 := 0) (oM_Model g am M) rfl rfl (List.range' 0 (wM g am M).length) (List.range' (wM g am M).length (wC g ad T C2).length) (dk_rngA _ _) (dk_rngB _ _) (dk_ndr _ _) (dk_ndr _ _) dk_dis rfl rfl ⟨rfl, rfl, Nat.le_of_ble_eq_true rfl, Nat.le_of_ble_eq_true rfl, Nat.le_trans (Nat.le_add_right _ 3) hc, Nat.le_trans (Nat.le_add_right _ 162) hs⟩ (Nat.le_of_ble_eq_true rfl) d_law_224 ?_
  refine dk_icmp_eq (tgt := 1243) X (by decide) d_law_227 (show (if r = r then some () else none) = some () from if_pos rfl) (fun _ => ?_) (fun hF => by cases hF)
  exact dk_wid (k := cells + 3) (n := slots + 162) (Nat.le_add_right _ 3) (Nat.le_add_right _ 162) (kk ad T C2 M2 h2 rfl)
theorem lw_c2 {p : Program} {l : Launch} {e : Env} {s : State} {m : MethodId} {below : List Frame} {meth : Method} {c : Code} {g : dk_G} {b L : Nat} {xs : Nat → Int32} {Q : State → Prop} (X : dk_X p s m #[Value.ref b] meth c code 4 R_law ret g (fun q => s.heap.size ≤ q)) (hX : va_X b L xs s s.heap) (hb : b < s.heap.size) {cells slots T i : Nat} {ad am : Nat → Nat} {C M : dk_S} (h : Inv T C M) (hi : i + 6 ≤ L) (hL : L ≤ 384) (hc : cells + 3 ≤ room_1.cells) (hs : slots + 162 ≤ room_1.slots) (kk : ∀ (ad2 : Nat → Nat) (T2 : Nat) (C2 M2 : dk_S), Inv T2 C2 M2 → ad2 0 = ad 0 → dk_J p l e room_1 s m #[Value.ref b] below meth c g (fun q => s.heap.size ≤ q) Q 4 (cells + 3) (slots + 162) 1243 [(0, .ref b), (1, .ref (ad 0)), (2, .ref (am 0)), (3, .int (nI i))] [] (wC g ad2 T2 C2 ++ wM g am M2)) : dk_J p l e room_1 s m #[Value.ref b] below meth c g (fun q => s.heap.size ≤ q) Q 4 cells slots 232 [(0, .ref b), (1, .ref (ad 0)), (2, .ref (am 0)), (3, .int (nI i))] [] (wC g ad T C ++ wM g am M) := by
  obtain ⟨r, C2, M2, e1, e2, h2⟩ := s_beast (n := 400) h (xs (i + 1)) (xs (i + 2))
  refine dk_aload_n (k := 1) (i := 1) X 1 rfl rfl d_law_232 ?_
  refine lw_arg X hX hb hi hL 1 (by decide) (by decide) d_law_233 d_law_234 d_law_235 d_law_236 d_law_237 ?_
  refine lw_arg X hX hb hi hL 2 (by decide) (by decide) d_law_238 d_law_239 d_law_240 d_law_241 d_law_242 ?_
  refine dk_pVi X v_Hare_beast m_law_23 [.int (xs (i + 1)), .int (xs (i + 2))] (c_Hare_beast l g ad T 400 (xs (i + 1)) (xs (i + 2)) C) e1 (wr := wM g am M) (q0 := 0) (oC_Hare g ad T C) rfl rfl (List.range' 0 (wC g ad T C).length) (List.range' (wC g ad T C).length (wM g am M).length) (dk_rngA _ _) (dk_rngB _ _) (dk_ndr _ _) (dk_ndr _ _) dk_dis rfl rfl ⟨rfl, rfl, Nat.le_of_ble_eq_true rfl, Nat.le_of_ble_eq_true rfl, Nat.le_trans (Nat.le_add_right _ 3) hc, Nat.le_trans (Nat.le_add_right _ 162) hs⟩ (Nat.le_of_ble_eq_true rfl) d_law_243 ?_
  refine dk_aload_n (k := 2) (i := 2) X 2 rfl rfl d_law_246 ?_
  refine lw_arg X hX hb hi hL 1 (by decide) (by decide) d_law_247 d_law_248 d_law_249 d_law_250 d_law_251 ?_
  refine lw_arg X hX hb hi hL 2 (by decide) (by decide) d_law_252 d_law_253 d_law_254 d_law_255 d_law_256 ?_
  refine dk_pVi X v_Model_beast m_law_26 [.int (xs (i + 1)), .int (xs (i + 2))] (c_Model_beast l g am 400 (xs (i + 1)) (xs (i + 2)) M) e2 (wr := wC g ad T C2) (q0 := 0) (oM_Model g am M) rfl rfl (List.range' 0 (wM g am M).length) (List.range' (wM g am M).length (wC g ad T C2).length) (dk_rngA _ _) (dk_rngB _ _) (dk_ndr _ _) (dk_ndr _ _) dk_dis rfl rfl ⟨rfl, rfl, Nat.le_of_ble_eq_true rfl, Nat.le_of_ble_eq_true rfl, Nat.le_trans (Nat.le_add_right _ 3) hc, Nat.le_trans (Nat.le_add_right _ 162) hs⟩ (Nat.le_of_ble_eq_true rfl) d_law_257 ?_
  refine dk_icmp_eq (tgt := 1243) X (by decide) d_law_260 (show (if r = r then some () else none) = some () from if_pos rfl) (fun _ => ?_) (fun hF => by cases hF)
  exact dk_wid (k := cells + 3) (n := slots + 162) (Nat.le_add_right _ 3) (Nat.le_add_right _ 162) (kk ad T C2 M2 h2 rfl)
theorem lw_c3 {p : Program} {l : Launch} {e : Env} {s : State} {m : MethodId} {below : List Frame} {meth : Method} {c : Code} {g : dk_G} {b L : Nat} {xs : Nat → Int32} {Q : State → Prop} (X : dk_X p s m #[Value.ref b] meth c code 4 R_law ret g (fun q => s.heap.size ≤ q)) (hX : va_X b L xs s s.heap) (hb : b < s.heap.size) {cells slots T i : Nat} {ad am : Nat → Nat} {C M : dk_S} (h : Inv T C M) (hi : i + 6 ≤ L) (hL : L ≤ 384) (hc : cells + 3 ≤ room_1.cells) (hs : slots + 162 ≤ room_1.slots) (kk : ∀ (ad2 : Nat → Nat) (T2 : Nat) (C2 M2 : dk_S), Inv T2 C2 M2 → ad2 0 = ad 0 → dk_J p l e room_1 s m #[Value.ref b] below meth c g (fun q => s.heap.size ≤ q) Q 4 (cells + 3) (slots + 162) 1243 [(0, .ref b), (1, .ref (ad 0)), (2, .ref (am 0)), (3, .int (nI i))] [] (wC g ad2 T2 C2 ++ wM g am M2)) : dk_J p l e room_1 s m #[Value.ref b] below meth c g (fun q => s.heap.size ≤ q) Q 4 cells slots 265 [(0, .ref b), (1, .ref (ad 0)), (2, .ref (am 0)), (3, .int (nI i))] [] (wC g ad T C ++ wM g am M) := by
  obtain ⟨r, C2, M2, e1, e2, h2⟩ := s_moment (n := 400) h (xs (i + 1)) (xs (i + 2)) (xs (i + 3)) (xs (i + 4)) (xs (i + 5))
  refine dk_aload_n (k := 1) (i := 1) X 1 rfl rfl d_law_265 ?_
  refine lw_arg X hX hb hi hL 1 (by decide) (by decide) d_law_266 d_law_267 d_law_268 d_law_269 d_law_270 ?_
  refine lw_arg X hX hb hi hL 2 (by decide) (by decide) d_law_271 d_law_272 d_law_273 d_law_274 d_law_275 ?_
  refine lw_arg X hX hb hi hL 3 (by decide) (by decide) d_law_276 d_law_277 d_law_278 d_law_279 d_law_280 ?_
  refine lw_arg X hX hb hi hL 4 (by decide) (by decide) d_law_281 d_law_282 d_law_283 d_law_284 d_law_285 ?_
  refine lw_arg X hX hb hi hL 5 (by decide) (by decide) d_law_286 d_law_287 d_law_288 d_law_289 d_law_290 ?_
  refine dk_pVi X v_Hare_moment m_law_27 [.int (xs (i + 1)), .int (xs (i + 2)), .int (xs (i + 3)), .int (xs (i + 4)), .int (xs (i + 5))] (c_Hare_moment l g ad T 400 (xs (i + 1)) (xs (i + 2)) (xs (i + 3)) (xs (i + 4)) (xs (i + 5)) C) e1 (wr := wM g am M) (q0 := 0) (oC_Hare g ad T C) rfl rfl (List.range' 0 (wC g ad T C).length) (List.range' (wC g ad T C).length (wM g am M).length) (dk_rngA _ _) (dk_rngB _ _) (dk_ndr _ _) (dk_ndr _ _) dk_dis rfl rfl ⟨rfl, rfl, Nat.le_of_ble_eq_true rfl, Nat.le_of_ble_eq_true rfl, Nat.le_trans (Nat.le_add_right _ 3) hc, Nat.le_trans (Nat.le_add_right _ 162) hs⟩ (Nat.le_of_ble_eq_true rfl) d_law_291 ?_
  refine dk_aload_n (k := 2) (i := 2) X 2 rfl rfl d_law_294 ?_
  refine lw_arg X hX hb hi hL 1 (by decide) (by decide) d_law_295 d_law_296 d_law_297 d_law_298 d_law_299 ?_
  refine lw_arg X hX hb hi hL 2 (by decide) (by decide) d_law_300 d_law_301 d_law_302 d_law_303 d_law_304 ?_
  refine lw_arg X hX hb hi hL 3 (by decide) (by decide) d_law_305 d_law_306 d_law_307 d_law_308 d_law_309 ?_
  refine lw_arg X hX hb hi hL 4 (by decide) (by decide) d_law_310 d_law_311 d_law_312 d_law_313 d_law_314 ?_
  refine lw_arg X hX hb hi hL 5 (by decide) (by decide) d_law_315 d_law_316 d_law_317 d_law_318 d_law_319 ?_
  refine dk_pVi X v_Model_moment m_law_31 [.int (xs (i + 1)), .int (xs (i + 2)), .int (xs (i + 3)), .int (xs (i + 4)), .int (xs (i + 5))] (c_Model_moment l g am 400 (xs (i + 1)) (xs (i + 2)) (xs (i + 3)) (xs (i + 4)) (xs (i + 5)) M) e2 (wr := wC g ad T C2) (q0 := 0) (oM_Model g am M) rfl rfl (List.range' 0 (wM g am M).length) (List.range' (wM g am M).length (wC g ad T C2).length) (dk_rngA _ _) (dk_rngB _ _) (dk_ndr _ _) (dk_ndr _ _) dk_dis rfl rfl ⟨rfl, rfl, Nat.le_of_ble_eq_true rfl, Nat.le_of_ble_eq_true rfl, Nat.le_trans (Nat.le_add_right _ 3) hc, Nat.le_trans (Nat.le_add_right _ 162) hs⟩ (Nat.le_of_ble_eq_true rfl) d_law_320 ?_
  refine dk_icmp_eq (tgt := 1243) X (by decide) d_law_323 (show (if r = r then some () else none) = some () from if_pos rfl) (fun _ => ?_) (fun hF => by cases hF)
  exact dk_wid (k := cells + 3) (n := slots + 162) (Nat.le_add_right _ 3) (Nat.le_add_right _ 162) (kk ad T C2 M2 h2 rfl)
theorem lw_c4 {p : Program} {l : Launch} {e : Env} {s : State} {m : MethodId} {below : List Frame} {meth : Method} {c : Code} {g : dk_G} {b L : Nat} {xs : Nat → Int32} {Q : State → Prop} (X : dk_X p s m #[Value.ref b] meth c code 4 R_law ret g (fun q => s.heap.size ≤ q)) (hX : va_X b L xs s s.heap) (hb : b < s.heap.size) {cells slots T i : Nat} {ad am : Nat → Nat} {C M : dk_S} (h : Inv T C M) (hi : i + 6 ≤ L) (hL : L ≤ 384) (hc : cells + 3 ≤ room_1.cells) (hs : slots + 162 ≤ room_1.slots) (kk : ∀ (ad2 : Nat → Nat) (T2 : Nat) (C2 M2 : dk_S), Inv T2 C2 M2 → ad2 0 = ad 0 → dk_J p l e room_1 s m #[Value.ref b] below meth c g (fun q => s.heap.size ≤ q) Q 4 (cells + 3) (slots + 162) 1243 [(0, .ref b), (1, .ref (ad 0)), (2, .ref (am 0)), (3, .int (nI i))] [] (wC g ad2 T2 C2 ++ wM g am M2)) : dk_J p l e room_1 s m #[Value.ref b] below meth c g (fun q => s.heap.size ≤ q) Q 4 cells slots 328 [(0, .ref b), (1, .ref (ad 0)), (2, .ref (am 0)), (3, .int (nI i))] [] (wC g ad T C ++ wM g am M) := by
  obtain ⟨r, C2, M2, e1, e2, h2⟩ := s_undo (n := 400) h 
  refine dk_aload_n (k := 1) (i := 1) X 1 rfl rfl d_law_328 ?_
  refine dk_pVi X v_Hare_undo m_law_32 [] (c_Hare_undo l g ad T 400  C) e1 (wr := wM g am M) (q0 := 0) (oC_Hare g ad T C) rfl rfl (List.range' 0 (wC g ad T C).length) (List.range' (wC g ad T C).length (wM g am M).length) (dk_rngA _ _) (dk_rngB _ _) (dk_ndr _ _) (dk_ndr _ _) dk_dis rfl rfl ⟨rfl, rfl, Nat.le_of_ble_eq_true rfl, Nat.le_of_ble_eq_true rfl, Nat.le_trans (Nat.le_add_right _ 3) hc, Nat.le_trans (Nat.le_add_right _ 162) hs⟩ (Nat.le_of_ble_eq_true rfl) d_law_329 ?_
  refine dk_aload_n (k := 2) (i := 2) X 2 rfl rfl d_law_332 ?_
  refine dk_pVi X v_Model_undo m_law_36 [] (c_Model_undo l g am 400  M) e2 (wr := wC g ad T C2) (q0 := 0) (oM_Model g am M) rfl rfl (List.range' 0 (wM g am M).length) (List.range' (wM g am M).length (wC g ad T C2).length) (dk_rngA _ _) (dk_rngB _ _) (dk_ndr _ _) (dk_ndr _ _) dk_dis rfl rfl ⟨rfl, rfl, Nat.le_of_ble_eq_true rfl, Nat.le_of_ble_eq_true rfl, Nat.le_trans (Nat.le_add_right _ 3) hc, Nat.le_trans (Nat.le_add_right _ 162) hs⟩ (Nat.le_of_ble_eq_true rfl) d_law_333 ?_
  refine dk_icmp_eq (tgt := 1243) X (by decide) d_law_336 (show (if r = r then some () else none) = some () from if_pos rfl) (fun _ => ?_) (fun hF => by cases hF)
  exact dk_wid (k := cells + 3) (n := slots + 162) (Nat.le_add_right _ 3) (Nat.le_add_right _ 162) (kk ad T C2 M2 h2 rfl)
theorem lw_c5 {p : Program} {l : Launch} {e : Env} {s : State} {m : MethodId} {below : List Frame} {meth : Method} {c : Code} {g : dk_G} {b L : Nat} {xs : Nat → Int32} {Q : State → Prop} (X : dk_X p s m #[Value.ref b] meth c code 4 R_law ret g (fun q => s.heap.size ≤ q)) (hX : va_X b L xs s s.heap) (hb : b < s.heap.size) {cells slots T i : Nat} {ad am : Nat → Nat} {C M : dk_S} (h : Inv T C M) (hi : i + 6 ≤ L) (hL : L ≤ 384) (hc : cells + 3 ≤ room_1.cells) (hs : slots + 162 ≤ room_1.slots) (kk : ∀ (ad2 : Nat → Nat) (T2 : Nat) (C2 M2 : dk_S), Inv T2 C2 M2 → ad2 0 = ad 0 → dk_J p l e room_1 s m #[Value.ref b] below meth c g (fun q => s.heap.size ≤ q) Q 4 (cells + 3) (slots + 162) 1243 [(0, .ref b), (1, .ref (ad 0)), (2, .ref (am 0)), (3, .int (nI i))] [] (wC g ad2 T2 C2 ++ wM g am M2)) : dk_J p l e room_1 s m #[Value.ref b] below meth c g (fun q => s.heap.size ≤ q) Q 4 cells slots 341 [(0, .ref b), (1, .ref (ad 0)), (2, .ref (am 0)), (3, .int (nI i))] [] (wC g ad T C ++ wM g am M) := by
  obtain ⟨r, C2, M2, e1, e2, h2⟩ := s_unsure (n := 400) h (by decide) (xs (i + 1)) (xs (i + 2))
  refine dk_aload_n (k := 1) (i := 1) X 1 rfl rfl d_law_341 ?_
  refine lw_arg X hX hb hi hL 1 (by decide) (by decide) d_law_342 d_law_343 d_law_344 d_law_345 d_law_346 ?_
  refine lw_arg X hX hb hi hL 2 (by decide) (by decide) d_law_347 d_law_348 d_law_349 d_law_350 d_law_351 ?_
  refine dk_pVi X v_Hare_unsure m_law_37 [.int (xs (i + 1)), .int (xs (i + 2))] (c_Hare_unsure l g ad T 400 (xs (i + 1)) (xs (i + 2)) C) e1 (wr := wM g am M) (q0 := 0) (oC_Hare g ad T C) rfl rfl (List.range' 0 (wC g ad T C).length) (List.range' (wC g ad T C).length (wM g am M).length) (dk_rngA _ _) (dk_rngB _ _) (dk_ndr _ _) (dk_ndr _ _) dk_dis rfl rfl ⟨rfl, rfl, Nat.le_of_ble_eq_true rfl, Nat.le_of_ble_eq_true rfl, Nat.le_trans (Nat.le_add_right _ 3) hc, Nat.le_trans (Nat.le_add_right _ 162) hs⟩ (Nat.le_of_ble_eq_true rfl) d_law_352 ?_
  refine dk_aload_n (k := 2) (i := 2) X 2 rfl rfl d_law_355 ?_
  refine lw_arg X hX hb hi hL 1 (by decide) (by decide) d_law_356 d_law_357 d_law_358 d_law_359 d_law_360 ?_
  refine lw_arg X hX hb hi hL 2 (by decide) (by decide) d_law_361 d_law_362 d_law_363 d_law_364 d_law_365 ?_
  refine dk_pVi X v_Model_unsure m_law_40 [.int (xs (i + 1)), .int (xs (i + 2))] (c_Model_unsure l g am 400 (xs (i + 1)) (xs (i + 2)) M) e2 (wr := wC g ad T C2) (q0 := 0) (oM_Model g am M) rfl rfl (List.range' 0 (wM g am M).length) (List.range' (wM g am M).length (wC g ad T C2).length) (dk_rngA _ _) (dk_rngB _ _) (dk_ndr _ _) (dk_ndr _ _) dk_dis rfl rfl ⟨rfl, rfl, Nat.le_of_ble_eq_true rfl, Nat.le_of_ble_eq_true rfl, Nat.le_trans (Nat.le_add_right _ 3) hc, Nat.le_trans (Nat.le_add_right _ 162) hs⟩ (Nat.le_of_ble_eq_true rfl) d_law_366 ?_
  refine dk_icmp_eq (tgt := 1243) X (by decide) d_law_369 (show (if r = r then some () else none) = some () from if_pos rfl) (fun _ => ?_) (fun hF => by cases hF)
  exact dk_wid (k := cells + 3) (n := slots + 162) (Nat.le_add_right _ 3) (Nat.le_add_right _ 162) (kk ad T C2 M2 h2 rfl)
theorem lw_c6 {p : Program} {l : Launch} {e : Env} {s : State} {m : MethodId} {below : List Frame} {meth : Method} {c : Code} {g : dk_G} {b L : Nat} {xs : Nat → Int32} {Q : State → Prop} (X : dk_X p s m #[Value.ref b] meth c code 4 R_law ret g (fun q => s.heap.size ≤ q)) (hX : va_X b L xs s s.heap) (hb : b < s.heap.size) {cells slots T i : Nat} {ad am : Nat → Nat} {C M : dk_S} (h : Inv T C M) (hi : i + 6 ≤ L) (hL : L ≤ 384) (hc : cells + 3 ≤ room_1.cells) (hs : slots + 162 ≤ room_1.slots) (kk : ∀ (ad2 : Nat → Nat) (T2 : Nat) (C2 M2 : dk_S), Inv T2 C2 M2 → ad2 0 = ad 0 → dk_J p l e room_1 s m #[Value.ref b] below meth c g (fun q => s.heap.size ≤ q) Q 4 (cells + 3) (slots + 162) 1243 [(0, .ref b), (1, .ref (ad 0)), (2, .ref (am 0)), (3, .int (nI i))] [] (wC g ad2 T2 C2 ++ wM g am M2)) : dk_J p l e room_1 s m #[Value.ref b] below meth c g (fun q => s.heap.size ≤ q) Q 4 cells slots 374 [(0, .ref b), (1, .ref (ad 0)), (2, .ref (am 0)), (3, .int (nI i))] [] (wC g ad T C ++ wM g am M) := by
  obtain ⟨r, C2, M2, e1, e2, h2⟩ := s_momentTold (n := 400) h (xs (i + 1)) (xs (i + 2))
  refine dk_aload_n (k := 1) (i := 1) X 1 rfl rfl d_law_374 ?_
  refine lw_arg X hX hb hi hL 1 (by decide) (by decide) d_law_375 d_law_376 d_law_377 d_law_378 d_law_379 ?_
  refine lw_arg X hX hb hi hL 2 (by decide) (by decide) d_law_380 d_law_381 d_law_382 d_law_383 d_law_384 ?_
  refine dk_pVi X v_Hare_momentTold m_law_41 [.int (xs (i + 1)), .int (xs (i + 2))] (c_Hare_momentTold l g ad T 400 (xs (i + 1)) (xs (i + 2)) C) e1 (wr := wM g am M) (q0 := 0) (oC_Hare g ad T C) rfl rfl (List.range' 0 (wC g ad T C).length) (List.range' (wC g ad T C).length (wM g am M).length) (dk_rngA _ _) (dk_rngB _ _) (dk_ndr _ _) (dk_ndr _ _) dk_dis rfl rfl ⟨rfl, rfl, Nat.le_of_ble_eq_true rfl, Nat.le_of_ble_eq_true rfl, Nat.le_trans (Nat.le_add_right _ 3) hc, Nat.le_trans (Nat.le_add_right _ 162) hs⟩ (Nat.le_of_ble_eq_true rfl) d_law_385 ?_
  refine dk_aload_n (k := 2) (i := 2) X 2 rfl rfl d_law_388 ?_
  refine lw_arg X hX hb hi hL 1 (by decide) (by decide) d_law_389 d_law_390 d_law_391 d_law_392 d_law_393 ?_
  refine lw_arg X hX hb hi hL 2 (by decide) (by decide) d_law_394 d_law_395 d_law_396 d_law_397 d_law_398 ?_
  refine dk_pVi X v_Model_momentTold m_law_44 [.int (xs (i + 1)), .int (xs (i + 2))] (c_Model_momentTold l g am 400 (xs (i + 1)) (xs (i + 2)) M) e2 (wr := wC g ad T C2) (q0 := 0) (oM_Model g am M) rfl rfl (List.range' 0 (wM g am M).length) (List.range' (wM g am M).length (wC g ad T C2).length) (dk_rngA _ _) (dk_rngB _ _) (dk_ndr _ _) (dk_ndr _ _) dk_dis rfl rfl ⟨rfl, rfl, Nat.le_of_ble_eq_true rfl, Nat.le_of_ble_eq_true rfl, Nat.le_trans (Nat.le_add_right _ 3) hc, Nat.le_trans (Nat.le_add_right _ 162) hs⟩ (Nat.le_of_ble_eq_true rfl) d_law_399 ?_
  refine dk_icmp_eq (tgt := 1243) X (by decide) d_law_402 (show (if r = r then some () else none) = some () from if_pos rfl) (fun _ => ?_) (fun hF => by cases hF)
  exact dk_wid (k := cells + 3) (n := slots + 162) (Nat.le_add_right _ 3) (Nat.le_add_right _ 162) (kk ad T C2 M2 h2 rfl)
theorem lw_c7 {p : Program} {l : Launch} {e : Env} {s : State} {m : MethodId} {below : List Frame} {meth : Method} {c : Code} {g : dk_G} {b L : Nat} {xs : Nat → Int32} {Q : State → Prop} (X : dk_X p s m #[Value.ref b] meth c code 4 R_law ret g (fun q => s.heap.size ≤ q)) (hX : va_X b L xs s s.heap) (hb : b < s.heap.size) {cells slots T i : Nat} {ad am : Nat → Nat} {C M : dk_S} (h : Inv T C M) (hi : i + 6 ≤ L) (hL : L ≤ 384) (hc : cells + 3 ≤ room_1.cells) (hs : slots + 162 ≤ room_1.slots) (kk : ∀ (ad2 : Nat → Nat) (T2 : Nat) (C2 M2 : dk_S), Inv T2 C2 M2 → ad2 0 = ad 0 → dk_J p l e room_1 s m #[Value.ref b] below meth c g (fun q => s.heap.size ≤ q) Q 4 (cells + 3) (slots + 162) 1243 [(0, .ref b), (1, .ref (ad 0)), (2, .ref (am 0)), (3, .int (nI i))] [] (wC g ad2 T2 C2 ++ wM g am M2)) : dk_J p l e room_1 s m #[Value.ref b] below meth c g (fun q => s.heap.size ≤ q) Q 4 cells slots 407 [(0, .ref b), (1, .ref (ad 0)), (2, .ref (am 0)), (3, .int (nI i))] [] (wC g ad T C ++ wM g am M) := by
  obtain ⟨r, C2, M2, e1, e2, h2⟩ := s_feed (n := 400) h (by decide) (((xs (i + 1)).toInt64 <<< ((32 : Int32).toInt64 &&& 63)) ||| ((xs (i + 2)).toInt64 &&& (4294967295 : Int64))) (xs (i + 3))
  refine dk_aload_n (k := 1) (i := 1) X 1 rfl rfl d_law_407 ?_
  refine lw_arg X hX hb hi hL 1 (by decide) (by decide) d_law_408 d_law_409 d_law_410 d_law_411 d_law_412 ?_
  refine dk_i2l X d_law_413 ?_
  refine dk_bipush (v := 32) X (by decide) d_law_414 ?_
  refine dk_lshl X d_law_416 ?_
  refine lw_arg X hX hb hi hL 2 (by decide) (by decide) d_law_417 d_law_418 d_law_419 d_law_420 d_law_421 ?_
  refine dk_i2l X d_law_422 ?_
  refine dk_ldc2 (v := 4294967295) X k_law_45 d_law_423 ?_
  refine dk_land X d_law_426 ?_
  refine dk_lor X d_law_427 ?_
  refine lw_arg X hX hb hi hL 3 (by decide) (by decide) d_law_428 d_law_429 d_law_430 d_law_431 d_law_432 ?_
  refine dk_pVi X v_Hare_feed m_law_47 [.long (((xs (i + 1)).toInt64 <<< ((32 : Int32).toInt64 &&& 63)) ||| ((xs (i + 2)).toInt64 &&& (4294967295 : Int64))), .int (xs (i + 3))] (c_Hare_feed l g ad T 400 (((xs (i + 1)).toInt64 <<< ((32 : Int32).toInt64 &&& 63)) ||| ((xs (i + 2)).toInt64 &&& (4294967295 : Int64))) (xs (i + 3)) C) e1 (wr := wM g am M) (q0 := 0) (oC_Hare g ad T C) rfl rfl (List.range' 0 (wC g ad T C).length) (List.range' (wC g ad T C).length (wM g am M).length) (dk_rngA _ _) (dk_rngB _ _) (dk_ndr _ _) (dk_ndr _ _) dk_dis rfl rfl ⟨rfl, rfl, Nat.le_of_ble_eq_true rfl, Nat.le_of_ble_eq_true rfl, Nat.le_trans (Nat.le_add_right _ 3) hc, Nat.le_trans (Nat.le_add_right _ 162) hs⟩ (Nat.le_of_ble_eq_true rfl) d_law_433 ?_
  refine dk_aload_n (k := 2) (i := 2) X 2 rfl rfl d_law_436 ?_
  refine lw_arg X hX hb hi hL 1 (by decide) (by decide) d_law_437 d_law_438 d_law_439 d_law_440 d_law_441 ?_
  refine dk_i2l X d_law_442 ?_
  refine dk_bipush (v := 32) X (by decide) d_law_443 ?_
  refine dk_lshl X d_law_445 ?_
  refine lw_arg X hX hb hi hL 2 (by decide) (by decide) d_law_446 d_law_447 d_law_448 d_law_449 d_law_450 ?_
  refine dk_i2l X d_law_451 ?_
  refine dk_ldc2 (v := 4294967295) X k_law_45 d_law_452 ?_
  refine dk_land X d_law_455 ?_
  refine dk_lor X d_law_456 ?_
  refine lw_arg X hX hb hi hL 3 (by decide) (by decide) d_law_457 d_law_458 d_law_459 d_law_460 d_law_461 ?_
  refine dk_pVi X v_Model_feed m_law_51 [.long (((xs (i + 1)).toInt64 <<< ((32 : Int32).toInt64 &&& 63)) ||| ((xs (i + 2)).toInt64 &&& (4294967295 : Int64))), .int (xs (i + 3))] (c_Model_feed l g am 400 (((xs (i + 1)).toInt64 <<< ((32 : Int32).toInt64 &&& 63)) ||| ((xs (i + 2)).toInt64 &&& (4294967295 : Int64))) (xs (i + 3)) M) e2 (wr := wC g ad T C2) (q0 := 0) (oM_Model g am M) rfl rfl (List.range' 0 (wM g am M).length) (List.range' (wM g am M).length (wC g ad T C2).length) (dk_rngA _ _) (dk_rngB _ _) (dk_ndr _ _) (dk_ndr _ _) dk_dis rfl rfl ⟨rfl, rfl, Nat.le_of_ble_eq_true rfl, Nat.le_of_ble_eq_true rfl, Nat.le_trans (Nat.le_add_right _ 3) hc, Nat.le_trans (Nat.le_add_right _ 162) hs⟩ (Nat.le_of_ble_eq_true rfl) d_law_462 ?_
  refine dk_icmp_eq (tgt := 1243) X (by decide) d_law_465 (show (if r = r then some () else none) = some () from if_pos rfl) (fun _ => ?_) (fun hF => by cases hF)
  exact dk_wid (k := cells + 3) (n := slots + 162) (Nat.le_add_right _ 3) (Nat.le_add_right _ 162) (kk ad T C2 M2 h2 rfl)
theorem lw_c8 {p : Program} {l : Launch} {e : Env} {s : State} {m : MethodId} {below : List Frame} {meth : Method} {c : Code} {g : dk_G} {b L : Nat} {xs : Nat → Int32} {Q : State → Prop} (X : dk_X p s m #[Value.ref b] meth c code 4 R_law ret g (fun q => s.heap.size ≤ q)) (hX : va_X b L xs s s.heap) (hb : b < s.heap.size) {cells slots T i : Nat} {ad am : Nat → Nat} {C M : dk_S} (h : Inv T C M) (hi : i + 6 ≤ L) (hL : L ≤ 384) (hc : cells + 3 ≤ room_1.cells) (hs : slots + 162 ≤ room_1.slots) (kk : ∀ (ad2 : Nat → Nat) (T2 : Nat) (C2 M2 : dk_S), Inv T2 C2 M2 → ad2 0 = ad 0 → dk_J p l e room_1 s m #[Value.ref b] below meth c g (fun q => s.heap.size ≤ q) Q 4 (cells + 3) (slots + 162) 1243 [(0, .ref b), (1, .ref (ad 0)), (2, .ref (am 0)), (3, .int (nI i))] [] (wC g ad2 T2 C2 ++ wM g am M2)) : dk_J p l e room_1 s m #[Value.ref b] below meth c g (fun q => s.heap.size ≤ q) Q 4 cells slots 470 [(0, .ref b), (1, .ref (ad 0)), (2, .ref (am 0)), (3, .int (nI i))] [] (wC g ad T C ++ wM g am M) := by
  obtain ⟨r, T2, C2, M2, e1, e2, h2⟩ := s_text (n := 400) h (by decide)
  refine dk_aload_n (k := 1) (i := 1) X 1 rfl rfl d_law_470 ?_
  refine dk_nVi X v_Hare_text m_law_52 [] (c_Hare_text l g ad T 400 C _ e1) (wr := wM g am M) (q0 := 0) (oC_Hare g ad T C) rfl rfl (List.range' 0 (wC g ad T C).length) (List.range' (wC g ad T C).length (wM g am M).length) (dk_rngA _ _) (dk_rngB _ _) (dk_ndr _ _) (dk_ndr _ _) dk_dis rfl rfl ⟨rfl, rfl, Nat.le_of_ble_eq_true rfl, Nat.le_of_ble_eq_true rfl, hc, hs⟩ (Nat.le_of_ble_eq_true rfl) d_law_471 (fun r2 u hu => ?_)
  obtain ⟨ad2, T3, C3⟩ := u
  obtain ⟨hu, hu0⟩ := hu
  cases hu
  show dk_J p l e room_1 s m #[Value.ref b] below meth c g (fun q => s.heap.size ≤ q) Q 4 (cells + 3) (slots + 162) 474 [(0, .ref b), (1, .ref (ad 0)), (2, .ref (am 0)), (3, .int (nI i))] [.int r] (wM g am M ++ wC g ad2 T2 C2)
  refine dk_aload_n (k := 2) (i := 2) X 2 rfl rfl d_law_474 ?_
  refine dk_pVi X v_Model_text m_law_55 [] (c_Model_text l g am 400  M) e2 (wr := wC g ad2 T2 C2) (q0 := 0) (oM_Model g am M) rfl rfl (List.range' 0 (wM g am M).length) (List.range' (wM g am M).length (wC g ad2 T2 C2).length) (dk_rngA _ _) (dk_rngB _ _) (dk_ndr _ _) (dk_ndr _ _) dk_dis rfl rfl ⟨rfl, rfl, Nat.le_of_ble_eq_true rfl, Nat.le_of_ble_eq_true rfl, hc, hs⟩ (Nat.le_of_ble_eq_true rfl) d_law_475 ?_
  refine dk_icmp_eq (tgt := 1243) X (by decide) d_law_478 (show (if r = r then some () else none) = some () from if_pos rfl) (fun _ => ?_) (fun hF => by cases hF)
  exact kk ad2 T2 C2 M2 h2 hu0
theorem lw_c9 {p : Program} {l : Launch} {e : Env} {s : State} {m : MethodId} {below : List Frame} {meth : Method} {c : Code} {g : dk_G} {b L : Nat} {xs : Nat → Int32} {Q : State → Prop} (X : dk_X p s m #[Value.ref b] meth c code 4 R_law ret g (fun q => s.heap.size ≤ q)) (hX : va_X b L xs s s.heap) (hb : b < s.heap.size) {cells slots T i : Nat} {ad am : Nat → Nat} {C M : dk_S} (h : Inv T C M) (hi : i + 6 ≤ L) (hL : L ≤ 384) (hc : cells + 3 ≤ room_1.cells) (hs : slots + 162 ≤ room_1.slots) (kk : ∀ (ad2 : Nat → Nat) (T2 : Nat) (C2 M2 : dk_S), Inv T2 C2 M2 → ad2 0 = ad 0 → dk_J p l e room_1 s m #[Value.ref b] below meth c g (fun q => s.heap.size ≤ q) Q 4 (cells + 3) (slots + 162) 1243 [(0, .ref b), (1, .ref (ad 0)), (2, .ref (am 0)), (3, .int (nI i))] [] (wC g ad2 T2 C2 ++ wM g am M2)) : dk_J p l e room_1 s m #[Value.ref b] below meth c g (fun q => s.heap.size ≤ q) Q 4 cells slots 483 [(0, .ref b), (1, .ref (ad 0)), (2, .ref (am 0)), (3, .int (nI i))] [] (wC g ad T C ++ wM g am M) := by
  obtain ⟨r, C2, M2, e1, e2, h2⟩ := s_force (n := 400) h (xs (i + 1))
  refine dk_aload_n (k := 1) (i := 1) X 1 rfl rfl d_law_483 ?_
  refine lw_arg X hX hb hi hL 1 (by decide) (by decide) d_law_484 d_law_485 d_law_486 d_law_487 d_law_488 ?_
  refine dk_pVi X v_Hare_force m_law_56 [.int (xs (i + 1))] (c_Hare_force l g ad T 400 (xs (i + 1)) C) e1 (wr := wM g am M) (q0 := 0) (oC_Hare g ad T C) rfl rfl (List.range' 0 (wC g ad T C).length) (List.range' (wC g ad T C).length (wM g am M).length) (dk_rngA _ _) (dk_rngB _ _) (dk_ndr _ _) (dk_ndr _ _) dk_dis rfl rfl ⟨rfl, rfl, Nat.le_of_ble_eq_true rfl, Nat.le_of_ble_eq_true rfl, Nat.le_trans (Nat.le_add_right _ 3) hc, Nat.le_trans (Nat.le_add_right _ 162) hs⟩ (Nat.le_of_ble_eq_true rfl) d_law_489 ?_
  refine dk_aload_n (k := 2) (i := 2) X 2 rfl rfl d_law_492 ?_
  refine lw_arg X hX hb hi hL 1 (by decide) (by decide) d_law_493 d_law_494 d_law_495 d_law_496 d_law_497 ?_
  refine dk_pVi X v_Model_force m_law_59 [.int (xs (i + 1))] (c_Model_force l g am 400 (xs (i + 1)) M) e2 (wr := wC g ad T C2) (q0 := 0) (oM_Model g am M) rfl rfl (List.range' 0 (wM g am M).length) (List.range' (wM g am M).length (wC g ad T C2).length) (dk_rngA _ _) (dk_rngB _ _) (dk_ndr _ _) (dk_ndr _ _) dk_dis rfl rfl ⟨rfl, rfl, Nat.le_of_ble_eq_true rfl, Nat.le_of_ble_eq_true rfl, Nat.le_trans (Nat.le_add_right _ 3) hc, Nat.le_trans (Nat.le_add_right _ 162) hs⟩ (Nat.le_of_ble_eq_true rfl) d_law_498 ?_
  refine dk_icmp_eq (tgt := 1243) X (by decide) d_law_501 (show (if r = r then some () else none) = some () from if_pos rfl) (fun _ => ?_) (fun hF => by cases hF)
  exact dk_wid (k := cells + 3) (n := slots + 162) (Nat.le_add_right _ 3) (Nat.le_add_right _ 162) (kk ad T C2 M2 h2 rfl)
theorem lw_c10 {p : Program} {l : Launch} {e : Env} {s : State} {m : MethodId} {below : List Frame} {meth : Method} {c : Code} {g : dk_G} {b L : Nat} {xs : Nat → Int32} {Q : State → Prop} (X : dk_X p s m #[Value.ref b] meth c code 4 R_law ret g (fun q => s.heap.size ≤ q)) (hX : va_X b L xs s s.heap) (hb : b < s.heap.size) {cells slots T i : Nat} {ad am : Nat → Nat} {C M : dk_S} (h : Inv T C M) (hi : i + 6 ≤ L) (hL : L ≤ 384) (hc : cells + 3 ≤ room_1.cells) (hs : slots + 162 ≤ room_1.slots) (kk : ∀ (ad2 : Nat → Nat) (T2 : Nat) (C2 M2 : dk_S), Inv T2 C2 M2 → ad2 0 = ad 0 → dk_J p l e room_1 s m #[Value.ref b] below meth c g (fun q => s.heap.size ≤ q) Q 4 (cells + 3) (slots + 162) 1243 [(0, .ref b), (1, .ref (ad 0)), (2, .ref (am 0)), (3, .int (nI i))] [] (wC g ad2 T2 C2 ++ wM g am M2)) : dk_J p l e room_1 s m #[Value.ref b] below meth c g (fun q => s.heap.size ≤ q) Q 4 cells slots 506 [(0, .ref b), (1, .ref (ad 0)), (2, .ref (am 0)), (3, .int (nI i))] [] (wC g ad T C ++ wM g am M) := by
  obtain ⟨r, C2, M2, e1, e2, h2⟩ := s_follow (n := 400) h (by decide) (xs (i + 1)) (xs (i + 2)) (xs (i + 3))
  refine dk_aload_n (k := 1) (i := 1) X 1 rfl rfl d_law_506 ?_
  refine lw_arg X hX hb hi hL 1 (by decide) (by decide) d_law_507 d_law_508 d_law_509 d_law_510 d_law_511 ?_
  refine lw_arg X hX hb hi hL 2 (by decide) (by decide) d_law_512 d_law_513 d_law_514 d_law_515 d_law_516 ?_
  refine lw_arg X hX hb hi hL 3 (by decide) (by decide) d_law_517 d_law_518 d_law_519 d_law_520 d_law_521 ?_
  refine dk_pVi X v_Hare_follow m_law_60 [.int (xs (i + 1)), .int (xs (i + 2)), .int (xs (i + 3))] (c_Hare_follow l g ad T 400 (xs (i + 1)) (xs (i + 2)) (xs (i + 3)) C) e1 (wr := wM g am M) (q0 := 0) (oC_Hare g ad T C) rfl rfl (List.range' 0 (wC g ad T C).length) (List.range' (wC g ad T C).length (wM g am M).length) (dk_rngA _ _) (dk_rngB _ _) (dk_ndr _ _) (dk_ndr _ _) dk_dis rfl rfl ⟨rfl, rfl, Nat.le_of_ble_eq_true rfl, Nat.le_of_ble_eq_true rfl, Nat.le_trans (Nat.le_add_right _ 3) hc, Nat.le_trans (Nat.le_add_right _ 162) hs⟩ (Nat.le_of_ble_eq_true rfl) d_law_522 ?_
  refine dk_aload_n (k := 2) (i := 2) X 2 rfl rfl d_law_525 ?_
  refine lw_arg X hX hb hi hL 1 (by decide) (by decide) d_law_526 d_law_527 d_law_528 d_law_529 d_law_530 ?_
  refine lw_arg X hX hb hi hL 2 (by decide) (by decide) d_law_531 d_law_532 d_law_533 d_law_534 d_law_535 ?_
  refine lw_arg X hX hb hi hL 3 (by decide) (by decide) d_law_536 d_law_537 d_law_538 d_law_539 d_law_540 ?_
  refine dk_pVi X v_Model_follow m_law_64 [.int (xs (i + 1)), .int (xs (i + 2)), .int (xs (i + 3))] (c_Model_follow l g am 400 (xs (i + 1)) (xs (i + 2)) (xs (i + 3)) M) e2 (wr := wC g ad T C2) (q0 := 0) (oM_Model g am M) rfl rfl (List.range' 0 (wM g am M).length) (List.range' (wM g am M).length (wC g ad T C2).length) (dk_rngA _ _) (dk_rngB _ _) (dk_ndr _ _) (dk_ndr _ _) dk_dis rfl rfl ⟨rfl, rfl, Nat.le_of_ble_eq_true rfl, Nat.le_of_ble_eq_true rfl, Nat.le_trans (Nat.le_add_right _ 3) hc, Nat.le_trans (Nat.le_add_right _ 162) hs⟩ (Nat.le_of_ble_eq_true rfl) d_law_541 ?_
  refine dk_icmp_eq (tgt := 1243) X (by decide) d_law_544 (show (if r = r then some () else none) = some () from if_pos rfl) (fun _ => ?_) (fun hF => by cases hF)
  exact dk_wid (k := cells + 3) (n := slots + 162) (Nat.le_add_right _ 3) (Nat.le_add_right _ 162) (kk ad T C2 M2 h2 rfl)
theorem lw_c11 {p : Program} {l : Launch} {e : Env} {s : State} {m : MethodId} {below : List Frame} {meth : Method} {c : Code} {g : dk_G} {b L : Nat} {xs : Nat → Int32} {Q : State → Prop} (X : dk_X p s m #[Value.ref b] meth c code 4 R_law ret g (fun q => s.heap.size ≤ q)) (hX : va_X b L xs s s.heap) (hb : b < s.heap.size) {cells slots T i : Nat} {ad am : Nat → Nat} {C M : dk_S} (h : Inv T C M) (hi : i + 6 ≤ L) (hL : L ≤ 384) (hc : cells + 3 ≤ room_1.cells) (hs : slots + 162 ≤ room_1.slots) (kk : ∀ (ad2 : Nat → Nat) (T2 : Nat) (C2 M2 : dk_S), Inv T2 C2 M2 → ad2 0 = ad 0 → dk_J p l e room_1 s m #[Value.ref b] below meth c g (fun q => s.heap.size ≤ q) Q 4 (cells + 3) (slots + 162) 1243 [(0, .ref b), (1, .ref (ad 0)), (2, .ref (am 0)), (3, .int (nI i))] [] (wC g ad2 T2 C2 ++ wM g am M2)) : dk_J p l e room_1 s m #[Value.ref b] below meth c g (fun q => s.heap.size ≤ q) Q 4 cells slots 549 [(0, .ref b), (1, .ref (ad 0)), (2, .ref (am 0)), (3, .int (nI i))] [] (wC g ad T C ++ wM g am M) := by
  obtain ⟨r, C2, M2, e1, e2, h2⟩ := s_claims (n := 400) h (by decide) (xs (i + 1))
  refine dk_aload_n (k := 1) (i := 1) X 1 rfl rfl d_law_549 ?_
  refine lw_arg X hX hb hi hL 1 (by decide) (by decide) d_law_550 d_law_551 d_law_552 d_law_553 d_law_554 ?_
  refine dk_pVi X v_Hare_claims m_law_65 [.int (xs (i + 1))] (c_Hare_claims l g ad T 400 (xs (i + 1)) C) e1 (wr := wM g am M) (q0 := 0) (oC_Hare g ad T C) rfl rfl (List.range' 0 (wC g ad T C).length) (List.range' (wC g ad T C).length (wM g am M).length) (dk_rngA _ _) (dk_rngB _ _) (dk_ndr _ _) (dk_ndr _ _) dk_dis rfl rfl ⟨rfl, rfl, Nat.le_of_ble_eq_true rfl, Nat.le_of_ble_eq_true rfl, Nat.le_trans (Nat.le_add_right _ 3) hc, Nat.le_trans (Nat.le_add_right _ 162) hs⟩ (Nat.le_of_ble_eq_true rfl) d_law_555 ?_
  refine dk_aload_n (k := 2) (i := 2) X 2 rfl rfl d_law_558 ?_
  refine lw_arg X hX hb hi hL 1 (by decide) (by decide) d_law_559 d_law_560 d_law_561 d_law_562 d_law_563 ?_
  refine dk_pVi X v_Model_claims m_law_68 [.int (xs (i + 1))] (c_Model_claims l g am 400 (xs (i + 1)) M) e2 (wr := wC g ad T C2) (q0 := 0) (oM_Model g am M) rfl rfl (List.range' 0 (wM g am M).length) (List.range' (wM g am M).length (wC g ad T C2).length) (dk_rngA _ _) (dk_rngB _ _) (dk_ndr _ _) (dk_ndr _ _) dk_dis rfl rfl ⟨rfl, rfl, Nat.le_of_ble_eq_true rfl, Nat.le_of_ble_eq_true rfl, Nat.le_trans (Nat.le_add_right _ 3) hc, Nat.le_trans (Nat.le_add_right _ 162) hs⟩ (Nat.le_of_ble_eq_true rfl) d_law_564 ?_
  refine dk_icmp_eq (tgt := 1243) X (by decide) d_law_567 (show (if r = r then some () else none) = some () from if_pos rfl) (fun _ => ?_) (fun hF => by cases hF)
  exact dk_wid (k := cells + 3) (n := slots + 162) (Nat.le_add_right _ 3) (Nat.le_add_right _ 162) (kk ad T C2 M2 h2 rfl)
theorem lw_c12 {p : Program} {l : Launch} {e : Env} {s : State} {m : MethodId} {below : List Frame} {meth : Method} {c : Code} {g : dk_G} {b L : Nat} {xs : Nat → Int32} {Q : State → Prop} (X : dk_X p s m #[Value.ref b] meth c code 4 R_law ret g (fun q => s.heap.size ≤ q)) (hX : va_X b L xs s s.heap) (hb : b < s.heap.size) {cells slots T i : Nat} {ad am : Nat → Nat} {C M : dk_S} (h : Inv T C M) (hi : i + 6 ≤ L) (hL : L ≤ 384) (hc : cells + 3 ≤ room_1.cells) (hs : slots + 162 ≤ room_1.slots) (kk : ∀ (ad2 : Nat → Nat) (T2 : Nat) (C2 M2 : dk_S), Inv T2 C2 M2 → ad2 0 = ad 0 → dk_J p l e room_1 s m #[Value.ref b] below meth c g (fun q => s.heap.size ≤ q) Q 4 (cells + 3) (slots + 162) 1243 [(0, .ref b), (1, .ref (ad 0)), (2, .ref (am 0)), (3, .int (nI i))] [] (wC g ad2 T2 C2 ++ wM g am M2)) : dk_J p l e room_1 s m #[Value.ref b] below meth c g (fun q => s.heap.size ≤ q) Q 4 cells slots 572 [(0, .ref b), (1, .ref (ad 0)), (2, .ref (am 0)), (3, .int (nI i))] [] (wC g ad T C ++ wM g am M) := by
  obtain ⟨r, C2, M2, e1, e2, h2⟩ := s_claimTold (n := 400) h (by decide) (xs (i + 1)) (xs (i + 2)) (xs (i + 3))
  refine dk_aload_n (k := 1) (i := 1) X 1 rfl rfl d_law_572 ?_
  refine lw_arg X hX hb hi hL 1 (by decide) (by decide) d_law_573 d_law_574 d_law_575 d_law_576 d_law_577 ?_
  refine lw_arg X hX hb hi hL 2 (by decide) (by decide) d_law_578 d_law_579 d_law_580 d_law_581 d_law_582 ?_
  refine lw_arg X hX hb hi hL 3 (by decide) (by decide) d_law_583 d_law_584 d_law_585 d_law_586 d_law_587 ?_
  refine dk_pVi X v_Hare_claimTold m_law_69 [.int (xs (i + 1)), .int (xs (i + 2)), .int (xs (i + 3))] (c_Hare_claimTold l g ad T 400 (xs (i + 1)) (xs (i + 2)) (xs (i + 3)) C) e1 (wr := wM g am M) (q0 := 0) (oC_Hare g ad T C) rfl rfl (List.range' 0 (wC g ad T C).length) (List.range' (wC g ad T C).length (wM g am M).length) (dk_rngA _ _) (dk_rngB _ _) (dk_ndr _ _) (dk_ndr _ _) dk_dis rfl rfl ⟨rfl, rfl, Nat.le_of_ble_eq_true rfl, Nat.le_of_ble_eq_true rfl, Nat.le_trans (Nat.le_add_right _ 3) hc, Nat.le_trans (Nat.le_add_right _ 162) hs⟩ (Nat.le_of_ble_eq_true rfl) d_law_588 ?_
  refine dk_aload_n (k := 2) (i := 2) X 2 rfl rfl d_law_591 ?_
  refine lw_arg X hX hb hi hL 1 (by decide) (by decide) d_law_592 d_law_593 d_law_594 d_law_595 d_law_596 ?_
  refine lw_arg X hX hb hi hL 2 (by decide) (by decide) d_law_597 d_law_598 d_law_599 d_law_600 d_law_601 ?_
  refine lw_arg X hX hb hi hL 3 (by decide) (by decide) d_law_602 d_law_603 d_law_604 d_law_605 d_law_606 ?_
  refine dk_pVi X v_Model_claimTold m_law_72 [.int (xs (i + 1)), .int (xs (i + 2)), .int (xs (i + 3))] (c_Model_claimTold l g am 400 (xs (i + 1)) (xs (i + 2)) (xs (i + 3)) M) e2 (wr := wC g ad T C2) (q0 := 0) (oM_Model g am M) rfl rfl (List.range' 0 (wM g am M).length) (List.range' (wM g am M).length (wC g ad T C2).length) (dk_rngA _ _) (dk_rngB _ _) (dk_ndr _ _) (dk_ndr _ _) dk_dis rfl rfl ⟨rfl, rfl, Nat.le_of_ble_eq_true rfl, Nat.le_of_ble_eq_true rfl, Nat.le_trans (Nat.le_add_right _ 3) hc, Nat.le_trans (Nat.le_add_right _ 162) hs⟩ (Nat.le_of_ble_eq_true rfl) d_law_607 ?_
  refine dk_icmp_eq (tgt := 1243) X (by decide) d_law_610 (show (if r = r then some () else none) = some () from if_pos rfl) (fun _ => ?_) (fun hF => by cases hF)
  exact dk_wid (k := cells + 3) (n := slots + 162) (Nat.le_add_right _ 3) (Nat.le_add_right _ 162) (kk ad T C2 M2 h2 rfl)
theorem lw_c13 {p : Program} {l : Launch} {e : Env} {s : State} {m : MethodId} {below : List Frame} {meth : Method} {c : Code} {g : dk_G} {b L : Nat} {xs : Nat → Int32} {Q : State → Prop} (X : dk_X p s m #[Value.ref b] meth c code 4 R_law ret g (fun q => s.heap.size ≤ q)) (hX : va_X b L xs s s.heap) (hb : b < s.heap.size) {cells slots T i : Nat} {ad am : Nat → Nat} {C M : dk_S} (h : Inv T C M) (hi : i + 6 ≤ L) (hL : L ≤ 384) (hc : cells + 3 ≤ room_1.cells) (hs : slots + 162 ≤ room_1.slots) (kk : ∀ (ad2 : Nat → Nat) (T2 : Nat) (C2 M2 : dk_S), Inv T2 C2 M2 → ad2 0 = ad 0 → dk_J p l e room_1 s m #[Value.ref b] below meth c g (fun q => s.heap.size ≤ q) Q 4 (cells + 3) (slots + 162) 1243 [(0, .ref b), (1, .ref (ad 0)), (2, .ref (am 0)), (3, .int (nI i))] [] (wC g ad2 T2 C2 ++ wM g am M2)) : dk_J p l e room_1 s m #[Value.ref b] below meth c g (fun q => s.heap.size ≤ q) Q 4 cells slots 615 [(0, .ref b), (1, .ref (ad 0)), (2, .ref (am 0)), (3, .int (nI i))] [] (wC g ad T C ++ wM g am M) := by
  obtain ⟨r, C2, M2, e1, e2, h2⟩ := s_whoseIs (n := 400) h (by decide) (xs (i + 1)) (xs (i + 2))
  refine dk_aload_n (k := 1) (i := 1) X 1 rfl rfl d_law_615 ?_
  refine lw_arg X hX hb hi hL 1 (by decide) (by decide) d_law_616 d_law_617 d_law_618 d_law_619 d_law_620 ?_
  refine lw_arg X hX hb hi hL 2 (by decide) (by decide) d_law_621 d_law_622 d_law_623 d_law_624 d_law_625 ?_
  refine dk_pVi X v_Hare_whoseIs m_law_73 [.int (xs (i + 1)), .int (xs (i + 2))] (c_Hare_whoseIs l g ad T 400 (xs (i + 1)) (xs (i + 2)) C) e1 (wr := wM g am M) (q0 := 0) (oC_Hare g ad T C) rfl rfl (List.range' 0 (wC g ad T C).length) (List.range' (wC g ad T C).length (wM g am M).length) (dk_rngA _ _) (dk_rngB _ _) (dk_ndr _ _) (dk_ndr _ _) dk_dis rfl rfl ⟨rfl, rfl, Nat.le_of_ble_eq_true rfl, Nat.le_of_ble_eq_true rfl, Nat.le_trans (Nat.le_add_right _ 3) hc, Nat.le_trans (Nat.le_add_right _ 162) hs⟩ (Nat.le_of_ble_eq_true rfl) d_law_626 ?_
  refine dk_aload_n (k := 2) (i := 2) X 2 rfl rfl d_law_629 ?_
  refine lw_arg X hX hb hi hL 1 (by decide) (by decide) d_law_630 d_law_631 d_law_632 d_law_633 d_law_634 ?_
  refine lw_arg X hX hb hi hL 2 (by decide) (by decide) d_law_635 d_law_636 d_law_637 d_law_638 d_law_639 ?_
  refine dk_pVi X v_Model_whoseIs m_law_76 [.int (xs (i + 1)), .int (xs (i + 2))] (c_Model_whoseIs l g am 400 (xs (i + 1)) (xs (i + 2)) M) e2 (wr := wC g ad T C2) (q0 := 0) (oM_Model g am M) rfl rfl (List.range' 0 (wM g am M).length) (List.range' (wM g am M).length (wC g ad T C2).length) (dk_rngA _ _) (dk_rngB _ _) (dk_ndr _ _) (dk_ndr _ _) dk_dis rfl rfl ⟨rfl, rfl, Nat.le_of_ble_eq_true rfl, Nat.le_of_ble_eq_true rfl, Nat.le_trans (Nat.le_add_right _ 3) hc, Nat.le_trans (Nat.le_add_right _ 162) hs⟩ (Nat.le_of_ble_eq_true rfl) d_law_640 ?_
  refine dk_icmp_eq (tgt := 1243) X (by decide) d_law_643 (show (if r = r then some () else none) = some () from if_pos rfl) (fun _ => ?_) (fun hF => by cases hF)
  exact dk_wid (k := cells + 3) (n := slots + 162) (Nat.le_add_right _ 3) (Nat.le_add_right _ 162) (kk ad T C2 M2 h2 rfl)
theorem lw_c14 {p : Program} {l : Launch} {e : Env} {s : State} {m : MethodId} {below : List Frame} {meth : Method} {c : Code} {g : dk_G} {b L : Nat} {xs : Nat → Int32} {Q : State → Prop} (X : dk_X p s m #[Value.ref b] meth c code 4 R_law ret g (fun q => s.heap.size ≤ q)) (hX : va_X b L xs s s.heap) (hb : b < s.heap.size) {cells slots T i : Nat} {ad am : Nat → Nat} {C M : dk_S} (h : Inv T C M) (hi : i + 6 ≤ L) (hL : L ≤ 384) (hc : cells + 3 ≤ room_1.cells) (hs : slots + 162 ≤ room_1.slots) (kk : ∀ (ad2 : Nat → Nat) (T2 : Nat) (C2 M2 : dk_S), Inv T2 C2 M2 → ad2 0 = ad 0 → dk_J p l e room_1 s m #[Value.ref b] below meth c g (fun q => s.heap.size ≤ q) Q 4 (cells + 3) (slots + 162) 1243 [(0, .ref b), (1, .ref (ad 0)), (2, .ref (am 0)), (3, .int (nI i))] [] (wC g ad2 T2 C2 ++ wM g am M2)) : dk_J p l e room_1 s m #[Value.ref b] below meth c g (fun q => s.heap.size ≤ q) Q 4 cells slots 648 [(0, .ref b), (1, .ref (ad 0)), (2, .ref (am 0)), (3, .int (nI i))] [] (wC g ad T C ++ wM g am M) := by
  obtain ⟨r, C2, M2, e1, e2, h2⟩ := s_why (n := 400) h (by decide) (xs (i + 1)) (xs (i + 2))
  refine dk_aload_n (k := 1) (i := 1) X 1 rfl rfl d_law_648 ?_
  refine lw_arg X hX hb hi hL 1 (by decide) (by decide) d_law_649 d_law_650 d_law_651 d_law_652 d_law_653 ?_
  refine lw_arg X hX hb hi hL 2 (by decide) (by decide) d_law_654 d_law_655 d_law_656 d_law_657 d_law_658 ?_
  refine dk_pVi X v_Hare_why m_law_77 [.int (xs (i + 1)), .int (xs (i + 2))] (c_Hare_why l g ad T 400 (xs (i + 1)) (xs (i + 2)) C) e1 (wr := wM g am M) (q0 := 0) (oC_Hare g ad T C) rfl rfl (List.range' 0 (wC g ad T C).length) (List.range' (wC g ad T C).length (wM g am M).length) (dk_rngA _ _) (dk_rngB _ _) (dk_ndr _ _) (dk_ndr _ _) dk_dis rfl rfl ⟨rfl, rfl, Nat.le_of_ble_eq_true rfl, Nat.le_of_ble_eq_true rfl, Nat.le_trans (Nat.le_add_right _ 3) hc, Nat.le_trans (Nat.le_add_right _ 162) hs⟩ (Nat.le_of_ble_eq_true rfl) d_law_659 ?_
  refine dk_aload_n (k := 2) (i := 2) X 2 rfl rfl d_law_662 ?_
  refine lw_arg X hX hb hi hL 1 (by decide) (by decide) d_law_663 d_law_664 d_law_665 d_law_666 d_law_667 ?_
  refine lw_arg X hX hb hi hL 2 (by decide) (by decide) d_law_668 d_law_669 d_law_670 d_law_671 d_law_672 ?_
  refine dk_pVi X v_Model_why m_law_80 [.int (xs (i + 1)), .int (xs (i + 2))] (c_Model_why l g am 400 (xs (i + 1)) (xs (i + 2)) M) e2 (wr := wC g ad T C2) (q0 := 0) (oM_Model g am M) rfl rfl (List.range' 0 (wM g am M).length) (List.range' (wM g am M).length (wC g ad T C2).length) (dk_rngA _ _) (dk_rngB _ _) (dk_ndr _ _) (dk_ndr _ _) dk_dis rfl rfl ⟨rfl, rfl, Nat.le_of_ble_eq_true rfl, Nat.le_of_ble_eq_true rfl, Nat.le_trans (Nat.le_add_right _ 3) hc, Nat.le_trans (Nat.le_add_right _ 162) hs⟩ (Nat.le_of_ble_eq_true rfl) d_law_673 ?_
  refine dk_icmp_eq (tgt := 1243) X (by decide) d_law_676 (show (if r = r then some () else none) = some () from if_pos rfl) (fun _ => ?_) (fun hF => by cases hF)
  exact dk_wid (k := cells + 3) (n := slots + 162) (Nat.le_add_right _ 3) (Nat.le_add_right _ 162) (kk ad T C2 M2 h2 rfl)
theorem lw_c15 {p : Program} {l : Launch} {e : Env} {s : State} {m : MethodId} {below : List Frame} {meth : Method} {c : Code} {g : dk_G} {b L : Nat} {xs : Nat → Int32} {Q : State → Prop} (X : dk_X p s m #[Value.ref b] meth c code 4 R_law ret g (fun q => s.heap.size ≤ q)) (hX : va_X b L xs s s.heap) (hb : b < s.heap.size) {cells slots T i : Nat} {ad am : Nat → Nat} {C M : dk_S} (h : Inv T C M) (hi : i + 6 ≤ L) (hL : L ≤ 384) (hc : cells + 3 ≤ room_1.cells) (hs : slots + 162 ≤ room_1.slots) (kk : ∀ (ad2 : Nat → Nat) (T2 : Nat) (C2 M2 : dk_S), Inv T2 C2 M2 → ad2 0 = ad 0 → dk_J p l e room_1 s m #[Value.ref b] below meth c g (fun q => s.heap.size ≤ q) Q 4 (cells + 3) (slots + 162) 1243 [(0, .ref b), (1, .ref (ad 0)), (2, .ref (am 0)), (3, .int (nI i))] [] (wC g ad2 T2 C2 ++ wM g am M2)) : dk_J p l e room_1 s m #[Value.ref b] below meth c g (fun q => s.heap.size ≤ q) Q 4 cells slots 681 [(0, .ref b), (1, .ref (ad 0)), (2, .ref (am 0)), (3, .int (nI i))] [] (wC g ad T C ++ wM g am M) := by
  obtain ⟨r, C2, M2, e1, e2, h2⟩ := s_where (n := 400) h (by decide) (xs (i + 1)) (xs (i + 2)) (xs (i + 3))
  refine dk_aload_n (k := 1) (i := 1) X 1 rfl rfl d_law_681 ?_
  refine lw_arg X hX hb hi hL 1 (by decide) (by decide) d_law_682 d_law_683 d_law_684 d_law_685 d_law_686 ?_
  refine lw_arg X hX hb hi hL 2 (by decide) (by decide) d_law_687 d_law_688 d_law_689 d_law_690 d_law_691 ?_
  refine lw_arg X hX hb hi hL 3 (by decide) (by decide) d_law_692 d_law_693 d_law_694 d_law_695 d_law_696 ?_
  refine dk_pVi X v_Hare_where m_law_81 [.int (xs (i + 1)), .int (xs (i + 2)), .int (xs (i + 3))] (c_Hare_where l g ad T 400 (xs (i + 1)) (xs (i + 2)) (xs (i + 3)) C) e1 (wr := wM g am M) (q0 := 0) (oC_Hare g ad T C) rfl rfl (List.range' 0 (wC g ad T C).length) (List.range' (wC g ad T C).length (wM g am M).length) (dk_rngA _ _) (dk_rngB _ _) (dk_ndr _ _) (dk_ndr _ _) dk_dis rfl rfl ⟨rfl, rfl, Nat.le_of_ble_eq_true rfl, Nat.le_of_ble_eq_true rfl, Nat.le_trans (Nat.le_add_right _ 3) hc, Nat.le_trans (Nat.le_add_right _ 162) hs⟩ (Nat.le_of_ble_eq_true rfl) d_law_697 ?_
  refine dk_aload_n (k := 2) (i := 2) X 2 rfl rfl d_law_700 ?_
  refine lw_arg X hX hb hi hL 1 (by decide) (by decide) d_law_701 d_law_702 d_law_703 d_law_704 d_law_705 ?_
  refine lw_arg X hX hb hi hL 2 (by decide) (by decide) d_law_706 d_law_707 d_law_708 d_law_709 d_law_710 ?_
  refine lw_arg X hX hb hi hL 3 (by decide) (by decide) d_law_711 d_law_712 d_law_713 d_law_714 d_law_715 ?_
  refine dk_pVi X v_Model_where m_law_84 [.int (xs (i + 1)), .int (xs (i + 2)), .int (xs (i + 3))] (c_Model_where l g am 400 (xs (i + 1)) (xs (i + 2)) (xs (i + 3)) M) e2 (wr := wC g ad T C2) (q0 := 0) (oM_Model g am M) rfl rfl (List.range' 0 (wM g am M).length) (List.range' (wM g am M).length (wC g ad T C2).length) (dk_rngA _ _) (dk_rngB _ _) (dk_ndr _ _) (dk_ndr _ _) dk_dis rfl rfl ⟨rfl, rfl, Nat.le_of_ble_eq_true rfl, Nat.le_of_ble_eq_true rfl, Nat.le_trans (Nat.le_add_right _ 3) hc, Nat.le_trans (Nat.le_add_right _ 162) hs⟩ (Nat.le_of_ble_eq_true rfl) d_law_716 ?_
  refine dk_icmp_eq (tgt := 1243) X (by decide) d_law_719 (show (if r = r then some () else none) = some () from if_pos rfl) (fun _ => ?_) (fun hF => by cases hF)
  exact dk_wid (k := cells + 3) (n := slots + 162) (Nat.le_add_right _ 3) (Nat.le_add_right _ 162) (kk ad T C2 M2 h2 rfl)
theorem lw_c16 {p : Program} {l : Launch} {e : Env} {s : State} {m : MethodId} {below : List Frame} {meth : Method} {c : Code} {g : dk_G} {b L : Nat} {xs : Nat → Int32} {Q : State → Prop} (X : dk_X p s m #[Value.ref b] meth c code 4 R_law ret g (fun q => s.heap.size ≤ q)) (hX : va_X b L xs s s.heap) (hb : b < s.heap.size) {cells slots T i : Nat} {ad am : Nat → Nat} {C M : dk_S} (h : Inv T C M) (hi : i + 6 ≤ L) (hL : L ≤ 384) (hc : cells + 3 ≤ room_1.cells) (hs : slots + 162 ≤ room_1.slots) (kk : ∀ (ad2 : Nat → Nat) (T2 : Nat) (C2 M2 : dk_S), Inv T2 C2 M2 → ad2 0 = ad 0 → dk_J p l e room_1 s m #[Value.ref b] below meth c g (fun q => s.heap.size ≤ q) Q 4 (cells + 3) (slots + 162) 1243 [(0, .ref b), (1, .ref (ad 0)), (2, .ref (am 0)), (3, .int (nI i))] [] (wC g ad2 T2 C2 ++ wM g am M2)) : dk_J p l e room_1 s m #[Value.ref b] below meth c g (fun q => s.heap.size ≤ q) Q 4 cells slots 724 [(0, .ref b), (1, .ref (ad 0)), (2, .ref (am 0)), (3, .int (nI i))] [] (wC g ad T C ++ wM g am M) := by
  obtain ⟨r, C2, M2, e1, e2, h2⟩ := s_nobody (n := 400) h (by decide) (xs (i + 1))
  refine dk_aload_n (k := 1) (i := 1) X 1 rfl rfl d_law_724 ?_
  refine lw_arg X hX hb hi hL 1 (by decide) (by decide) d_law_725 d_law_726 d_law_727 d_law_728 d_law_729 ?_
  refine dk_pVi X v_Hare_nobody m_law_85 [.int (xs (i + 1))] (c_Hare_nobody l g ad T 400 (xs (i + 1)) C) e1 (wr := wM g am M) (q0 := 0) (oC_Hare g ad T C) rfl rfl (List.range' 0 (wC g ad T C).length) (List.range' (wC g ad T C).length (wM g am M).length) (dk_rngA _ _) (dk_rngB _ _) (dk_ndr _ _) (dk_ndr _ _) dk_dis rfl rfl ⟨rfl, rfl, Nat.le_of_ble_eq_true rfl, Nat.le_of_ble_eq_true rfl, Nat.le_trans (Nat.le_add_right _ 3) hc, Nat.le_trans (Nat.le_add_right _ 162) hs⟩ (Nat.le_of_ble_eq_true rfl) d_law_730 ?_
  refine dk_aload_n (k := 2) (i := 2) X 2 rfl rfl d_law_733 ?_
  refine lw_arg X hX hb hi hL 1 (by decide) (by decide) d_law_734 d_law_735 d_law_736 d_law_737 d_law_738 ?_
  refine dk_pVi X v_Model_nobody m_law_88 [.int (xs (i + 1))] (c_Model_nobody l g am 400 (xs (i + 1)) M) e2 (wr := wC g ad T C2) (q0 := 0) (oM_Model g am M) rfl rfl (List.range' 0 (wM g am M).length) (List.range' (wM g am M).length (wC g ad T C2).length) (dk_rngA _ _) (dk_rngB _ _) (dk_ndr _ _) (dk_ndr _ _) dk_dis rfl rfl ⟨rfl, rfl, Nat.le_of_ble_eq_true rfl, Nat.le_of_ble_eq_true rfl, Nat.le_trans (Nat.le_add_right _ 3) hc, Nat.le_trans (Nat.le_add_right _ 162) hs⟩ (Nat.le_of_ble_eq_true rfl) d_law_739 ?_
  refine dk_icmp_eq (tgt := 1243) X (by decide) d_law_742 (show (if r = r then some () else none) = some () from if_pos rfl) (fun _ => ?_) (fun hF => by cases hF)
  exact dk_wid (k := cells + 3) (n := slots + 162) (Nat.le_add_right _ 3) (Nat.le_add_right _ 162) (kk ad T C2 M2 h2 rfl)
theorem lw_c17 {p : Program} {l : Launch} {e : Env} {s : State} {m : MethodId} {below : List Frame} {meth : Method} {c : Code} {g : dk_G} {b L : Nat} {xs : Nat → Int32} {Q : State → Prop} (X : dk_X p s m #[Value.ref b] meth c code 4 R_law ret g (fun q => s.heap.size ≤ q)) (hX : va_X b L xs s s.heap) (hb : b < s.heap.size) {cells slots T i : Nat} {ad am : Nat → Nat} {C M : dk_S} (h : Inv T C M) (hi : i + 6 ≤ L) (hL : L ≤ 384) (hc : cells + 3 ≤ room_1.cells) (hs : slots + 162 ≤ room_1.slots) (kk : ∀ (ad2 : Nat → Nat) (T2 : Nat) (C2 M2 : dk_S), Inv T2 C2 M2 → ad2 0 = ad 0 → dk_J p l e room_1 s m #[Value.ref b] below meth c g (fun q => s.heap.size ≤ q) Q 4 (cells + 3) (slots + 162) 1243 [(0, .ref b), (1, .ref (ad 0)), (2, .ref (am 0)), (3, .int (nI i))] [] (wC g ad2 T2 C2 ++ wM g am M2)) : dk_J p l e room_1 s m #[Value.ref b] below meth c g (fun q => s.heap.size ≤ q) Q 4 cells slots 747 [(0, .ref b), (1, .ref (ad 0)), (2, .ref (am 0)), (3, .int (nI i))] [] (wC g ad T C ++ wM g am M) := by
  obtain ⟨r, C2, M2, e1, e2, h2⟩ := s_judge (n := 400) h (by decide) (xs (i + 1)) (xs (i + 2))
  refine dk_aload_n (k := 1) (i := 1) X 1 rfl rfl d_law_747 ?_
  refine lw_arg X hX hb hi hL 1 (by decide) (by decide) d_law_748 d_law_749 d_law_750 d_law_751 d_law_752 ?_
  refine lw_arg X hX hb hi hL 2 (by decide) (by decide) d_law_753 d_law_754 d_law_755 d_law_756 d_law_757 ?_
  refine dk_pVi X v_Hare_judge m_law_89 [.int (xs (i + 1)), .int (xs (i + 2))] (c_Hare_judge l g ad T 400 (xs (i + 1)) (xs (i + 2)) C) e1 (wr := wM g am M) (q0 := 0) (oC_Hare g ad T C) rfl rfl (List.range' 0 (wC g ad T C).length) (List.range' (wC g ad T C).length (wM g am M).length) (dk_rngA _ _) (dk_rngB _ _) (dk_ndr _ _) (dk_ndr _ _) dk_dis rfl rfl ⟨rfl, rfl, Nat.le_of_ble_eq_true rfl, Nat.le_of_ble_eq_true rfl, Nat.le_trans (Nat.le_add_right _ 3) hc, Nat.le_trans (Nat.le_add_right _ 162) hs⟩ (Nat.le_of_ble_eq_true rfl) d_law_758 ?_
  refine dk_aload_n (k := 2) (i := 2) X 2 rfl rfl d_law_761 ?_
  refine lw_arg X hX hb hi hL 1 (by decide) (by decide) d_law_762 d_law_763 d_law_764 d_law_765 d_law_766 ?_
  refine lw_arg X hX hb hi hL 2 (by decide) (by decide) d_law_767 d_law_768 d_law_769 d_law_770 d_law_771 ?_
  refine dk_pVi X v_Model_judge m_law_92 [.int (xs (i + 1)), .int (xs (i + 2))] (c_Model_judge l g am 400 (xs (i + 1)) (xs (i + 2)) M) e2 (wr := wC g ad T C2) (q0 := 0) (oM_Model g am M) rfl rfl (List.range' 0 (wM g am M).length) (List.range' (wM g am M).length (wC g ad T C2).length) (dk_rngA _ _) (dk_rngB _ _) (dk_ndr _ _) (dk_ndr _ _) dk_dis rfl rfl ⟨rfl, rfl, Nat.le_of_ble_eq_true rfl, Nat.le_of_ble_eq_true rfl, Nat.le_trans (Nat.le_add_right _ 3) hc, Nat.le_trans (Nat.le_add_right _ 162) hs⟩ (Nat.le_of_ble_eq_true rfl) d_law_772 ?_
  refine dk_icmp_eq (tgt := 1243) X (by decide) d_law_775 (show (if r = r then some () else none) = some () from if_pos rfl) (fun _ => ?_) (fun hF => by cases hF)
  exact dk_wid (k := cells + 3) (n := slots + 162) (Nat.le_add_right _ 3) (Nat.le_add_right _ 162) (kk ad T C2 M2 h2 rfl)
theorem lw_c18 {p : Program} {l : Launch} {e : Env} {s : State} {m : MethodId} {below : List Frame} {meth : Method} {c : Code} {g : dk_G} {b L : Nat} {xs : Nat → Int32} {Q : State → Prop} (X : dk_X p s m #[Value.ref b] meth c code 4 R_law ret g (fun q => s.heap.size ≤ q)) (hX : va_X b L xs s s.heap) (hb : b < s.heap.size) {cells slots T i : Nat} {ad am : Nat → Nat} {C M : dk_S} (h : Inv T C M) (hi : i + 6 ≤ L) (hL : L ≤ 384) (hc : cells + 3 ≤ room_1.cells) (hs : slots + 162 ≤ room_1.slots) (kk : ∀ (ad2 : Nat → Nat) (T2 : Nat) (C2 M2 : dk_S), Inv T2 C2 M2 → ad2 0 = ad 0 → dk_J p l e room_1 s m #[Value.ref b] below meth c g (fun q => s.heap.size ≤ q) Q 4 (cells + 3) (slots + 162) 1243 [(0, .ref b), (1, .ref (ad 0)), (2, .ref (am 0)), (3, .int (nI i))] [] (wC g ad2 T2 C2 ++ wM g am M2)) : dk_J p l e room_1 s m #[Value.ref b] below meth c g (fun q => s.heap.size ≤ q) Q 4 cells slots 780 [(0, .ref b), (1, .ref (ad 0)), (2, .ref (am 0)), (3, .int (nI i))] [] (wC g ad T C ++ wM g am M) := by
  obtain ⟨r, C2, M2, e1, e2, h2⟩ := s_may (n := 400) h (by decide) (xs (i + 1))
  refine dk_aload_n (k := 1) (i := 1) X 1 rfl rfl d_law_780 ?_
  refine lw_arg X hX hb hi hL 1 (by decide) (by decide) d_law_781 d_law_782 d_law_783 d_law_784 d_law_785 ?_
  refine dk_pVi X v_Hare_may m_law_93 [.int (xs (i + 1))] (c_Hare_may l g ad T 400 (xs (i + 1)) C) e1 (wr := wM g am M) (q0 := 0) (oC_Hare g ad T C) rfl rfl (List.range' 0 (wC g ad T C).length) (List.range' (wC g ad T C).length (wM g am M).length) (dk_rngA _ _) (dk_rngB _ _) (dk_ndr _ _) (dk_ndr _ _) dk_dis rfl rfl ⟨rfl, rfl, Nat.le_of_ble_eq_true rfl, Nat.le_of_ble_eq_true rfl, Nat.le_trans (Nat.le_add_right _ 3) hc, Nat.le_trans (Nat.le_add_right _ 162) hs⟩ (Nat.le_of_ble_eq_true rfl) d_law_786 ?_
  refine dk_aload_n (k := 2) (i := 2) X 2 rfl rfl d_law_789 ?_
  refine lw_arg X hX hb hi hL 1 (by decide) (by decide) d_law_790 d_law_791 d_law_792 d_law_793 d_law_794 ?_
  refine dk_pVi X v_Model_may m_law_96 [.int (xs (i + 1))] (c_Model_may l g am 400 (xs (i + 1)) M) e2 (wr := wC g ad T C2) (q0 := 0) (oM_Model g am M) rfl rfl (List.range' 0 (wM g am M).length) (List.range' (wM g am M).length (wC g ad T C2).length) (dk_rngA _ _) (dk_rngB _ _) (dk_ndr _ _) (dk_ndr _ _) dk_dis rfl rfl ⟨rfl, rfl, Nat.le_of_ble_eq_true rfl, Nat.le_of_ble_eq_true rfl, Nat.le_trans (Nat.le_add_right _ 3) hc, Nat.le_trans (Nat.le_add_right _ 162) hs⟩ (Nat.le_of_ble_eq_true rfl) d_law_795 ?_
  refine dk_icmp_eq (tgt := 1243) X (by decide) d_law_798 (show (if r = r then some () else none) = some () from if_pos rfl) (fun _ => ?_) (fun hF => by cases hF)
  exact dk_wid (k := cells + 3) (n := slots + 162) (Nat.le_add_right _ 3) (Nat.le_add_right _ 162) (kk ad T C2 M2 h2 rfl)
theorem lw_c19 {p : Program} {l : Launch} {e : Env} {s : State} {m : MethodId} {below : List Frame} {meth : Method} {c : Code} {g : dk_G} {b L : Nat} {xs : Nat → Int32} {Q : State → Prop} (X : dk_X p s m #[Value.ref b] meth c code 4 R_law ret g (fun q => s.heap.size ≤ q)) (hX : va_X b L xs s s.heap) (hb : b < s.heap.size) {cells slots T i : Nat} {ad am : Nat → Nat} {C M : dk_S} (h : Inv T C M) (hi : i + 6 ≤ L) (hL : L ≤ 384) (hc : cells + 3 ≤ room_1.cells) (hs : slots + 162 ≤ room_1.slots) (kk : ∀ (ad2 : Nat → Nat) (T2 : Nat) (C2 M2 : dk_S), Inv T2 C2 M2 → ad2 0 = ad 0 → dk_J p l e room_1 s m #[Value.ref b] below meth c g (fun q => s.heap.size ≤ q) Q 4 (cells + 3) (slots + 162) 1243 [(0, .ref b), (1, .ref (ad 0)), (2, .ref (am 0)), (3, .int (nI i))] [] (wC g ad2 T2 C2 ++ wM g am M2)) : dk_J p l e room_1 s m #[Value.ref b] below meth c g (fun q => s.heap.size ≤ q) Q 4 cells slots 803 [(0, .ref b), (1, .ref (ad 0)), (2, .ref (am 0)), (3, .int (nI i))] [] (wC g ad T C ++ wM g am M) := by
  obtain ⟨r, C2, M2, e1, e2, h2⟩ := s_hangs (n := 400) h (by decide) (xs (i + 1))
  refine dk_aload_n (k := 1) (i := 1) X 1 rfl rfl d_law_803 ?_
  refine lw_arg X hX hb hi hL 1 (by decide) (by decide) d_law_804 d_law_805 d_law_806 d_law_807 d_law_808 ?_
  refine dk_pVi X v_Hare_hangs m_law_97 [.int (xs (i + 1))] (c_Hare_hangs l g ad T 400 (xs (i + 1)) C) e1 (wr := wM g am M) (q0 := 0) (oC_Hare g ad T C) rfl rfl (List.range' 0 (wC g ad T C).length) (List.range' (wC g ad T C).length (wM g am M).length) (dk_rngA _ _) (dk_rngB _ _) (dk_ndr _ _) (dk_ndr _ _) dk_dis rfl rfl ⟨rfl, rfl, Nat.le_of_ble_eq_true rfl, Nat.le_of_ble_eq_true rfl, Nat.le_trans (Nat.le_add_right _ 3) hc, Nat.le_trans (Nat.le_add_right _ 162) hs⟩ (Nat.le_of_ble_eq_true rfl) d_law_809 ?_
  refine dk_aload_n (k := 2) (i := 2) X 2 rfl rfl d_law_812 ?_
  refine lw_arg X hX hb hi hL 1 (by decide) (by decide) d_law_813 d_law_814 d_law_815 d_law_816 d_law_817 ?_
  refine dk_pVi X v_Model_hangs m_law_100 [.int (xs (i + 1))] (c_Model_hangs l g am 400 (xs (i + 1)) M) e2 (wr := wC g ad T C2) (q0 := 0) (oM_Model g am M) rfl rfl (List.range' 0 (wM g am M).length) (List.range' (wM g am M).length (wC g ad T C2).length) (dk_rngA _ _) (dk_rngB _ _) (dk_ndr _ _) (dk_ndr _ _) dk_dis rfl rfl ⟨rfl, rfl, Nat.le_of_ble_eq_true rfl, Nat.le_of_ble_eq_true rfl, Nat.le_trans (Nat.le_add_right _ 3) hc, Nat.le_trans (Nat.le_add_right _ 162) hs⟩ (Nat.le_of_ble_eq_true rfl) d_law_818 ?_
  refine dk_icmp_eq (tgt := 1243) X (by decide) d_law_821 (show (if r = r then some () else none) = some () from if_pos rfl) (fun _ => ?_) (fun hF => by cases hF)
  exact dk_wid (k := cells + 3) (n := slots + 162) (Nat.le_add_right _ 3) (Nat.le_add_right _ 162) (kk ad T C2 M2 h2 rfl)
theorem lw_c20 {p : Program} {l : Launch} {e : Env} {s : State} {m : MethodId} {below : List Frame} {meth : Method} {c : Code} {g : dk_G} {b L : Nat} {xs : Nat → Int32} {Q : State → Prop} (X : dk_X p s m #[Value.ref b] meth c code 4 R_law ret g (fun q => s.heap.size ≤ q)) (hX : va_X b L xs s s.heap) (hb : b < s.heap.size) {cells slots T i : Nat} {ad am : Nat → Nat} {C M : dk_S} (h : Inv T C M) (hi : i + 6 ≤ L) (hL : L ≤ 384) (hc : cells + 3 ≤ room_1.cells) (hs : slots + 162 ≤ room_1.slots) (kk : ∀ (ad2 : Nat → Nat) (T2 : Nat) (C2 M2 : dk_S), Inv T2 C2 M2 → ad2 0 = ad 0 → dk_J p l e room_1 s m #[Value.ref b] below meth c g (fun q => s.heap.size ≤ q) Q 4 (cells + 3) (slots + 162) 1243 [(0, .ref b), (1, .ref (ad 0)), (2, .ref (am 0)), (3, .int (nI i))] [] (wC g ad2 T2 C2 ++ wM g am M2)) : dk_J p l e room_1 s m #[Value.ref b] below meth c g (fun q => s.heap.size ≤ q) Q 4 cells slots 826 [(0, .ref b), (1, .ref (ad 0)), (2, .ref (am 0)), (3, .int (nI i))] [] (wC g ad T C ++ wM g am M) := by
  obtain ⟨r, C2, M2, e1, e2, h2⟩ := s_least (n := 400) h (by decide) (xs (i + 1)) (xs (i + 2))
  refine dk_aload_n (k := 1) (i := 1) X 1 rfl rfl d_law_826 ?_
  refine lw_arg X hX hb hi hL 1 (by decide) (by decide) d_law_827 d_law_828 d_law_829 d_law_830 d_law_831 ?_
  refine lw_arg X hX hb hi hL 2 (by decide) (by decide) d_law_832 d_law_833 d_law_834 d_law_835 d_law_836 ?_
  refine dk_pVi X v_Hare_least m_law_101 [.int (xs (i + 1)), .int (xs (i + 2))] (c_Hare_least l g ad T 400 (xs (i + 1)) (xs (i + 2)) C) e1 (wr := wM g am M) (q0 := 0) (oC_Hare g ad T C) rfl rfl (List.range' 0 (wC g ad T C).length) (List.range' (wC g ad T C).length (wM g am M).length) (dk_rngA _ _) (dk_rngB _ _) (dk_ndr _ _) (dk_ndr _ _) dk_dis rfl rfl ⟨rfl, rfl, Nat.le_of_ble_eq_true rfl, Nat.le_of_ble_eq_true rfl, Nat.le_trans (Nat.le_add_right _ 3) hc, Nat.le_trans (Nat.le_add_right _ 162) hs⟩ (Nat.le_of_ble_eq_true rfl) d_law_837 ?_
  refine dk_aload_n (k := 2) (i := 2) X 2 rfl rfl d_law_840 ?_
  refine lw_arg X hX hb hi hL 1 (by decide) (by decide) d_law_841 d_law_842 d_law_843 d_law_844 d_law_845 ?_
  refine lw_arg X hX hb hi hL 2 (by decide) (by decide) d_law_846 d_law_847 d_law_848 d_law_849 d_law_850 ?_
  refine dk_pVi X v_Model_least m_law_104 [.int (xs (i + 1)), .int (xs (i + 2))] (c_Model_least l g am 400 (xs (i + 1)) (xs (i + 2)) M) e2 (wr := wC g ad T C2) (q0 := 0) (oM_Model g am M) rfl rfl (List.range' 0 (wM g am M).length) (List.range' (wM g am M).length (wC g ad T C2).length) (dk_rngA _ _) (dk_rngB _ _) (dk_ndr _ _) (dk_ndr _ _) dk_dis rfl rfl ⟨rfl, rfl, Nat.le_of_ble_eq_true rfl, Nat.le_of_ble_eq_true rfl, Nat.le_trans (Nat.le_add_right _ 3) hc, Nat.le_trans (Nat.le_add_right _ 162) hs⟩ (Nat.le_of_ble_eq_true rfl) d_law_851 ?_
  refine dk_icmp_eq (tgt := 1243) X (by decide) d_law_854 (show (if r = r then some () else none) = some () from if_pos rfl) (fun _ => ?_) (fun hF => by cases hF)
  exact dk_wid (k := cells + 3) (n := slots + 162) (Nat.le_add_right _ 3) (Nat.le_add_right _ 162) (kk ad T C2 M2 h2 rfl)
theorem lw_c21 {p : Program} {l : Launch} {e : Env} {s : State} {m : MethodId} {below : List Frame} {meth : Method} {c : Code} {g : dk_G} {b L : Nat} {xs : Nat → Int32} {Q : State → Prop} (X : dk_X p s m #[Value.ref b] meth c code 4 R_law ret g (fun q => s.heap.size ≤ q)) (hX : va_X b L xs s s.heap) (hb : b < s.heap.size) {cells slots T i : Nat} {ad am : Nat → Nat} {C M : dk_S} (h : Inv T C M) (hi : i + 6 ≤ L) (hL : L ≤ 384) (hc : cells + 3 ≤ room_1.cells) (hs : slots + 162 ≤ room_1.slots) (kk : ∀ (ad2 : Nat → Nat) (T2 : Nat) (C2 M2 : dk_S), Inv T2 C2 M2 → ad2 0 = ad 0 → dk_J p l e room_1 s m #[Value.ref b] below meth c g (fun q => s.heap.size ≤ q) Q 4 (cells + 3) (slots + 162) 1243 [(0, .ref b), (1, .ref (ad 0)), (2, .ref (am 0)), (3, .int (nI i))] [] (wC g ad2 T2 C2 ++ wM g am M2)) : dk_J p l e room_1 s m #[Value.ref b] below meth c g (fun q => s.heap.size ≤ q) Q 4 cells slots 859 [(0, .ref b), (1, .ref (ad 0)), (2, .ref (am 0)), (3, .int (nI i))] [] (wC g ad T C ++ wM g am M) := by
  obtain ⟨r, C2, M2, e1, e2, h2⟩ := s_share (n := 400) h (by decide) (xs (i + 1)) (xs (i + 2)) (xs (i + 3)) (xs (i + 4))
  refine dk_aload_n (k := 1) (i := 1) X 1 rfl rfl d_law_859 ?_
  refine lw_arg X hX hb hi hL 1 (by decide) (by decide) d_law_860 d_law_861 d_law_862 d_law_863 d_law_864 ?_
  refine lw_arg X hX hb hi hL 2 (by decide) (by decide) d_law_865 d_law_866 d_law_867 d_law_868 d_law_869 ?_
  refine lw_arg X hX hb hi hL 3 (by decide) (by decide) d_law_870 d_law_871 d_law_872 d_law_873 d_law_874 ?_
  refine lw_arg X hX hb hi hL 4 (by decide) (by decide) d_law_875 d_law_876 d_law_877 d_law_878 d_law_879 ?_
  refine dk_pVl X v_Hare_share m_law_105 [.int (xs (i + 1)), .int (xs (i + 2)), .int (xs (i + 3)), .int (xs (i + 4))] (c_Hare_share l g ad T 400 (xs (i + 1)) (xs (i + 2)) (xs (i + 3)) (xs (i + 4)) C) e1 (wr := wM g am M) (q0 := 0) (oC_Hare g ad T C) rfl rfl (List.range' 0 (wC g ad T C).length) (List.range' (wC g ad T C).length (wM g am M).length) (dk_rngA _ _) (dk_rngB _ _) (dk_ndr _ _) (dk_ndr _ _) dk_dis rfl rfl ⟨rfl, rfl, Nat.le_of_ble_eq_true rfl, Nat.le_of_ble_eq_true rfl, Nat.le_trans (Nat.le_add_right _ 3) hc, Nat.le_trans (Nat.le_add_right _ 162) hs⟩ (Nat.le_of_ble_eq_true rfl) d_law_880 ?_
  refine dk_aload_n (k := 2) (i := 2) X 2 rfl rfl d_law_883 ?_
  refine lw_arg X hX hb hi hL 1 (by decide) (by decide) d_law_884 d_law_885 d_law_886 d_law_887 d_law_888 ?_
  refine lw_arg X hX hb hi hL 2 (by decide) (by decide) d_law_889 d_law_890 d_law_891 d_law_892 d_law_893 ?_
  refine lw_arg X hX hb hi hL 3 (by decide) (by decide) d_law_894 d_law_895 d_law_896 d_law_897 d_law_898 ?_
  refine lw_arg X hX hb hi hL 4 (by decide) (by decide) d_law_899 d_law_900 d_law_901 d_law_902 d_law_903 ?_
  refine dk_pVl X v_Model_share m_law_109 [.int (xs (i + 1)), .int (xs (i + 2)), .int (xs (i + 3)), .int (xs (i + 4))] (c_Model_share l g am 400 (xs (i + 1)) (xs (i + 2)) (xs (i + 3)) (xs (i + 4)) M) e2 (wr := wC g ad T C2) (q0 := 0) (oM_Model g am M) rfl rfl (List.range' 0 (wM g am M).length) (List.range' (wM g am M).length (wC g ad T C2).length) (dk_rngA _ _) (dk_rngB _ _) (dk_ndr _ _) (dk_ndr _ _) dk_dis rfl rfl ⟨rfl, rfl, Nat.le_of_ble_eq_true rfl, Nat.le_of_ble_eq_true rfl, Nat.le_trans (Nat.le_add_right _ 3) hc, Nat.le_trans (Nat.le_add_right _ 162) hs⟩ (Nat.le_of_ble_eq_true rfl) d_law_904 ?_
  refine dk_lcmp X d_law_907 ?_
  refine dk_if_eq (tgt := 1243) X (by decide) d_law_908 (show (if lg_cmp r r = 0 then some () else none) = some () from if_pos (lg_cmp_rf r)) (fun _ => ?_) (fun hF => by cases hF)
  exact dk_wid (k := cells + 3) (n := slots + 162) (Nat.le_add_right _ 3) (Nat.le_add_right _ 162) (kk ad T C2 M2 h2 rfl)
theorem lw_c22 {p : Program} {l : Launch} {e : Env} {s : State} {m : MethodId} {below : List Frame} {meth : Method} {c : Code} {g : dk_G} {b L : Nat} {xs : Nat → Int32} {Q : State → Prop} (X : dk_X p s m #[Value.ref b] meth c code 4 R_law ret g (fun q => s.heap.size ≤ q)) (hX : va_X b L xs s s.heap) (hb : b < s.heap.size) {cells slots T i : Nat} {ad am : Nat → Nat} {C M : dk_S} (h : Inv T C M) (hi : i + 6 ≤ L) (hL : L ≤ 384) (hc : cells + 3 ≤ room_1.cells) (hs : slots + 162 ≤ room_1.slots) (kk : ∀ (ad2 : Nat → Nat) (T2 : Nat) (C2 M2 : dk_S), Inv T2 C2 M2 → ad2 0 = ad 0 → dk_J p l e room_1 s m #[Value.ref b] below meth c g (fun q => s.heap.size ≤ q) Q 4 (cells + 3) (slots + 162) 1243 [(0, .ref b), (1, .ref (ad 0)), (2, .ref (am 0)), (3, .int (nI i))] [] (wC g ad2 T2 C2 ++ wM g am M2)) : dk_J p l e room_1 s m #[Value.ref b] below meth c g (fun q => s.heap.size ≤ q) Q 4 cells slots 913 [(0, .ref b), (1, .ref (ad 0)), (2, .ref (am 0)), (3, .int (nI i))] [] (wC g ad T C ++ wM g am M) := by
  obtain ⟨r, C2, M2, e1, e2, h2⟩ := s_quarrel (n := 400) h (by decide) (xs (i + 1))
  refine dk_aload_n (k := 1) (i := 1) X 1 rfl rfl d_law_913 ?_
  refine lw_arg X hX hb hi hL 1 (by decide) (by decide) d_law_914 d_law_915 d_law_916 d_law_917 d_law_918 ?_
  refine dk_pVi X v_Hare_quarrel m_law_110 [.int (xs (i + 1))] (c_Hare_quarrel l g ad T 400 (xs (i + 1)) C) e1 (wr := wM g am M) (q0 := 0) (oC_Hare g ad T C) rfl rfl (List.range' 0 (wC g ad T C).length) (List.range' (wC g ad T C).length (wM g am M).length) (dk_rngA _ _) (dk_rngB _ _) (dk_ndr _ _) (dk_ndr _ _) dk_dis rfl rfl ⟨rfl, rfl, Nat.le_of_ble_eq_true rfl, Nat.le_of_ble_eq_true rfl, Nat.le_trans (Nat.le_add_right _ 3) hc, Nat.le_trans (Nat.le_add_right _ 162) hs⟩ (Nat.le_of_ble_eq_true rfl) d_law_919 ?_
  refine dk_aload_n (k := 2) (i := 2) X 2 rfl rfl d_law_922 ?_
  refine lw_arg X hX hb hi hL 1 (by decide) (by decide) d_law_923 d_law_924 d_law_925 d_law_926 d_law_927 ?_
  refine dk_pVi X v_Model_quarrel m_law_113 [.int (xs (i + 1))] (c_Model_quarrel l g am 400 (xs (i + 1)) M) e2 (wr := wC g ad T C2) (q0 := 0) (oM_Model g am M) rfl rfl (List.range' 0 (wM g am M).length) (List.range' (wM g am M).length (wC g ad T C2).length) (dk_rngA _ _) (dk_rngB _ _) (dk_ndr _ _) (dk_ndr _ _) dk_dis rfl rfl ⟨rfl, rfl, Nat.le_of_ble_eq_true rfl, Nat.le_of_ble_eq_true rfl, Nat.le_trans (Nat.le_add_right _ 3) hc, Nat.le_trans (Nat.le_add_right _ 162) hs⟩ (Nat.le_of_ble_eq_true rfl) d_law_928 ?_
  refine dk_icmp_eq (tgt := 1243) X (by decide) d_law_931 (show (if r = r then some () else none) = some () from if_pos rfl) (fun _ => ?_) (fun hF => by cases hF)
  exact dk_wid (k := cells + 3) (n := slots + 162) (Nat.le_add_right _ 3) (Nat.le_add_right _ 162) (kk ad T C2 M2 h2 rfl)
theorem lw_c23 {p : Program} {l : Launch} {e : Env} {s : State} {m : MethodId} {below : List Frame} {meth : Method} {c : Code} {g : dk_G} {b L : Nat} {xs : Nat → Int32} {Q : State → Prop} (X : dk_X p s m #[Value.ref b] meth c code 4 R_law ret g (fun q => s.heap.size ≤ q)) (hX : va_X b L xs s s.heap) (hb : b < s.heap.size) {cells slots T i : Nat} {ad am : Nat → Nat} {C M : dk_S} (h : Inv T C M) (hi : i + 6 ≤ L) (hL : L ≤ 384) (hc : cells + 3 ≤ room_1.cells) (hs : slots + 162 ≤ room_1.slots) (kk : ∀ (ad2 : Nat → Nat) (T2 : Nat) (C2 M2 : dk_S), Inv T2 C2 M2 → ad2 0 = ad 0 → dk_J p l e room_1 s m #[Value.ref b] below meth c g (fun q => s.heap.size ≤ q) Q 4 (cells + 3) (slots + 162) 1243 [(0, .ref b), (1, .ref (ad 0)), (2, .ref (am 0)), (3, .int (nI i))] [] (wC g ad2 T2 C2 ++ wM g am M2)) : dk_J p l e room_1 s m #[Value.ref b] below meth c g (fun q => s.heap.size ≤ q) Q 4 cells slots 936 [(0, .ref b), (1, .ref (ad 0)), (2, .ref (am 0)), (3, .int (nI i))] [] (wC g ad T C ++ wM g am M) := by
  obtain ⟨r, C2, M2, e1, e2, h2⟩ := s_custom (n := 400) h (by decide) (xs (i + 1))
  refine dk_aload_n (k := 1) (i := 1) X 1 rfl rfl d_law_936 ?_
  refine lw_arg X hX hb hi hL 1 (by decide) (by decide) d_law_937 d_law_938 d_law_939 d_law_940 d_law_941 ?_
  refine dk_pVi X v_Hare_custom m_law_114 [.int (xs (i + 1))] (c_Hare_custom l g ad T 400 (xs (i + 1)) C) e1 (wr := wM g am M) (q0 := 0) (oC_Hare g ad T C) rfl rfl (List.range' 0 (wC g ad T C).length) (List.range' (wC g ad T C).length (wM g am M).length) (dk_rngA _ _) (dk_rngB _ _) (dk_ndr _ _) (dk_ndr _ _) dk_dis rfl rfl ⟨rfl, rfl, Nat.le_of_ble_eq_true rfl, Nat.le_of_ble_eq_true rfl, Nat.le_trans (Nat.le_add_right _ 3) hc, Nat.le_trans (Nat.le_add_right _ 162) hs⟩ (Nat.le_of_ble_eq_true rfl) d_law_942 ?_
  refine dk_aload_n (k := 2) (i := 2) X 2 rfl rfl d_law_945 ?_
  refine lw_arg X hX hb hi hL 1 (by decide) (by decide) d_law_946 d_law_947 d_law_948 d_law_949 d_law_950 ?_
  refine dk_pVi X v_Model_custom m_law_117 [.int (xs (i + 1))] (c_Model_custom l g am 400 (xs (i + 1)) M) e2 (wr := wC g ad T C2) (q0 := 0) (oM_Model g am M) rfl rfl (List.range' 0 (wM g am M).length) (List.range' (wM g am M).length (wC g ad T C2).length) (dk_rngA _ _) (dk_rngB _ _) (dk_ndr _ _) (dk_ndr _ _) dk_dis rfl rfl ⟨rfl, rfl, Nat.le_of_ble_eq_true rfl, Nat.le_of_ble_eq_true rfl, Nat.le_trans (Nat.le_add_right _ 3) hc, Nat.le_trans (Nat.le_add_right _ 162) hs⟩ (Nat.le_of_ble_eq_true rfl) d_law_951 ?_
  refine dk_icmp_eq (tgt := 1243) X (by decide) d_law_954 (show (if r = r then some () else none) = some () from if_pos rfl) (fun _ => ?_) (fun hF => by cases hF)
  exact dk_wid (k := cells + 3) (n := slots + 162) (Nat.le_add_right _ 3) (Nat.le_add_right _ 162) (kk ad T C2 M2 h2 rfl)
theorem lw_c24 {p : Program} {l : Launch} {e : Env} {s : State} {m : MethodId} {below : List Frame} {meth : Method} {c : Code} {g : dk_G} {b L : Nat} {xs : Nat → Int32} {Q : State → Prop} (X : dk_X p s m #[Value.ref b] meth c code 4 R_law ret g (fun q => s.heap.size ≤ q)) (hX : va_X b L xs s s.heap) (hb : b < s.heap.size) {cells slots T i : Nat} {ad am : Nat → Nat} {C M : dk_S} (h : Inv T C M) (hi : i + 6 ≤ L) (hL : L ≤ 384) (hc : cells + 3 ≤ room_1.cells) (hs : slots + 162 ≤ room_1.slots) (kk : ∀ (ad2 : Nat → Nat) (T2 : Nat) (C2 M2 : dk_S), Inv T2 C2 M2 → ad2 0 = ad 0 → dk_J p l e room_1 s m #[Value.ref b] below meth c g (fun q => s.heap.size ≤ q) Q 4 (cells + 3) (slots + 162) 1243 [(0, .ref b), (1, .ref (ad 0)), (2, .ref (am 0)), (3, .int (nI i))] [] (wC g ad2 T2 C2 ++ wM g am M2)) : dk_J p l e room_1 s m #[Value.ref b] below meth c g (fun q => s.heap.size ≤ q) Q 4 cells slots 959 [(0, .ref b), (1, .ref (ad 0)), (2, .ref (am 0)), (3, .int (nI i))] [] (wC g ad T C ++ wM g am M) := by
  obtain ⟨r, C2, M2, e1, e2, h2⟩ := s_count (n := 400) h (by decide) (xs (i + 1))
  refine dk_aload_n (k := 1) (i := 1) X 1 rfl rfl d_law_959 ?_
  refine lw_arg X hX hb hi hL 1 (by decide) (by decide) d_law_960 d_law_961 d_law_962 d_law_963 d_law_964 ?_
  refine dk_pVi X v_Hare_count m_law_118 [.int (xs (i + 1))] (c_Hare_count l g ad T 400 (xs (i + 1)) C) e1 (wr := wM g am M) (q0 := 0) (oC_Hare g ad T C) rfl rfl (List.range' 0 (wC g ad T C).length) (List.range' (wC g ad T C).length (wM g am M).length) (dk_rngA _ _) (dk_rngB _ _) (dk_ndr _ _) (dk_ndr _ _) dk_dis rfl rfl ⟨rfl, rfl, Nat.le_of_ble_eq_true rfl, Nat.le_of_ble_eq_true rfl, Nat.le_trans (Nat.le_add_right _ 3) hc, Nat.le_trans (Nat.le_add_right _ 162) hs⟩ (Nat.le_of_ble_eq_true rfl) d_law_965 ?_
  refine dk_aload_n (k := 2) (i := 2) X 2 rfl rfl d_law_968 ?_
  refine lw_arg X hX hb hi hL 1 (by decide) (by decide) d_law_969 d_law_970 d_law_971 d_law_972 d_law_973 ?_
  refine dk_pVi X v_Model_count m_law_121 [.int (xs (i + 1))] (c_Model_count l g am 400 (xs (i + 1)) M) e2 (wr := wC g ad T C2) (q0 := 0) (oM_Model g am M) rfl rfl (List.range' 0 (wM g am M).length) (List.range' (wM g am M).length (wC g ad T C2).length) (dk_rngA _ _) (dk_rngB _ _) (dk_ndr _ _) (dk_ndr _ _) dk_dis rfl rfl ⟨rfl, rfl, Nat.le_of_ble_eq_true rfl, Nat.le_of_ble_eq_true rfl, Nat.le_trans (Nat.le_add_right _ 3) hc, Nat.le_trans (Nat.le_add_right _ 162) hs⟩ (Nat.le_of_ble_eq_true rfl) d_law_974 ?_
  refine dk_icmp_eq (tgt := 1243) X (by decide) d_law_977 (show (if r = r then some () else none) = some () from if_pos rfl) (fun _ => ?_) (fun hF => by cases hF)
  exact dk_wid (k := cells + 3) (n := slots + 162) (Nat.le_add_right _ 3) (Nat.le_add_right _ 162) (kk ad T C2 M2 h2 rfl)
theorem lw_c25 {p : Program} {l : Launch} {e : Env} {s : State} {m : MethodId} {below : List Frame} {meth : Method} {c : Code} {g : dk_G} {b L : Nat} {xs : Nat → Int32} {Q : State → Prop} (X : dk_X p s m #[Value.ref b] meth c code 4 R_law ret g (fun q => s.heap.size ≤ q)) (hX : va_X b L xs s s.heap) (hb : b < s.heap.size) {cells slots T i : Nat} {ad am : Nat → Nat} {C M : dk_S} (h : Inv T C M) (hi : i + 6 ≤ L) (hL : L ≤ 384) (hc : cells + 3 ≤ room_1.cells) (hs : slots + 162 ≤ room_1.slots) (kk : ∀ (ad2 : Nat → Nat) (T2 : Nat) (C2 M2 : dk_S), Inv T2 C2 M2 → ad2 0 = ad 0 → dk_J p l e room_1 s m #[Value.ref b] below meth c g (fun q => s.heap.size ≤ q) Q 4 (cells + 3) (slots + 162) 1243 [(0, .ref b), (1, .ref (ad 0)), (2, .ref (am 0)), (3, .int (nI i))] [] (wC g ad2 T2 C2 ++ wM g am M2)) : dk_J p l e room_1 s m #[Value.ref b] below meth c g (fun q => s.heap.size ≤ q) Q 4 cells slots 982 [(0, .ref b), (1, .ref (ad 0)), (2, .ref (am 0)), (3, .int (nI i))] [] (wC g ad T C ++ wM g am M) := by
  obtain ⟨r, C2, M2, e1, e2, h2⟩ := s_image (n := 400) h (by decide) 
  refine dk_aload_n (k := 1) (i := 1) X 1 rfl rfl d_law_982 ?_
  refine dk_pVi X v_Hare_image m_law_122 [] (c_Hare_image l g ad T 400  C) e1 (wr := wM g am M) (q0 := 0) (oC_Hare g ad T C) rfl rfl (List.range' 0 (wC g ad T C).length) (List.range' (wC g ad T C).length (wM g am M).length) (dk_rngA _ _) (dk_rngB _ _) (dk_ndr _ _) (dk_ndr _ _) dk_dis rfl rfl ⟨rfl, rfl, Nat.le_of_ble_eq_true rfl, Nat.le_of_ble_eq_true rfl, Nat.le_trans (Nat.le_add_right _ 3) hc, Nat.le_trans (Nat.le_add_right _ 162) hs⟩ (Nat.le_of_ble_eq_true rfl) d_law_983 ?_
  refine dk_aload_n (k := 2) (i := 2) X 2 rfl rfl d_law_986 ?_
  refine dk_pVi X v_Model_image m_law_125 [] (c_Model_image l g am 400  M) e2 (wr := wC g ad T C2) (q0 := 0) (oM_Model g am M) rfl rfl (List.range' 0 (wM g am M).length) (List.range' (wM g am M).length (wC g ad T C2).length) (dk_rngA _ _) (dk_rngB _ _) (dk_ndr _ _) (dk_ndr _ _) dk_dis rfl rfl ⟨rfl, rfl, Nat.le_of_ble_eq_true rfl, Nat.le_of_ble_eq_true rfl, Nat.le_trans (Nat.le_add_right _ 3) hc, Nat.le_trans (Nat.le_add_right _ 162) hs⟩ (Nat.le_of_ble_eq_true rfl) d_law_987 ?_
  refine dk_icmp_eq (tgt := 1243) X (by decide) d_law_990 (show (if r = r then some () else none) = some () from if_pos rfl) (fun _ => ?_) (fun hF => by cases hF)
  exact dk_wid (k := cells + 3) (n := slots + 162) (Nat.le_add_right _ 3) (Nat.le_add_right _ 162) (kk ad T C2 M2 h2 rfl)
theorem lw_c26 {p : Program} {l : Launch} {e : Env} {s : State} {m : MethodId} {below : List Frame} {meth : Method} {c : Code} {g : dk_G} {b L : Nat} {xs : Nat → Int32} {Q : State → Prop} (X : dk_X p s m #[Value.ref b] meth c code 4 R_law ret g (fun q => s.heap.size ≤ q)) (hX : va_X b L xs s s.heap) (hb : b < s.heap.size) {cells slots T i : Nat} {ad am : Nat → Nat} {C M : dk_S} (h : Inv T C M) (hi : i + 6 ≤ L) (hL : L ≤ 384) (hc : cells + 3 ≤ room_1.cells) (hs : slots + 162 ≤ room_1.slots) (kk : ∀ (ad2 : Nat → Nat) (T2 : Nat) (C2 M2 : dk_S), Inv T2 C2 M2 → ad2 0 = ad 0 → dk_J p l e room_1 s m #[Value.ref b] below meth c g (fun q => s.heap.size ≤ q) Q 4 (cells + 3) (slots + 162) 1243 [(0, .ref b), (1, .ref (ad 0)), (2, .ref (am 0)), (3, .int (nI i))] [] (wC g ad2 T2 C2 ++ wM g am M2)) : dk_J p l e room_1 s m #[Value.ref b] below meth c g (fun q => s.heap.size ≤ q) Q 4 cells slots 995 [(0, .ref b), (1, .ref (ad 0)), (2, .ref (am 0)), (3, .int (nI i))] [] (wC g ad T C ++ wM g am M) := by
  obtain ⟨r, C2, M2, e1, e2, h2⟩ := s_back (n := 400) h (by decide) 
  refine dk_aload_n (k := 1) (i := 1) X 1 rfl rfl d_law_995 ?_
  refine dk_pVi X v_Hare_back m_law_126 [] (c_Hare_back l g ad T 400  C) e1 (wr := wM g am M) (q0 := 0) (oC_Hare g ad T C) rfl rfl (List.range' 0 (wC g ad T C).length) (List.range' (wC g ad T C).length (wM g am M).length) (dk_rngA _ _) (dk_rngB _ _) (dk_ndr _ _) (dk_ndr _ _) dk_dis rfl rfl ⟨rfl, rfl, Nat.le_of_ble_eq_true rfl, Nat.le_of_ble_eq_true rfl, Nat.le_trans (Nat.le_add_right _ 3) hc, Nat.le_trans (Nat.le_add_right _ 162) hs⟩ (Nat.le_of_ble_eq_true rfl) d_law_996 ?_
  refine dk_aload_n (k := 2) (i := 2) X 2 rfl rfl d_law_999 ?_
  refine dk_pVi X v_Model_back m_law_129 [] (c_Model_back l g am 400  M) e2 (wr := wC g ad T C2) (q0 := 0) (oM_Model g am M) rfl rfl (List.range' 0 (wM g am M).length) (List.range' (wM g am M).length (wC g ad T C2).length) (dk_rngA _ _) (dk_rngB _ _) (dk_ndr _ _) (dk_ndr _ _) dk_dis rfl rfl ⟨rfl, rfl, Nat.le_of_ble_eq_true rfl, Nat.le_of_ble_eq_true rfl, Nat.le_trans (Nat.le_add_right _ 3) hc, Nat.le_trans (Nat.le_add_right _ 162) hs⟩ (Nat.le_of_ble_eq_true rfl) d_law_1000 ?_
  refine dk_icmp_eq (tgt := 1243) X (by decide) d_law_1003 (show (if r = r then some () else none) = some () from if_pos rfl) (fun _ => ?_) (fun hF => by cases hF)
  exact dk_wid (k := cells + 3) (n := slots + 162) (Nat.le_add_right _ 3) (Nat.le_add_right _ 162) (kk ad T C2 M2 h2 rfl)
theorem lw_c27 {p : Program} {l : Launch} {e : Env} {s : State} {m : MethodId} {below : List Frame} {meth : Method} {c : Code} {g : dk_G} {b L : Nat} {xs : Nat → Int32} {Q : State → Prop} (X : dk_X p s m #[Value.ref b] meth c code 4 R_law ret g (fun q => s.heap.size ≤ q)) (hX : va_X b L xs s s.heap) (hb : b < s.heap.size) {cells slots T i : Nat} {ad am : Nat → Nat} {C M : dk_S} (h : Inv T C M) (hi : i + 6 ≤ L) (hL : L ≤ 384) (hc : cells + 3 ≤ room_1.cells) (hs : slots + 162 ≤ room_1.slots) (kk : ∀ (ad2 : Nat → Nat) (T2 : Nat) (C2 M2 : dk_S), Inv T2 C2 M2 → ad2 0 = ad 0 → dk_J p l e room_1 s m #[Value.ref b] below meth c g (fun q => s.heap.size ≤ q) Q 4 (cells + 3) (slots + 162) 1243 [(0, .ref b), (1, .ref (ad 0)), (2, .ref (am 0)), (3, .int (nI i))] [] (wC g ad2 T2 C2 ++ wM g am M2)) : dk_J p l e room_1 s m #[Value.ref b] below meth c g (fun q => s.heap.size ≤ q) Q 4 cells slots 1008 [(0, .ref b), (1, .ref (ad 0)), (2, .ref (am 0)), (3, .int (nI i))] [] (wC g ad T C ++ wM g am M) := by
  obtain ⟨r, C2, M2, e1, e2, h2⟩ := s_sheet (n := 400) h (by decide) (xs (i + 1)) (xs (i + 2)) (xs (i + 3))
  refine dk_aload_n (k := 1) (i := 1) X 1 rfl rfl d_law_1008 ?_
  refine lw_arg X hX hb hi hL 1 (by decide) (by decide) d_law_1009 d_law_1010 d_law_1011 d_law_1012 d_law_1013 ?_
  refine lw_arg X hX hb hi hL 2 (by decide) (by decide) d_law_1014 d_law_1015 d_law_1016 d_law_1017 d_law_1018 ?_
  refine lw_arg X hX hb hi hL 3 (by decide) (by decide) d_law_1019 d_law_1020 d_law_1021 d_law_1022 d_law_1023 ?_
  refine dk_pVi X v_Hare_sheet m_law_130 [.int (xs (i + 1)), .int (xs (i + 2)), .int (xs (i + 3))] (c_Hare_sheet l g ad T 400 (xs (i + 1)) (xs (i + 2)) (xs (i + 3)) C) e1 (wr := wM g am M) (q0 := 0) (oC_Hare g ad T C) rfl rfl (List.range' 0 (wC g ad T C).length) (List.range' (wC g ad T C).length (wM g am M).length) (dk_rngA _ _) (dk_rngB _ _) (dk_ndr _ _) (dk_ndr _ _) dk_dis rfl rfl ⟨rfl, rfl, Nat.le_of_ble_eq_true rfl, Nat.le_of_ble_eq_true rfl, Nat.le_trans (Nat.le_add_right _ 3) hc, Nat.le_trans (Nat.le_add_right _ 162) hs⟩ (Nat.le_of_ble_eq_true rfl) d_law_1024 ?_
  refine dk_aload_n (k := 2) (i := 2) X 2 rfl rfl d_law_1027 ?_
  refine lw_arg X hX hb hi hL 1 (by decide) (by decide) d_law_1028 d_law_1029 d_law_1030 d_law_1031 d_law_1032 ?_
  refine lw_arg X hX hb hi hL 2 (by decide) (by decide) d_law_1033 d_law_1034 d_law_1035 d_law_1036 d_law_1037 ?_
  refine lw_arg X hX hb hi hL 3 (by decide) (by decide) d_law_1038 d_law_1039 d_law_1040 d_law_1041 d_law_1042 ?_
  refine dk_pVi X v_Model_sheet m_law_133 [.int (xs (i + 1)), .int (xs (i + 2)), .int (xs (i + 3))] (c_Model_sheet l g am 400 (xs (i + 1)) (xs (i + 2)) (xs (i + 3)) M) e2 (wr := wC g ad T C2) (q0 := 0) (oM_Model g am M) rfl rfl (List.range' 0 (wM g am M).length) (List.range' (wM g am M).length (wC g ad T C2).length) (dk_rngA _ _) (dk_rngB _ _) (dk_ndr _ _) (dk_ndr _ _) dk_dis rfl rfl ⟨rfl, rfl, Nat.le_of_ble_eq_true rfl, Nat.le_of_ble_eq_true rfl, Nat.le_trans (Nat.le_add_right _ 3) hc, Nat.le_trans (Nat.le_add_right _ 162) hs⟩ (Nat.le_of_ble_eq_true rfl) d_law_1043 ?_
  refine dk_icmp_eq (tgt := 1243) X (by decide) d_law_1046 (show (if r = r then some () else none) = some () from if_pos rfl) (fun _ => ?_) (fun hF => by cases hF)
  exact dk_wid (k := cells + 3) (n := slots + 162) (Nat.le_add_right _ 3) (Nat.le_add_right _ 162) (kk ad T C2 M2 h2 rfl)
theorem lw_c28 {p : Program} {l : Launch} {e : Env} {s : State} {m : MethodId} {below : List Frame} {meth : Method} {c : Code} {g : dk_G} {b L : Nat} {xs : Nat → Int32} {Q : State → Prop} (X : dk_X p s m #[Value.ref b] meth c code 4 R_law ret g (fun q => s.heap.size ≤ q)) (hX : va_X b L xs s s.heap) (hb : b < s.heap.size) {cells slots T i : Nat} {ad am : Nat → Nat} {C M : dk_S} (h : Inv T C M) (hi : i + 6 ≤ L) (hL : L ≤ 384) (hc : cells + 3 ≤ room_1.cells) (hs : slots + 162 ≤ room_1.slots) (kk : ∀ (ad2 : Nat → Nat) (T2 : Nat) (C2 M2 : dk_S), Inv T2 C2 M2 → ad2 0 = ad 0 → dk_J p l e room_1 s m #[Value.ref b] below meth c g (fun q => s.heap.size ≤ q) Q 4 (cells + 3) (slots + 162) 1243 [(0, .ref b), (1, .ref (ad 0)), (2, .ref (am 0)), (3, .int (nI i))] [] (wC g ad2 T2 C2 ++ wM g am M2)) : dk_J p l e room_1 s m #[Value.ref b] below meth c g (fun q => s.heap.size ≤ q) Q 4 cells slots 1051 [(0, .ref b), (1, .ref (ad 0)), (2, .ref (am 0)), (3, .int (nI i))] [] (wC g ad T C ++ wM g am M) := by
  obtain ⟨r, C2, M2, e1, e2, h2⟩ := s_cell (n := 400) h (xs (i + 1)) (xs (i + 2)) (xs (i + 3))
  refine dk_aload_n (k := 1) (i := 1) X 1 rfl rfl d_law_1051 ?_
  refine lw_arg X hX hb hi hL 1 (by decide) (by decide) d_law_1052 d_law_1053 d_law_1054 d_law_1055 d_law_1056 ?_
  refine lw_arg X hX hb hi hL 2 (by decide) (by decide) d_law_1057 d_law_1058 d_law_1059 d_law_1060 d_law_1061 ?_
  refine lw_arg X hX hb hi hL 3 (by decide) (by decide) d_law_1062 d_law_1063 d_law_1064 d_law_1065 d_law_1066 ?_
  refine dk_pVi X v_Hare_cell m_law_134 [.int (xs (i + 1)), .int (xs (i + 2)), .int (xs (i + 3))] (c_Hare_cell l g ad T 400 (xs (i + 1)) (xs (i + 2)) (xs (i + 3)) C) e1 (wr := wM g am M) (q0 := 0) (oC_Hare g ad T C) rfl rfl (List.range' 0 (wC g ad T C).length) (List.range' (wC g ad T C).length (wM g am M).length) (dk_rngA _ _) (dk_rngB _ _) (dk_ndr _ _) (dk_ndr _ _) dk_dis rfl rfl ⟨rfl, rfl, Nat.le_of_ble_eq_true rfl, Nat.le_of_ble_eq_true rfl, Nat.le_trans (Nat.le_add_right _ 3) hc, Nat.le_trans (Nat.le_add_right _ 162) hs⟩ (Nat.le_of_ble_eq_true rfl) d_law_1067 ?_
  refine dk_aload_n (k := 2) (i := 2) X 2 rfl rfl d_law_1070 ?_
  refine lw_arg X hX hb hi hL 1 (by decide) (by decide) d_law_1071 d_law_1072 d_law_1073 d_law_1074 d_law_1075 ?_
  refine lw_arg X hX hb hi hL 2 (by decide) (by decide) d_law_1076 d_law_1077 d_law_1078 d_law_1079 d_law_1080 ?_
  refine lw_arg X hX hb hi hL 3 (by decide) (by decide) d_law_1081 d_law_1082 d_law_1083 d_law_1084 d_law_1085 ?_
  refine dk_pVi X v_Model_cell m_law_137 [.int (xs (i + 1)), .int (xs (i + 2)), .int (xs (i + 3))] (c_Model_cell l g am 400 (xs (i + 1)) (xs (i + 2)) (xs (i + 3)) M) e2 (wr := wC g ad T C2) (q0 := 0) (oM_Model g am M) rfl rfl (List.range' 0 (wM g am M).length) (List.range' (wM g am M).length (wC g ad T C2).length) (dk_rngA _ _) (dk_rngB _ _) (dk_ndr _ _) (dk_ndr _ _) dk_dis rfl rfl ⟨rfl, rfl, Nat.le_of_ble_eq_true rfl, Nat.le_of_ble_eq_true rfl, Nat.le_trans (Nat.le_add_right _ 3) hc, Nat.le_trans (Nat.le_add_right _ 162) hs⟩ (Nat.le_of_ble_eq_true rfl) d_law_1086 ?_
  refine dk_icmp_eq (tgt := 1243) X (by decide) d_law_1089 (show (if r = r then some () else none) = some () from if_pos rfl) (fun _ => ?_) (fun hF => by cases hF)
  exact dk_wid (k := cells + 3) (n := slots + 162) (Nat.le_add_right _ 3) (Nat.le_add_right _ 162) (kk ad T C2 M2 h2 rfl)
theorem lw_c29 {p : Program} {l : Launch} {e : Env} {s : State} {m : MethodId} {below : List Frame} {meth : Method} {c : Code} {g : dk_G} {b L : Nat} {xs : Nat → Int32} {Q : State → Prop} (X : dk_X p s m #[Value.ref b] meth c code 4 R_law ret g (fun q => s.heap.size ≤ q)) (hX : va_X b L xs s s.heap) (hb : b < s.heap.size) {cells slots T i : Nat} {ad am : Nat → Nat} {C M : dk_S} (h : Inv T C M) (hi : i + 6 ≤ L) (hL : L ≤ 384) (hc : cells + 3 ≤ room_1.cells) (hs : slots + 162 ≤ room_1.slots) (kk : ∀ (ad2 : Nat → Nat) (T2 : Nat) (C2 M2 : dk_S), Inv T2 C2 M2 → ad2 0 = ad 0 → dk_J p l e room_1 s m #[Value.ref b] below meth c g (fun q => s.heap.size ≤ q) Q 4 (cells + 3) (slots + 162) 1243 [(0, .ref b), (1, .ref (ad 0)), (2, .ref (am 0)), (3, .int (nI i))] [] (wC g ad2 T2 C2 ++ wM g am M2)) : dk_J p l e room_1 s m #[Value.ref b] below meth c g (fun q => s.heap.size ≤ q) Q 4 cells slots 1094 [(0, .ref b), (1, .ref (ad 0)), (2, .ref (am 0)), (3, .int (nI i))] [] (wC g ad T C ++ wM g am M) := by
  obtain ⟨r, C2, M2, e1, e2, h2⟩ := s_copy (n := 400) h (by decide) (xs (i + 1)) (xs (i + 2)) (xs (i + 3)) (xs (i + 4)) (xs (i + 5))
  refine dk_aload_n (k := 1) (i := 1) X 1 rfl rfl d_law_1094 ?_
  refine lw_arg X hX hb hi hL 1 (by decide) (by decide) d_law_1095 d_law_1096 d_law_1097 d_law_1098 d_law_1099 ?_
  refine lw_arg X hX hb hi hL 2 (by decide) (by decide) d_law_1100 d_law_1101 d_law_1102 d_law_1103 d_law_1104 ?_
  refine lw_arg X hX hb hi hL 3 (by decide) (by decide) d_law_1105 d_law_1106 d_law_1107 d_law_1108 d_law_1109 ?_
  refine lw_arg X hX hb hi hL 4 (by decide) (by decide) d_law_1110 d_law_1111 d_law_1112 d_law_1113 d_law_1114 ?_
  refine lw_arg X hX hb hi hL 5 (by decide) (by decide) d_law_1115 d_law_1116 d_law_1117 d_law_1118 d_law_1119 ?_
  refine dk_pVi X v_Hare_copy m_law_138 [.int (xs (i + 1)), .int (xs (i + 2)), .int (xs (i + 3)), .int (xs (i + 4)), .int (xs (i + 5))] (c_Hare_copy l g ad T 400 (xs (i + 1)) (xs (i + 2)) (xs (i + 3)) (xs (i + 4)) (xs (i + 5)) C) e1 (wr := wM g am M) (q0 := 0) (oC_Hare g ad T C) rfl rfl (List.range' 0 (wC g ad T C).length) (List.range' (wC g ad T C).length (wM g am M).length) (dk_rngA _ _) (dk_rngB _ _) (dk_ndr _ _) (dk_ndr _ _) dk_dis rfl rfl ⟨rfl, rfl, Nat.le_of_ble_eq_true rfl, Nat.le_of_ble_eq_true rfl, Nat.le_trans (Nat.le_add_right _ 3) hc, Nat.le_trans (Nat.le_add_right _ 162) hs⟩ (Nat.le_of_ble_eq_true rfl) d_law_1120 ?_
  refine dk_aload_n (k := 2) (i := 2) X 2 rfl rfl d_law_1123 ?_
  refine lw_arg X hX hb hi hL 1 (by decide) (by decide) d_law_1124 d_law_1125 d_law_1126 d_law_1127 d_law_1128 ?_
  refine lw_arg X hX hb hi hL 2 (by decide) (by decide) d_law_1129 d_law_1130 d_law_1131 d_law_1132 d_law_1133 ?_
  refine lw_arg X hX hb hi hL 3 (by decide) (by decide) d_law_1134 d_law_1135 d_law_1136 d_law_1137 d_law_1138 ?_
  refine lw_arg X hX hb hi hL 4 (by decide) (by decide) d_law_1139 d_law_1140 d_law_1141 d_law_1142 d_law_1143 ?_
  refine lw_arg X hX hb hi hL 5 (by decide) (by decide) d_law_1144 d_law_1145 d_law_1146 d_law_1147 d_law_1148 ?_
  refine dk_pVi X v_Model_copy m_law_141 [.int (xs (i + 1)), .int (xs (i + 2)), .int (xs (i + 3)), .int (xs (i + 4)), .int (xs (i + 5))] (c_Model_copy l g am 400 (xs (i + 1)) (xs (i + 2)) (xs (i + 3)) (xs (i + 4)) (xs (i + 5)) M) e2 (wr := wC g ad T C2) (q0 := 0) (oM_Model g am M) rfl rfl (List.range' 0 (wM g am M).length) (List.range' (wM g am M).length (wC g ad T C2).length) (dk_rngA _ _) (dk_rngB _ _) (dk_ndr _ _) (dk_ndr _ _) dk_dis rfl rfl ⟨rfl, rfl, Nat.le_of_ble_eq_true rfl, Nat.le_of_ble_eq_true rfl, Nat.le_trans (Nat.le_add_right _ 3) hc, Nat.le_trans (Nat.le_add_right _ 162) hs⟩ (Nat.le_of_ble_eq_true rfl) d_law_1149 ?_
  refine dk_icmp_eq (tgt := 1243) X (by decide) d_law_1152 (show (if r = r then some () else none) = some () from if_pos rfl) (fun _ => ?_) (fun hF => by cases hF)
  exact dk_wid (k := cells + 3) (n := slots + 162) (Nat.le_add_right _ 3) (Nat.le_add_right _ 162) (kk ad T C2 M2 h2 rfl)
theorem lw_c30 {p : Program} {l : Launch} {e : Env} {s : State} {m : MethodId} {below : List Frame} {meth : Method} {c : Code} {g : dk_G} {b L : Nat} {xs : Nat → Int32} {Q : State → Prop} (X : dk_X p s m #[Value.ref b] meth c code 4 R_law ret g (fun q => s.heap.size ≤ q)) (hX : va_X b L xs s s.heap) (hb : b < s.heap.size) {cells slots T i : Nat} {ad am : Nat → Nat} {C M : dk_S} (h : Inv T C M) (hi : i + 6 ≤ L) (hL : L ≤ 384) (hc : cells + 3 ≤ room_1.cells) (hs : slots + 162 ≤ room_1.slots) (kk : ∀ (ad2 : Nat → Nat) (T2 : Nat) (C2 M2 : dk_S), Inv T2 C2 M2 → ad2 0 = ad 0 → dk_J p l e room_1 s m #[Value.ref b] below meth c g (fun q => s.heap.size ≤ q) Q 4 (cells + 3) (slots + 162) 1243 [(0, .ref b), (1, .ref (ad 0)), (2, .ref (am 0)), (3, .int (nI i))] [] (wC g ad2 T2 C2 ++ wM g am M2)) : dk_J p l e room_1 s m #[Value.ref b] below meth c g (fun q => s.heap.size ≤ q) Q 4 cells slots 1157 [(0, .ref b), (1, .ref (ad 0)), (2, .ref (am 0)), (3, .int (nI i))] [] (wC g ad T C ++ wM g am M) := by
  obtain ⟨r, C2, M2, e1, e2, h2⟩ := s_tell (n := 400) h (by decide) (xs (i + 1)) (xs (i + 2)) (xs (i + 3)) (xs (i + 4))
  refine dk_aload_n (k := 1) (i := 1) X 1 rfl rfl d_law_1157 ?_
  refine lw_arg X hX hb hi hL 1 (by decide) (by decide) d_law_1158 d_law_1159 d_law_1160 d_law_1161 d_law_1162 ?_
  refine lw_arg X hX hb hi hL 2 (by decide) (by decide) d_law_1163 d_law_1164 d_law_1165 d_law_1166 d_law_1167 ?_
  refine lw_arg X hX hb hi hL 3 (by decide) (by decide) d_law_1168 d_law_1169 d_law_1170 d_law_1171 d_law_1172 ?_
  refine lw_arg X hX hb hi hL 4 (by decide) (by decide) d_law_1173 d_law_1174 d_law_1175 d_law_1176 d_law_1177 ?_
  refine dk_pVi X v_Hare_tell m_law_142 [.int (xs (i + 1)), .int (xs (i + 2)), .int (xs (i + 3)), .int (xs (i + 4))] (c_Hare_tell l g ad T 400 (xs (i + 1)) (xs (i + 2)) (xs (i + 3)) (xs (i + 4)) C) e1 (wr := wM g am M) (q0 := 0) (oC_Hare g ad T C) rfl rfl (List.range' 0 (wC g ad T C).length) (List.range' (wC g ad T C).length (wM g am M).length) (dk_rngA _ _) (dk_rngB _ _) (dk_ndr _ _) (dk_ndr _ _) dk_dis rfl rfl ⟨rfl, rfl, Nat.le_of_ble_eq_true rfl, Nat.le_of_ble_eq_true rfl, Nat.le_trans (Nat.le_add_right _ 3) hc, Nat.le_trans (Nat.le_add_right _ 162) hs⟩ (Nat.le_of_ble_eq_true rfl) d_law_1178 ?_
  refine dk_aload_n (k := 2) (i := 2) X 2 rfl rfl d_law_1181 ?_
  refine lw_arg X hX hb hi hL 1 (by decide) (by decide) d_law_1182 d_law_1183 d_law_1184 d_law_1185 d_law_1186 ?_
  refine lw_arg X hX hb hi hL 2 (by decide) (by decide) d_law_1187 d_law_1188 d_law_1189 d_law_1190 d_law_1191 ?_
  refine lw_arg X hX hb hi hL 3 (by decide) (by decide) d_law_1192 d_law_1193 d_law_1194 d_law_1195 d_law_1196 ?_
  refine lw_arg X hX hb hi hL 4 (by decide) (by decide) d_law_1197 d_law_1198 d_law_1199 d_law_1200 d_law_1201 ?_
  refine dk_pVi X v_Model_tell m_law_146 [.int (xs (i + 1)), .int (xs (i + 2)), .int (xs (i + 3)), .int (xs (i + 4))] (c_Model_tell l g am 400 (xs (i + 1)) (xs (i + 2)) (xs (i + 3)) (xs (i + 4)) M) e2 (wr := wC g ad T C2) (q0 := 0) (oM_Model g am M) rfl rfl (List.range' 0 (wM g am M).length) (List.range' (wM g am M).length (wC g ad T C2).length) (dk_rngA _ _) (dk_rngB _ _) (dk_ndr _ _) (dk_ndr _ _) dk_dis rfl rfl ⟨rfl, rfl, Nat.le_of_ble_eq_true rfl, Nat.le_of_ble_eq_true rfl, Nat.le_trans (Nat.le_add_right _ 3) hc, Nat.le_trans (Nat.le_add_right _ 162) hs⟩ (Nat.le_of_ble_eq_true rfl) d_law_1202 ?_
  refine dk_icmp_eq (tgt := 1243) X (by decide) d_law_1205 (show (if r = r then some () else none) = some () from if_pos rfl) (fun _ => ?_) (fun hF => by cases hF)
  exact dk_wid (k := cells + 3) (n := slots + 162) (Nat.le_add_right _ 3) (Nat.le_add_right _ 162) (kk ad T C2 M2 h2 rfl)
theorem lw_c31 {p : Program} {l : Launch} {e : Env} {s : State} {m : MethodId} {below : List Frame} {meth : Method} {c : Code} {g : dk_G} {b L : Nat} {xs : Nat → Int32} {Q : State → Prop} (X : dk_X p s m #[Value.ref b] meth c code 4 R_law ret g (fun q => s.heap.size ≤ q)) (hX : va_X b L xs s s.heap) (hb : b < s.heap.size) {cells slots T i : Nat} {ad am : Nat → Nat} {C M : dk_S} (h : Inv T C M) (hi : i + 6 ≤ L) (hL : L ≤ 384) (hc : cells + 3 ≤ room_1.cells) (hs : slots + 162 ≤ room_1.slots) (kk : ∀ (ad2 : Nat → Nat) (T2 : Nat) (C2 M2 : dk_S), Inv T2 C2 M2 → ad2 0 = ad 0 → dk_J p l e room_1 s m #[Value.ref b] below meth c g (fun q => s.heap.size ≤ q) Q 4 (cells + 3) (slots + 162) 1243 [(0, .ref b), (1, .ref (ad 0)), (2, .ref (am 0)), (3, .int (nI i))] [] (wC g ad2 T2 C2 ++ wM g am M2)) : dk_J p l e room_1 s m #[Value.ref b] below meth c g (fun q => s.heap.size ≤ q) Q 4 cells slots 1210 [(0, .ref b), (1, .ref (ad 0)), (2, .ref (am 0)), (3, .int (nI i))] [] (wC g ad T C ++ wM g am M) := by
  obtain ⟨r, C2, M2, e1, e2, h2⟩ := s_taken (n := 400) h (by decide) (xs (i + 1)) (xs (i + 2))
  refine dk_aload_n (k := 1) (i := 1) X 1 rfl rfl d_law_1210 ?_
  refine lw_arg X hX hb hi hL 1 (by decide) (by decide) d_law_1211 d_law_1212 d_law_1213 d_law_1214 d_law_1215 ?_
  refine lw_arg X hX hb hi hL 2 (by decide) (by decide) d_law_1216 d_law_1217 d_law_1218 d_law_1219 d_law_1220 ?_
  refine dk_pVi X v_Hare_taken m_law_147 [.int (xs (i + 1)), .int (xs (i + 2))] (c_Hare_taken l g ad T 400 (xs (i + 1)) (xs (i + 2)) C) e1 (wr := wM g am M) (q0 := 0) (oC_Hare g ad T C) rfl rfl (List.range' 0 (wC g ad T C).length) (List.range' (wC g ad T C).length (wM g am M).length) (dk_rngA _ _) (dk_rngB _ _) (dk_ndr _ _) (dk_ndr _ _) dk_dis rfl rfl ⟨rfl, rfl, Nat.le_of_ble_eq_true rfl, Nat.le_of_ble_eq_true rfl, Nat.le_trans (Nat.le_add_right _ 3) hc, Nat.le_trans (Nat.le_add_right _ 162) hs⟩ (Nat.le_of_ble_eq_true rfl) d_law_1221 ?_
  refine dk_aload_n (k := 2) (i := 2) X 2 rfl rfl d_law_1224 ?_
  refine lw_arg X hX hb hi hL 1 (by decide) (by decide) d_law_1225 d_law_1226 d_law_1227 d_law_1228 d_law_1229 ?_
  refine lw_arg X hX hb hi hL 2 (by decide) (by decide) d_law_1230 d_law_1231 d_law_1232 d_law_1233 d_law_1234 ?_
  refine dk_pVi X v_Model_taken m_law_150 [.int (xs (i + 1)), .int (xs (i + 2))] (c_Model_taken l g am 400 (xs (i + 1)) (xs (i + 2)) M) e2 (wr := wC g ad T C2) (q0 := 0) (oM_Model g am M) rfl rfl (List.range' 0 (wM g am M).length) (List.range' (wM g am M).length (wC g ad T C2).length) (dk_rngA _ _) (dk_rngB _ _) (dk_ndr _ _) (dk_ndr _ _) dk_dis rfl rfl ⟨rfl, rfl, Nat.le_of_ble_eq_true rfl, Nat.le_of_ble_eq_true rfl, Nat.le_trans (Nat.le_add_right _ 3) hc, Nat.le_trans (Nat.le_add_right _ 162) hs⟩ (Nat.le_of_ble_eq_true rfl) d_law_1235 ?_
  refine dk_icmp_eq (tgt := 1243) X (by decide) d_law_1238 (show (if r = r then some () else none) = some () from if_pos rfl) (fun _ => ?_) (fun hF => by cases hF)
  exact dk_wid (k := cells + 3) (n := slots + 162) (Nat.le_add_right _ 3) (Nat.le_add_right _ 162) (kk ad T C2 M2 h2 rfl)
