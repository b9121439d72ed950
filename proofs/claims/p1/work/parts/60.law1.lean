theorem dL_law_1995 : decode cL_law 1995 = .ok (.iinc 5 4, 3) := by decide +kernel
theorem dL_law_1998 : decode cL_law 1998 = .ok (.goto (-1970), 3) := by decide +kernel
theorem dL_law_28 : decode cL_law 28 = .ok (.iload 5, 2) := by decide +kernel
theorem dL_law_30 : decode cL_law 30 = .ok (.aload_n 0, 1) := by decide +kernel
theorem dL_law_31 : decode cL_law 31 = .ok (.arraylength, 1) := by decide +kernel
theorem dL_law_32 : decode cL_law 32 = .ok (.iconst 4, 1) := by decide +kernel
theorem dL_law_33 : decode cL_law 33 = .ok (.isub, 1) := by decide +kernel
theorem dL_law_34 : decode cL_law 34 = .ok (.if_icmp .gt 1967, 3) := by decide +kernel
theorem dL_law_2001 : decode cL_law 2001 = .ok (.iconst 1, 1) := by decide +kernel
theorem dL_law_2002 : decode cL_law 2002 = .ok (.ireturn, 1) := by decide +kernel
theorem dL_law_200 : decode cL_law 200 = .ok (.aload_n 1, 1) := by decide +kernel
theorem dL_law_201 : decode cL_law 201 = .ok (.aload_n 3, 1) := by decide +kernel
theorem dL_law_202 : decode cL_law 202 = .ok (.invokestatic 128, 3) := by decide +kernel
theorem q_458 : (Jvm.Cond.codeWith ({ cls := "ChipfoldLaw", name := "vertex", desc := "(LChipfold;[J)I" } : Jvm.MethodName) method_3_code (3 : Nat) (Option.some Jvm.ClassFile.FieldType.int) [((0 : Nat), (8 : Nat), (11 : Nat), (13 : Nat))]) ∈ WG := wg_3 (List.mem_of_getElem? (i := 25) (by decide +kernel)) (by decide +kernel)
theorem q_459 : (Jvm.Cond.initialized "ChipfoldLaw") ∈ WG := wg_1 (List.mem_of_getElem? (i := 0) (by decide +kernel)) (by decide +kernel)
theorem q_460 : (Jvm.Cond.methodLink "ChipfoldLaw" (128 : Nat) ({ cls := "ChipfoldLaw", name := "vertex", desc := "(LChipfold;[J)I" } : Jvm.MethodName)) ∈ WG := wg_3 (List.mem_of_getElem? (i := 23) (by decide +kernel)) (by decide +kernel)
theorem q_461 : (Jvm.Cond.static ({ cls := "ChipfoldLaw", name := "vertex", desc := "(LChipfold;[J)I" } : Jvm.MethodName)) ∈ WG := wg_3 (List.mem_of_getElem? (i := 24) (by decide +kernel)) (by decide +kernel)
theorem dL_law_205 : decode cL_law 205 = .ok (.istore 6, 2) := by decide +kernel
theorem dL_law_207 : decode cL_law 207 = .ok (.aload_n 2, 1) := by decide +kernel
theorem dL_law_208 : decode cL_law 208 = .ok (.invokevirtual 133, 3) := by decide +kernel
theorem q_462 : (Jvm.Cond.code ({ cls := "ChipfoldModel", name := "vertex", desc := "()I" } : Jvm.MethodName) prog_13_method_8_code (1 : Nat) (Option.some Jvm.ClassFile.FieldType.int)) ∈ WG := wg_5 (List.mem_of_getElem? (i := 205) rfl) rfl
theorem q_463 : (Jvm.Cond.selects "ChipfoldModel" ({ cls := "ChipfoldModel", name := "vertex", desc := "()I" } : Jvm.MethodName) ({ cls := "ChipfoldModel", name := "vertex", desc := "()I" } : Jvm.MethodName)) ∈ WG := wg_5 (List.mem_of_getElem? (i := 204) (by decide +kernel)) (by decide +kernel)
theorem q_464 : (Jvm.Cond.methodLink "ChipfoldLaw" (133 : Nat) ({ cls := "ChipfoldModel", name := "vertex", desc := "()I" } : Jvm.MethodName)) ∈ WG := wg_5 (List.mem_of_getElem? (i := 202) (by decide +kernel)) (by decide +kernel)
theorem q_465 : (Jvm.Cond.instanceMethod ({ cls := "ChipfoldModel", name := "vertex", desc := "()I" } : Jvm.MethodName)) ∈ WG := wg_5 (List.mem_of_getElem? (i := 203) (by decide +kernel)) (by decide +kernel)
theorem dL_law_211 : decode cL_law 211 = .ok (.istore 7, 2) := by decide +kernel
theorem dL_law_213 : decode cL_law 213 = .ok (.aload_n 2, 1) := by decide +kernel
theorem dL_law_214 : decode cL_law 214 = .ok (.invokevirtual 134, 3) := by decide +kernel
theorem q_466 : (Jvm.Cond.code ({ cls := "ChipfoldModel", name := "thrown", desc := "()I" } : Jvm.MethodName) prog_13_method_2_code (1 : Nat) (Option.some Jvm.ClassFile.FieldType.int)) ∈ WG := wg_5 (List.mem_of_getElem? (i := 201) rfl) rfl
theorem q_467 : (Jvm.Cond.selects "ChipfoldModel" ({ cls := "ChipfoldModel", name := "thrown", desc := "()I" } : Jvm.MethodName) ({ cls := "ChipfoldModel", name := "thrown", desc := "()I" } : Jvm.MethodName)) ∈ WG := wg_5 (List.mem_of_getElem? (i := 200) (by decide +kernel)) (by decide +kernel)
theorem q_468 : (Jvm.Cond.methodLink "ChipfoldLaw" (134 : Nat) ({ cls := "ChipfoldModel", name := "thrown", desc := "()I" } : Jvm.MethodName)) ∈ WG := wg_5 (List.mem_of_getElem? (i := 198) (by decide +kernel)) (by decide +kernel)
theorem q_469 : (Jvm.Cond.instanceMethod ({ cls := "ChipfoldModel", name := "thrown", desc := "()I" } : Jvm.MethodName)) ∈ WG := wg_5 (List.mem_of_getElem? (i := 199) (by decide +kernel)) (by decide +kernel)
theorem dL_law_217 : decode cL_law 217 = .ok (.iload 6, 2) := by decide +kernel
theorem dL_law_219 : decode cL_law 219 = .ok (.if_icmp .eq 5, 3) := by decide +kernel
theorem dL_law_224 : decode cL_law 224 = .ok (.iload 6, 2) := by decide +kernel
theorem dL_law_226 : decode cL_law 226 = .ok (.ifCond .ne 15, 3) := by decide +kernel
theorem dL_law_229 : decode cL_law 229 = .ok (.aload_n 3, 1) := by decide +kernel
theorem dL_law_230 : decode cL_law 230 = .ok (.iconst 0, 1) := by decide +kernel
theorem dL_law_231 : decode cL_law 231 = .ok (.laload, 1) := by decide +kernel
theorem dL_law_232 : decode cL_law 232 = .ok (.iload 7, 2) := by decide +kernel
theorem dL_law_234 : decode cL_law 234 = .ok (.i2l, 1) := by decide +kernel
theorem dL_law_235 : decode cL_law 235 = .ok (.lcmp, 1) := by decide +kernel
theorem dL_law_236 : decode cL_law 236 = .ok (.ifCond .eq 5, 3) := by decide +kernel
theorem dL_law_241 : decode cL_law 241 = .ok (.goto 1754, 3) := by decide +kernel
theorem dL_law_244 : decode cL_law 244 = .ok (.aload_n 1, 1) := by decide +kernel
theorem dL_law_245 : decode cL_law 245 = .ok (.aload_n 0, 1) := by decide +kernel
theorem dL_law_246 : decode cL_law 246 = .ok (.iload 5, 2) := by decide +kernel
theorem dL_law_248 : decode cL_law 248 = .ok (.iconst 1, 1) := by decide +kernel
theorem dL_law_249 : decode cL_law 249 = .ok (.iadd, 1) := by decide +kernel
theorem dL_law_250 : decode cL_law 250 = .ok (.iaload, 1) := by decide +kernel
theorem dL_law_251 : decode cL_law 251 = .ok (.aload_n 0, 1) := by decide +kernel
theorem dL_law_252 : decode cL_law 252 = .ok (.iload 5, 2) := by decide +kernel
theorem dL_law_254 : decode cL_law 254 = .ok (.iconst 2, 1) := by decide +kernel
theorem dL_law_255 : decode cL_law 255 = .ok (.iadd, 1) := by decide +kernel
theorem dL_law_256 : decode cL_law 256 = .ok (.iaload, 1) := by decide +kernel
theorem dL_law_257 : decode cL_law 257 = .ok (.aload_n 0, 1) := by decide +kernel
theorem dL_law_258 : decode cL_law 258 = .ok (.iload 5, 2) := by decide +kernel
theorem dL_law_260 : decode cL_law 260 = .ok (.iconst 3, 1) := by decide +kernel
theorem dL_law_261 : decode cL_law 261 = .ok (.iadd, 1) := by decide +kernel
theorem dL_law_262 : decode cL_law 262 = .ok (.iaload, 1) := by decide +kernel
theorem dL_law_263 : decode cL_law 263 = .ok (.aload_n 3, 1) := by decide +kernel
theorem dL_law_264 : decode cL_law 264 = .ok (.invokestatic 137, 3) := by decide +kernel
theorem q_470 : (Jvm.Cond.codeWith ({ cls := "ChipfoldLaw", name := "edges", desc := "(LChipfold;III[J)I" } : Jvm.MethodName) method_4_code (6 : Nat) (Option.some Jvm.ClassFile.FieldType.int) [((0 : Nat), (12 : Nat), (15 : Nat), (19 : Nat)), ((0 : Nat), (12 : Nat), (19 : Nat), (21 : Nat))]) ∈ WG := wg_3 (List.mem_of_getElem? (i := 123) (by decide +kernel)) (by decide +kernel)
theorem q_471 : (Jvm.Cond.methodLink "ChipfoldLaw" (137 : Nat) ({ cls := "ChipfoldLaw", name := "edges", desc := "(LChipfold;III[J)I" } : Jvm.MethodName)) ∈ WG := wg_3 (List.mem_of_getElem? (i := 121) (by decide +kernel)) (by decide +kernel)
theorem q_472 : (Jvm.Cond.static ({ cls := "ChipfoldLaw", name := "edges", desc := "(LChipfold;III[J)I" } : Jvm.MethodName)) ∈ WG := wg_3 (List.mem_of_getElem? (i := 122) (by decide +kernel)) (by decide +kernel)
theorem dL_law_267 : decode cL_law 267 = .ok (.istore 6, 2) := by decide +kernel
theorem dL_law_269 : decode cL_law 269 = .ok (.aload_n 2, 1) := by decide +kernel
theorem dL_law_270 : decode cL_law 270 = .ok (.aload_n 0, 1) := by decide +kernel
theorem dL_law_271 : decode cL_law 271 = .ok (.iload 5, 2) := by decide +kernel
theorem dL_law_273 : decode cL_law 273 = .ok (.iconst 1, 1) := by decide +kernel
theorem dL_law_274 : decode cL_law 274 = .ok (.iadd, 1) := by decide +kernel
theorem dL_law_275 : decode cL_law 275 = .ok (.iaload, 1) := by decide +kernel
theorem dL_law_276 : decode cL_law 276 = .ok (.aload_n 0, 1) := by decide +kernel
theorem dL_law_277 : decode cL_law 277 = .ok (.iload 5, 2) := by decide +kernel
theorem dL_law_279 : decode cL_law 279 = .ok (.iconst 2, 1) := by decide +kernel
theorem dL_law_280 : decode cL_law 280 = .ok (.iadd, 1) := by decide +kernel
theorem dL_law_281 : decode cL_law 281 = .ok (.iaload, 1) := by decide +kernel
theorem dL_law_282 : decode cL_law 282 = .ok (.aload_n 0, 1) := by decide +kernel
theorem dL_law_283 : decode cL_law 283 = .ok (.iload 5, 2) := by decide +kernel
theorem dL_law_285 : decode cL_law 285 = .ok (.iconst 3, 1) := by decide +kernel
theorem dL_law_286 : decode cL_law 286 = .ok (.iadd, 1) := by decide +kernel
theorem dL_law_287 : decode cL_law 287 = .ok (.iaload, 1) := by decide +kernel
theorem dL_law_288 : decode cL_law 288 = .ok (.invokevirtual 140, 3) := by decide +kernel
theorem q_473 : (Jvm.Cond.code ({ cls := "ChipfoldModel", name := "edges", desc := "(III)I" } : Jvm.MethodName) prog_13_method_9_code (5 : Nat) (Option.some Jvm.ClassFile.FieldType.int)) ∈ WG := wg_5 (List.mem_of_getElem? (i := 213) rfl) rfl
theorem q_474 : (Jvm.Cond.selects "ChipfoldModel" ({ cls := "ChipfoldModel", name := "edges", desc := "(III)I" } : Jvm.MethodName) ({ cls := "ChipfoldModel", name := "edges", desc := "(III)I" } : Jvm.MethodName)) ∈ WG := wg_5 (List.mem_of_getElem? (i := 212) (by decide +kernel)) (by decide +kernel)
theorem q_475 : (Jvm.Cond.methodLink "ChipfoldLaw" (140 : Nat) ({ cls := "ChipfoldModel", name := "edges", desc := "(III)I" } : Jvm.MethodName)) ∈ WG := wg_5 (List.mem_of_getElem? (i := 210) (by decide +kernel)) (by decide +kernel)
theorem q_476 : (Jvm.Cond.instanceMethod ({ cls := "ChipfoldModel", name := "edges", desc := "(III)I" } : Jvm.MethodName)) ∈ WG := wg_5 (List.mem_of_getElem? (i := 211) (by decide +kernel)) (by decide +kernel)
theorem dL_law_291 : decode cL_law 291 = .ok (.istore 7, 2) := by decide +kernel
theorem dL_law_293 : decode cL_law 293 = .ok (.aload_n 2, 1) := by decide +kernel
theorem dL_law_294 : decode cL_law 294 = .ok (.invokevirtual 134, 3) := by decide +kernel
theorem dL_law_297 : decode cL_law 297 = .ok (.iload 6, 2) := by decide +kernel
theorem dL_law_299 : decode cL_law 299 = .ok (.if_icmp .eq 5, 3) := by decide +kernel
theorem dL_law_304 : decode cL_law 304 = .ok (.iload 6, 2) := by decide +kernel
theorem dL_law_306 : decode cL_law 306 = .ok (.ifCond .ne 15, 3) := by decide +kernel
theorem dL_law_321 : decode cL_law 321 = .ok (.goto 1674, 3) := by decide +kernel
theorem dL_law_324 : decode cL_law 324 = .ok (.aload_n 1, 1) := by decide +kernel
theorem dL_law_325 : decode cL_law 325 = .ok (.aload_n 0, 1) := by decide +kernel
theorem dL_law_326 : decode cL_law 326 = .ok (.iload 5, 2) := by decide +kernel
theorem dL_law_328 : decode cL_law 328 = .ok (.iconst 1, 1) := by decide +kernel
theorem dL_law_329 : decode cL_law 329 = .ok (.iadd, 1) := by decide +kernel
theorem dL_law_330 : decode cL_law 330 = .ok (.iaload, 1) := by decide +kernel
theorem dL_law_331 : decode cL_law 331 = .ok (.aload_n 3, 1) := by decide +kernel
theorem dL_law_332 : decode cL_law 332 = .ok (.invokestatic 141, 3) := by decide +kernel
theorem q_477 : (Jvm.Cond.codeWith ({ cls := "ChipfoldLaw", name := "setSink", desc := "(LChipfold;I[J)I" } : Jvm.MethodName) method_5_code (4 : Nat) (Option.some Jvm.ClassFile.FieldType.int) [((0 : Nat), (9 : Nat), (12 : Nat), (19 : Nat))]) ∈ WG := wg_3 (List.mem_of_getElem? (i := 202) (by decide +kernel)) (by decide +kernel)
theorem q_478 : (Jvm.Cond.methodLink "ChipfoldLaw" (141 : Nat) ({ cls := "ChipfoldLaw", name := "setSink", desc := "(LChipfold;I[J)I" } : Jvm.MethodName)) ∈ WG := wg_3 (List.mem_of_getElem? (i := 200) (by decide +kernel)) (by decide +kernel)
theorem q_479 : (Jvm.Cond.static ({ cls := "ChipfoldLaw", name := "setSink", desc := "(LChipfold;I[J)I" } : Jvm.MethodName)) ∈ WG := wg_3 (List.mem_of_getElem? (i := 201) (by decide +kernel)) (by decide +kernel)
theorem dL_law_335 : decode cL_law 335 = .ok (.istore 6, 2) := by decide +kernel
theorem dL_law_337 : decode cL_law 337 = .ok (.aload_n 2, 1) := by decide +kernel
theorem dL_law_338 : decode cL_law 338 = .ok (.aload_n 0, 1) := by decide +kernel
theorem dL_law_339 : decode cL_law 339 = .ok (.iload 5, 2) := by decide +kernel
theorem dL_law_341 : decode cL_law 341 = .ok (.iconst 1, 1) := by decide +kernel
theorem dL_law_342 : decode cL_law 342 = .ok (.iadd, 1) := by decide +kernel
theorem dL_law_343 : decode cL_law 343 = .ok (.iaload, 1) := by decide +kernel
theorem dL_law_344 : decode cL_law 344 = .ok (.invokevirtual 144, 3) := by decide +kernel
theorem q_480 : (Jvm.Cond.code ({ cls := "ChipfoldModel", name := "setSink", desc := "(I)I" } : Jvm.MethodName) prog_13_method_10_code (3 : Nat) (Option.some Jvm.ClassFile.FieldType.int)) ∈ WG := wg_5 (List.mem_of_getElem? (i := 224) rfl) rfl
theorem q_481 : (Jvm.Cond.selects "ChipfoldModel" ({ cls := "ChipfoldModel", name := "setSink", desc := "(I)I" } : Jvm.MethodName) ({ cls := "ChipfoldModel", name := "setSink", desc := "(I)I" } : Jvm.MethodName)) ∈ WG := wg_5 (List.mem_of_getElem? (i := 223) (by decide +kernel)) (by decide +kernel)
theorem q_482 : (Jvm.Cond.methodLink "ChipfoldLaw" (144 : Nat) ({ cls := "ChipfoldModel", name := "setSink", desc := "(I)I" } : Jvm.MethodName)) ∈ WG := wg_5 (List.mem_of_getElem? (i := 221) (by decide +kernel)) (by decide +kernel)
theorem q_483 : (Jvm.Cond.instanceMethod ({ cls := "ChipfoldModel", name := "setSink", desc := "(I)I" } : Jvm.MethodName)) ∈ WG := wg_5 (List.mem_of_getElem? (i := 222) (by decide +kernel)) (by decide +kernel)
theorem dL_law_347 : decode cL_law 347 = .ok (.istore 7, 2) := by decide +kernel
theorem dL_law_349 : decode cL_law 349 = .ok (.aload_n 2, 1) := by decide +kernel
theorem dL_law_350 : decode cL_law 350 = .ok (.invokevirtual 134, 3) := by decide +kernel
theorem dL_law_353 : decode cL_law 353 = .ok (.iload 6, 2) := by decide +kernel
theorem dL_law_355 : decode cL_law 355 = .ok (.if_icmp .eq 5, 3) := by decide +kernel
theorem dL_law_360 : decode cL_law 360 = .ok (.iload 6, 2) := by decide +kernel
theorem dL_law_362 : decode cL_law 362 = .ok (.ifCond .ne 15, 3) := by decide +kernel
theorem dL_law_377 : decode cL_law 377 = .ok (.goto 1618, 3) := by decide +kernel
theorem dL_law_380 : decode cL_law 380 = .ok (.aload_n 1, 1) := by decide +kernel
theorem dL_law_381 : decode cL_law 381 = .ok (.aload_n 0, 1) := by decide +kernel
theorem dL_law_382 : decode cL_law 382 = .ok (.iload 5, 2) := by decide +kernel
theorem dL_law_384 : decode cL_law 384 = .ok (.iconst 1, 1) := by decide +kernel
theorem dL_law_385 : decode cL_law 385 = .ok (.iadd, 1) := by decide +kernel
theorem dL_law_386 : decode cL_law 386 = .ok (.iaload, 1) := by decide +kernel
theorem dL_law_387 : decode cL_law 387 = .ok (.aload_n 3, 1) := by decide +kernel
theorem dL_law_388 : decode cL_law 388 = .ok (.invokestatic 145, 3) := by decide +kernel
theorem q_484 : (Jvm.Cond.codeWith ({ cls := "ChipfoldLaw", name := "degree", desc := "(LChipfold;I[J)I" } : Jvm.MethodName) method_6_code (4 : Nat) (Option.some Jvm.ClassFile.FieldType.int) [((0 : Nat), (9 : Nat), (12 : Nat), (19 : Nat))]) ∈ WG := wg_3 (List.mem_of_getElem? (i := 217) (by decide +kernel)) (by decide +kernel)
theorem q_485 : (Jvm.Cond.methodLink "ChipfoldLaw" (145 : Nat) ({ cls := "ChipfoldLaw", name := "degree", desc := "(LChipfold;I[J)I" } : Jvm.MethodName)) ∈ WG := wg_3 (List.mem_of_getElem? (i := 215) (by decide +kernel)) (by decide +kernel)
theorem q_486 : (Jvm.Cond.static ({ cls := "ChipfoldLaw", name := "degree", desc := "(LChipfold;I[J)I" } : Jvm.MethodName)) ∈ WG := wg_3 (List.mem_of_getElem? (i := 216) (by decide +kernel)) (by decide +kernel)
theorem dL_law_391 : decode cL_law 391 = .ok (.istore 6, 2) := by decide +kernel
theorem dL_law_393 : decode cL_law 393 = .ok (.aload_n 2, 1) := by decide +kernel
theorem dL_law_394 : decode cL_law 394 = .ok (.aload_n 0, 1) := by decide +kernel
theorem dL_law_395 : decode cL_law 395 = .ok (.iload 5, 2) := by decide +kernel
theorem dL_law_397 : decode cL_law 397 = .ok (.iconst 1, 1) := by decide +kernel
theorem dL_law_398 : decode cL_law 398 = .ok (.iadd, 1) := by decide +kernel
theorem dL_law_399 : decode cL_law 399 = .ok (.iaload, 1) := by decide +kernel
theorem dL_law_400 : decode cL_law 400 = .ok (.invokevirtual 147, 3) := by decide +kernel
theorem q_487 : (Jvm.Cond.code ({ cls := "ChipfoldModel", name := "degree", desc := "(I)I" } : Jvm.MethodName) prog_13_method_12_code (2 : Nat) (Option.some Jvm.ClassFile.FieldType.int)) ∈ WG := wg_5 (List.mem_of_getElem? (i := 232) rfl) rfl
theorem q_488 : (Jvm.Cond.selects "ChipfoldModel" ({ cls := "ChipfoldModel", name := "degree", desc := "(I)I" } : Jvm.MethodName) ({ cls := "ChipfoldModel", name := "degree", desc := "(I)I" } : Jvm.MethodName)) ∈ WG := wg_5 (List.mem_of_getElem? (i := 231) (by decide +kernel)) (by decide +kernel)
theorem q_489 : (Jvm.Cond.methodLink "ChipfoldLaw" (147 : Nat) ({ cls := "ChipfoldModel", name := "degree", desc := "(I)I" } : Jvm.MethodName)) ∈ WG := wg_5 (List.mem_of_getElem? (i := 229) (by decide +kernel)) (by decide +kernel)
theorem q_490 : (Jvm.Cond.instanceMethod ({ cls := "ChipfoldModel", name := "degree", desc := "(I)I" } : Jvm.MethodName)) ∈ WG := wg_5 (List.mem_of_getElem? (i := 230) (by decide +kernel)) (by decide +kernel)
theorem dL_law_403 : decode cL_law 403 = .ok (.istore 7, 2) := by decide +kernel
theorem dL_law_405 : decode cL_law 405 = .ok (.aload_n 2, 1) := by decide +kernel
theorem dL_law_406 : decode cL_law 406 = .ok (.invokevirtual 134, 3) := by decide +kernel
theorem dL_law_409 : decode cL_law 409 = .ok (.iload 6, 2) := by decide +kernel
theorem dL_law_411 : decode cL_law 411 = .ok (.if_icmp .eq 5, 3) := by decide +kernel
theorem dL_law_416 : decode cL_law 416 = .ok (.iload 6, 2) := by decide +kernel
theorem dL_law_418 : decode cL_law 418 = .ok (.ifCond .ne 15, 3) := by decide +kernel
theorem dL_law_433 : decode cL_law 433 = .ok (.goto 1562, 3) := by decide +kernel
theorem dL_law_436 : decode cL_law 436 = .ok (.aload_n 1, 1) := by decide +kernel
theorem dL_law_437 : decode cL_law 437 = .ok (.invokevirtual 148, 3) := by decide +kernel
theorem q_491 : (Jvm.Cond.code ({ cls := "Chipfold", name := "isWhole", desc := "()Z" } : Jvm.MethodName) prog_1_method_6_code (1 : Nat) (Option.some Jvm.ClassFile.FieldType.boolean)) ∈ WG := wg_2 (List.mem_of_getElem? (i := 22) rfl) rfl
theorem q_492 : (Jvm.Cond.selects "Chipfold" ({ cls := "Chipfold", name := "isWhole", desc := "()Z" } : Jvm.MethodName) ({ cls := "Chipfold", name := "isWhole", desc := "()Z" } : Jvm.MethodName)) ∈ WG := wg_2 (List.mem_of_getElem? (i := 21) (by decide +kernel)) (by decide +kernel)
theorem q_493 : (Jvm.Cond.methodLink "ChipfoldLaw" (148 : Nat) ({ cls := "Chipfold", name := "isWhole", desc := "()Z" } : Jvm.MethodName)) ∈ WG := wg_2 (List.mem_of_getElem? (i := 19) (by decide +kernel)) (by decide +kernel)
theorem q_494 : (Jvm.Cond.instanceMethod ({ cls := "Chipfold", name := "isWhole", desc := "()Z" } : Jvm.MethodName)) ∈ WG := wg_2 (List.mem_of_getElem? (i := 20) (by decide +kernel)) (by decide +kernel)
theorem dL_law_440 : decode cL_law 440 = .ok (.aload_n 2, 1) := by decide +kernel
theorem dL_law_441 : decode cL_law 441 = .ok (.invokevirtual 151, 3) := by decide +kernel
theorem q_495 : (Jvm.Cond.code ({ cls := "ChipfoldModel", name := "isWhole", desc := "()Z" } : Jvm.MethodName) prog_13_method_15_code (1 : Nat) (Option.some Jvm.ClassFile.FieldType.boolean)) ∈ WG := wg_6 (List.mem_of_getElem? (i := 0) rfl) rfl
theorem q_496 : (Jvm.Cond.selects "ChipfoldModel" ({ cls := "ChipfoldModel", name := "isWhole", desc := "()Z" } : Jvm.MethodName) ({ cls := "ChipfoldModel", name := "isWhole", desc := "()Z" } : Jvm.MethodName)) ∈ WG := wg_5 (List.mem_of_getElem? (i := 239) (by decide +kernel)) (by decide +kernel)
theorem q_497 : (Jvm.Cond.methodLink "ChipfoldLaw" (151 : Nat) ({ cls := "ChipfoldModel", name := "isWhole", desc := "()Z" } : Jvm.MethodName)) ∈ WG := wg_5 (List.mem_of_getElem? (i := 237) (by decide +kernel)) (by decide +kernel)
theorem q_498 : (Jvm.Cond.instanceMethod ({ cls := "ChipfoldModel", name := "isWhole", desc := "()Z" } : Jvm.MethodName)) ∈ WG := wg_5 (List.mem_of_getElem? (i := 238) (by decide +kernel)) (by decide +kernel)
theorem dL_law_444 : decode cL_law 444 = .ok (.if_icmp .eq 1551, 3) := by decide +kernel
theorem dL_law_449 : decode cL_law 449 = .ok (.aload_n 1, 1) := by decide +kernel
theorem dL_law_450 : decode cL_law 450 = .ok (.aload_n 0, 1) := by decide +kernel
theorem dL_law_451 : decode cL_law 451 = .ok (.iload 5, 2) := by decide +kernel
theorem dL_law_453 : decode cL_law 453 = .ok (.iconst 1, 1) := by decide +kernel
theorem dL_law_454 : decode cL_law 454 = .ok (.iadd, 1) := by decide +kernel
theorem dL_law_455 : decode cL_law 455 = .ok (.iaload, 1) := by decide +kernel
theorem dL_law_456 : decode cL_law 456 = .ok (.aload_n 0, 1) := by decide +kernel
theorem dL_law_457 : decode cL_law 457 = .ok (.iload 5, 2) := by decide +kernel
theorem dL_law_459 : decode cL_law 459 = .ok (.iconst 2, 1) := by decide +kernel
theorem dL_law_460 : decode cL_law 460 = .ok (.iadd, 1) := by decide +kernel
theorem dL_law_461 : decode cL_law 461 = .ok (.iaload, 1) := by decide +kernel
theorem dL_law_462 : decode cL_law 462 = .ok (.aload_n 3, 1) := by decide +kernel
theorem dL_law_463 : decode cL_law 463 = .ok (.invokestatic 152, 3) := by decide +kernel
theorem q_499 : (Jvm.Cond.codeWith ({ cls := "ChipfoldLaw", name := "put", desc := "(LChipfold;II[J)I" } : Jvm.MethodName) method_7_code (5 : Nat) (Option.some Jvm.ClassFile.FieldType.int) [((0 : Nat), (10 : Nat), (13 : Nat), (19 : Nat)), ((0 : Nat), (10 : Nat), (17 : Nat), (21 : Nat)), ((0 : Nat), (10 : Nat), (21 : Nat), (13 : Nat))]) ∈ WG := wg_3 (List.mem_of_getElem? (i := 225) (by decide +kernel)) (by decide +kernel)
theorem q_500 : (Jvm.Cond.methodLink "ChipfoldLaw" (152 : Nat) ({ cls := "ChipfoldLaw", name := "put", desc := "(LChipfold;II[J)I" } : Jvm.MethodName)) ∈ WG := wg_3 (List.mem_of_getElem? (i := 223) (by decide +kernel)) (by decide +kernel)
theorem q_501 : (Jvm.Cond.static ({ cls := "ChipfoldLaw", name := "put", desc := "(LChipfold;II[J)I" } : Jvm.MethodName)) ∈ WG := wg_3 (List.mem_of_getElem? (i := 224) (by decide +kernel)) (by decide +kernel)
theorem dL_law_466 : decode cL_law 466 = .ok (.istore 6, 2) := by decide +kernel
theorem dL_law_468 : decode cL_law 468 = .ok (.aload_n 2, 1) := by decide +kernel
theorem dL_law_469 : decode cL_law 469 = .ok (.aload_n 0, 1) := by decide +kernel
theorem dL_law_470 : decode cL_law 470 = .ok (.iload 5, 2) := by decide +kernel
theorem dL_law_472 : decode cL_law 472 = .ok (.iconst 1, 1) := by decide +kernel
theorem dL_law_473 : decode cL_law 473 = .ok (.iadd, 1) := by decide +kernel
theorem dL_law_474 : decode cL_law 474 = .ok (.iaload, 1) := by decide +kernel
theorem dL_law_475 : decode cL_law 475 = .ok (.aload_n 0, 1) := by decide +kernel
theorem dL_law_476 : decode cL_law 476 = .ok (.iload 5, 2) := by decide +kernel
theorem dL_law_478 : decode cL_law 478 = .ok (.iconst 2, 1) := by decide +kernel
theorem dL_law_479 : decode cL_law 479 = .ok (.iadd, 1) := by decide +kernel
theorem dL_law_480 : decode cL_law 480 = .ok (.iaload, 1) := by decide +kernel
theorem dL_law_481 : decode cL_law 481 = .ok (.invokevirtual 155, 3) := by decide +kernel
theorem q_502 : (Jvm.Cond.code ({ cls := "ChipfoldModel", name := "put", desc := "(II)I" } : Jvm.MethodName) prog_13_method_17_code (3 : Nat) (Option.some Jvm.ClassFile.FieldType.int)) ∈ WG := wg_6 (List.mem_of_getElem? (i := 13) rfl) rfl
theorem q_503 : (Jvm.Cond.selects "ChipfoldModel" ({ cls := "ChipfoldModel", name := "put", desc := "(II)I" } : Jvm.MethodName) ({ cls := "ChipfoldModel", name := "put", desc := "(II)I" } : Jvm.MethodName)) ∈ WG := wg_6 (List.mem_of_getElem? (i := 12) (by decide +kernel)) (by decide +kernel)
theorem q_504 : (Jvm.Cond.methodLink "ChipfoldLaw" (155 : Nat) ({ cls := "ChipfoldModel", name := "put", desc := "(II)I" } : Jvm.MethodName)) ∈ WG := wg_6 (List.mem_of_getElem? (i := 10) (by decide +kernel)) (by decide +kernel)
theorem q_505 : (Jvm.Cond.instanceMethod ({ cls := "ChipfoldModel", name := "put", desc := "(II)I" } : Jvm.MethodName)) ∈ WG := wg_6 (List.mem_of_getElem? (i := 11) (by decide +kernel)) (by decide +kernel)
theorem dL_law_484 : decode cL_law 484 = .ok (.istore 7, 2) := by decide +kernel
theorem dL_law_486 : decode cL_law 486 = .ok (.aload_n 2, 1) := by decide +kernel
theorem dL_law_487 : decode cL_law 487 = .ok (.invokevirtual 134, 3) := by decide +kernel
theorem dL_law_490 : decode cL_law 490 = .ok (.iload 6, 2) := by decide +kernel
theorem dL_law_492 : decode cL_law 492 = .ok (.if_icmp .eq 5, 3) := by decide +kernel
theorem dL_law_497 : decode cL_law 497 = .ok (.iload 6, 2) := by decide +kernel
theorem dL_law_499 : decode cL_law 499 = .ok (.ifCond .ne 15, 3) := by decide +kernel
theorem dL_law_514 : decode cL_law 514 = .ok (.goto 1481, 3) := by decide +kernel
theorem dL_law_517 : decode cL_law 517 = .ok (.aload_n 1, 1) := by decide +kernel
theorem dL_law_518 : decode cL_law 518 = .ok (.aload_n 0, 1) := by decide +kernel
theorem dL_law_519 : decode cL_law 519 = .ok (.iload 5, 2) := by decide +kernel
theorem dL_law_521 : decode cL_law 521 = .ok (.iconst 1, 1) := by decide +kernel
theorem dL_law_522 : decode cL_law 522 = .ok (.iadd, 1) := by decide +kernel
theorem dL_law_523 : decode cL_law 523 = .ok (.iaload, 1) := by decide +kernel
theorem dL_law_524 : decode cL_law 524 = .ok (.aload_n 3, 1) := by decide +kernel
theorem dL_law_525 : decode cL_law 525 = .ok (.invokestatic 156, 3) := by decide +kernel
theorem q_506 : (Jvm.Cond.codeWith ({ cls := "ChipfoldLaw", name := "chips", desc := "(LChipfold;I[J)I" } : Jvm.MethodName) method_8_code (4 : Nat) (Option.some Jvm.ClassFile.FieldType.int) [((0 : Nat), (9 : Nat), (12 : Nat), (19 : Nat))]) ∈ WG := wg_3 (List.mem_of_getElem? (i := 237) (by decide +kernel)) (by decide +kernel)
theorem q_507 : (Jvm.Cond.methodLink "ChipfoldLaw" (156 : Nat) ({ cls := "ChipfoldLaw", name := "chips", desc := "(LChipfold;I[J)I" } : Jvm.MethodName)) ∈ WG := wg_3 (List.mem_of_getElem? (i := 235) (by decide +kernel)) (by decide +kernel)
theorem q_508 : (Jvm.Cond.static ({ cls := "ChipfoldLaw", name := "chips", desc := "(LChipfold;I[J)I" } : Jvm.MethodName)) ∈ WG := wg_3 (List.mem_of_getElem? (i := 236) (by decide +kernel)) (by decide +kernel)
theorem dL_law_528 : decode cL_law 528 = .ok (.istore 6, 2) := by decide +kernel
theorem dL_law_530 : decode cL_law 530 = .ok (.aload_n 2, 1) := by decide +kernel
theorem dL_law_531 : decode cL_law 531 = .ok (.aload_n 0, 1) := by decide +kernel
theorem dL_law_532 : decode cL_law 532 = .ok (.iload 5, 2) := by decide +kernel
theorem dL_law_534 : decode cL_law 534 = .ok (.iconst 1, 1) := by decide +kernel
theorem dL_law_535 : decode cL_law 535 = .ok (.iadd, 1) := by decide +kernel
theorem dL_law_536 : decode cL_law 536 = .ok (.iaload, 1) := by decide +kernel
theorem dL_law_537 : decode cL_law 537 = .ok (.invokevirtual 158, 3) := by decide +kernel
theorem q_509 : (Jvm.Cond.code ({ cls := "ChipfoldModel", name := "chips", desc := "(I)I" } : Jvm.MethodName) prog_13_method_18_code (2 : Nat) (Option.some Jvm.ClassFile.FieldType.int)) ∈ WG := wg_6 (List.mem_of_getElem? (i := 17) rfl) rfl
theorem q_510 : (Jvm.Cond.selects "ChipfoldModel" ({ cls := "ChipfoldModel", name := "chips", desc := "(I)I" } : Jvm.MethodName) ({ cls := "ChipfoldModel", name := "chips", desc := "(I)I" } : Jvm.MethodName)) ∈ WG := wg_6 (List.mem_of_getElem? (i := 16) (by decide +kernel)) (by decide +kernel)
theorem q_511 : (Jvm.Cond.methodLink "ChipfoldLaw" (158 : Nat) ({ cls := "ChipfoldModel", name := "chips", desc := "(I)I" } : Jvm.MethodName)) ∈ WG := wg_6 (List.mem_of_getElem? (i := 14) (by decide +kernel)) (by decide +kernel)
theorem q_512 : (Jvm.Cond.instanceMethod ({ cls := "ChipfoldModel", name := "chips", desc := "(I)I" } : Jvm.MethodName)) ∈ WG := wg_6 (List.mem_of_getElem? (i := 15) (by decide +kernel)) (by decide +kernel)
theorem dL_law_540 : decode cL_law 540 = .ok (.istore 7, 2) := by decide +kernel
theorem dL_law_542 : decode cL_law 542 = .ok (.aload_n 2, 1) := by decide +kernel
theorem dL_law_543 : decode cL_law 543 = .ok (.invokevirtual 134, 3) := by decide +kernel
theorem dL_law_546 : decode cL_law 546 = .ok (.iload 6, 2) := by decide +kernel
theorem dL_law_548 : decode cL_law 548 = .ok (.if_icmp .eq 5, 3) := by decide +kernel
theorem dL_law_553 : decode cL_law 553 = .ok (.iload 6, 2) := by decide +kernel
theorem dL_law_555 : decode cL_law 555 = .ok (.ifCond .ne 15, 3) := by decide +kernel
theorem dL_law_570 : decode cL_law 570 = .ok (.goto 1425, 3) := by decide +kernel
theorem dL_law_573 : decode cL_law 573 = .ok (.aload_n 1, 1) := by decide +kernel
theorem dL_law_574 : decode cL_law 574 = .ok (.aload_n 0, 1) := by decide +kernel
theorem dL_law_575 : decode cL_law 575 = .ok (.iload 5, 2) := by decide +kernel
theorem dL_law_577 : decode cL_law 577 = .ok (.iconst 1, 1) := by decide +kernel
theorem dL_law_578 : decode cL_law 578 = .ok (.iadd, 1) := by decide +kernel
theorem dL_law_579 : decode cL_law 579 = .ok (.iaload, 1) := by decide +kernel
theorem dL_law_580 : decode cL_law 580 = .ok (.aload_n 3, 1) := by decide +kernel
theorem dL_law_581 : decode cL_law 581 = .ok (.invokestatic 159, 3) := by decide +kernel
theorem q_513 : (Jvm.Cond.codeWith ({ cls := "ChipfoldLaw", name := "topple", desc := "(LChipfold;I[J)I" } : Jvm.MethodName) method_9_code (4 : Nat) (Option.some Jvm.ClassFile.FieldType.int) [((0 : Nat), (9 : Nat), (12 : Nat), (19 : Nat)), ((0 : Nat), (9 : Nat), (15 : Nat), (40 : Nat))]) ∈ WG := wg_4 (List.mem_of_getElem? (i := 4) (by decide +kernel)) (by decide +kernel)
theorem q_514 : (Jvm.Cond.methodLink "ChipfoldLaw" (159 : Nat) ({ cls := "ChipfoldLaw", name := "topple", desc := "(LChipfold;I[J)I" } : Jvm.MethodName)) ∈ WG := wg_4 (List.mem_of_getElem? (i := 2) (by decide +kernel)) (by decide +kernel)
theorem q_515 : (Jvm.Cond.static ({ cls := "ChipfoldLaw", name := "topple", desc := "(LChipfold;I[J)I" } : Jvm.MethodName)) ∈ WG := wg_4 (List.mem_of_getElem? (i := 3) (by decide +kernel)) (by decide +kernel)
theorem dL_law_584 : decode cL_law 584 = .ok (.istore 6, 2) := by decide +kernel
theorem dL_law_586 : decode cL_law 586 = .ok (.aload_n 2, 1) := by decide +kernel
theorem dL_law_587 : decode cL_law 587 = .ok (.aload_n 0, 1) := by decide +kernel
theorem dL_law_588 : decode cL_law 588 = .ok (.iload 5, 2) := by decide +kernel
theorem dL_law_590 : decode cL_law 590 = .ok (.iconst 1, 1) := by decide +kernel
theorem dL_law_591 : decode cL_law 591 = .ok (.iadd, 1) := by decide +kernel
theorem dL_law_592 : decode cL_law 592 = .ok (.iaload, 1) := by decide +kernel
theorem dL_law_593 : decode cL_law 593 = .ok (.invokevirtual 161, 3) := by decide +kernel
theorem q_516 : (Jvm.Cond.code ({ cls := "ChipfoldModel", name := "topple", desc := "(I)I" } : Jvm.MethodName) prog_13_method_23_code (2 : Nat) (Option.some Jvm.ClassFile.FieldType.int)) ∈ WG := wg_6 (List.mem_of_getElem? (i := 21) rfl) rfl
theorem q_517 : (Jvm.Cond.selects "ChipfoldModel" ({ cls := "ChipfoldModel", name := "topple", desc := "(I)I" } : Jvm.MethodName) ({ cls := "ChipfoldModel", name := "topple", desc := "(I)I" } : Jvm.MethodName)) ∈ WG := wg_6 (List.mem_of_getElem? (i := 20) (by decide +kernel)) (by decide +kernel)
theorem q_518 : (Jvm.Cond.methodLink "ChipfoldLaw" (161 : Nat) ({ cls := "ChipfoldModel", name := "topple", desc := "(I)I" } : Jvm.MethodName)) ∈ WG := wg_6 (List.mem_of_getElem? (i := 18) (by decide +kernel)) (by decide +kernel)
theorem q_519 : (Jvm.Cond.instanceMethod ({ cls := "ChipfoldModel", name := "topple", desc := "(I)I" } : Jvm.MethodName)) ∈ WG := wg_6 (List.mem_of_getElem? (i := 19) (by decide +kernel)) (by decide +kernel)
theorem dL_law_596 : decode cL_law 596 = .ok (.istore 7, 2) := by decide +kernel
theorem dL_law_598 : decode cL_law 598 = .ok (.aload_n 2, 1) := by decide +kernel
theorem dL_law_599 : decode cL_law 599 = .ok (.invokevirtual 134, 3) := by decide +kernel
theorem dL_law_602 : decode cL_law 602 = .ok (.iload 6, 2) := by decide +kernel
theorem dL_law_604 : decode cL_law 604 = .ok (.if_icmp .eq 5, 3) := by decide +kernel
theorem dL_law_609 : decode cL_law 609 = .ok (.iload 6, 2) := by decide +kernel
theorem dL_law_611 : decode cL_law 611 = .ok (.ifCond .ne 15, 3) := by decide +kernel
theorem dL_law_626 : decode cL_law 626 = .ok (.goto 1369, 3) := by decide +kernel
theorem dL_law_629 : decode cL_law 629 = .ok (.aload_n 1, 1) := by decide +kernel
theorem dL_law_630 : decode cL_law 630 = .ok (.aload_n 3, 1) := by decide +kernel
theorem dL_law_631 : decode cL_law 631 = .ok (.invokestatic 162, 3) := by decide +kernel
theorem q_520 : (Jvm.Cond.codeWith ({ cls := "ChipfoldLaw", name := "settle", desc := "(LChipfold;[J)I" } : Jvm.MethodName) method_10_code (3 : Nat) (Option.some Jvm.ClassFile.FieldType.int) [((0 : Nat), (8 : Nat), (11 : Nat), (40 : Nat))]) ∈ WG := wg_4 (List.mem_of_getElem? (i := 30) (by decide +kernel)) (by decide +kernel)
theorem q_521 : (Jvm.Cond.methodLink "ChipfoldLaw" (162 : Nat) ({ cls := "ChipfoldLaw", name := "settle", desc := "(LChipfold;[J)I" } : Jvm.MethodName)) ∈ WG := wg_4 (List.mem_of_getElem? (i := 28) (by decide +kernel)) (by decide +kernel)
theorem q_522 : (Jvm.Cond.static ({ cls := "ChipfoldLaw", name := "settle", desc := "(LChipfold;[J)I" } : Jvm.MethodName)) ∈ WG := wg_4 (List.mem_of_getElem? (i := 29) (by decide +kernel)) (by decide +kernel)
theorem dL_law_634 : decode cL_law 634 = .ok (.istore 6, 2) := by decide +kernel
theorem dL_law_636 : decode cL_law 636 = .ok (.aload_n 2, 1) := by decide +kernel
theorem dL_law_637 : decode cL_law 637 = .ok (.invokevirtual 164, 3) := by decide +kernel
theorem q_523 : (Jvm.Cond.code ({ cls := "ChipfoldModel", name := "settle", desc := "()I" } : Jvm.MethodName) prog_13_method_24_code (2 : Nat) (Option.some Jvm.ClassFile.FieldType.int)) ∈ WG := wg_6 (List.mem_of_getElem? (i := 37) rfl) rfl
theorem q_524 : (Jvm.Cond.selects "ChipfoldModel" ({ cls := "ChipfoldModel", name := "settle", desc := "()I" } : Jvm.MethodName) ({ cls := "ChipfoldModel", name := "settle", desc := "()I" } : Jvm.MethodName)) ∈ WG := wg_6 (List.mem_of_getElem? (i := 36) (by decide +kernel)) (by decide +kernel)
theorem q_525 : (Jvm.Cond.methodLink "ChipfoldLaw" (164 : Nat) ({ cls := "ChipfoldModel", name := "settle", desc := "()I" } : Jvm.MethodName)) ∈ WG := wg_6 (List.mem_of_getElem? (i := 34) (by decide +kernel)) (by decide +kernel)
theorem q_526 : (Jvm.Cond.instanceMethod ({ cls := "ChipfoldModel", name := "settle", desc := "()I" } : Jvm.MethodName)) ∈ WG := wg_6 (List.mem_of_getElem? (i := 35) (by decide +kernel)) (by decide +kernel)
theorem dL_law_640 : decode cL_law 640 = .ok (.istore 7, 2) := by decide +kernel
theorem dL_law_642 : decode cL_law 642 = .ok (.aload_n 2, 1) := by decide +kernel
theorem dL_law_643 : decode cL_law 643 = .ok (.invokevirtual 134, 3) := by decide +kernel
theorem dL_law_646 : decode cL_law 646 = .ok (.iload 6, 2) := by decide +kernel
theorem dL_law_648 : decode cL_law 648 = .ok (.if_icmp .eq 5, 3) := by decide +kernel
theorem dL_law_653 : decode cL_law 653 = .ok (.iload 6, 2) := by decide +kernel
theorem dL_law_655 : decode cL_law 655 = .ok (.ifCond .ne 15, 3) := by decide +kernel
theorem dL_law_670 : decode cL_law 670 = .ok (.goto 1325, 3) := by decide +kernel
theorem dL_law_673 : decode cL_law 673 = .ok (.aload_n 1, 1) := by decide +kernel
theorem dL_law_674 : decode cL_law 674 = .ok (.aload_n 3, 1) := by decide +kernel
theorem dL_law_675 : decode cL_law 675 = .ok (.invokestatic 165, 3) := by decide +kernel
theorem q_527 : (Jvm.Cond.codeWith ({ cls := "ChipfoldLaw", name := "waves", desc := "(LChipfold;[J)I" } : Jvm.MethodName) method_11_code (3 : Nat) (Option.some Jvm.ClassFile.FieldType.int) [((0 : Nat), (8 : Nat), (11 : Nat), (40 : Nat))]) ∈ WG := wg_4 (List.mem_of_getElem? (i := 42) (by decide +kernel)) (by decide +kernel)
theorem q_528 : (Jvm.Cond.methodLink "ChipfoldLaw" (165 : Nat) ({ cls := "ChipfoldLaw", name := "waves", desc := "(LChipfold;[J)I" } : Jvm.MethodName)) ∈ WG := wg_4 (List.mem_of_getElem? (i := 40) (by decide +kernel)) (by decide +kernel)
theorem q_529 : (Jvm.Cond.static ({ cls := "ChipfoldLaw", name := "waves", desc := "(LChipfold;[J)I" } : Jvm.MethodName)) ∈ WG := wg_4 (List.mem_of_getElem? (i := 41) (by decide +kernel)) (by decide +kernel)
theorem dL_law_678 : decode cL_law 678 = .ok (.istore 6, 2) := by decide +kernel
theorem dL_law_680 : decode cL_law 680 = .ok (.aload_n 2, 1) := by decide +kernel
theorem dL_law_681 : decode cL_law 681 = .ok (.invokevirtual 167, 3) := by decide +kernel
theorem q_530 : (Jvm.Cond.code ({ cls := "ChipfoldModel", name := "waves", desc := "()I" } : Jvm.MethodName) prog_13_method_25_code (6 : Nat) (Option.some Jvm.ClassFile.FieldType.int)) ∈ WG := wg_6 (List.mem_of_getElem? (i := 49) rfl) rfl
theorem q_531 : (Jvm.Cond.selects "ChipfoldModel" ({ cls := "ChipfoldModel", name := "waves", desc := "()I" } : Jvm.MethodName) ({ cls := "ChipfoldModel", name := "waves", desc := "()I" } : Jvm.MethodName)) ∈ WG := wg_6 (List.mem_of_getElem? (i := 48) (by decide +kernel)) (by decide +kernel)
theorem q_532 : (Jvm.Cond.methodLink "ChipfoldLaw" (167 : Nat) ({ cls := "ChipfoldModel", name := "waves", desc := "()I" } : Jvm.MethodName)) ∈ WG := wg_6 (List.mem_of_getElem? (i := 46) (by decide +kernel)) (by decide +kernel)
theorem q_533 : (Jvm.Cond.instanceMethod ({ cls := "ChipfoldModel", name := "waves", desc := "()I" } : Jvm.MethodName)) ∈ WG := wg_6 (List.mem_of_getElem? (i := 47) (by decide +kernel)) (by decide +kernel)
theorem dL_law_684 : decode cL_law 684 = .ok (.istore 7, 2) := by decide +kernel
theorem dL_law_686 : decode cL_law 686 = .ok (.aload_n 2, 1) := by decide +kernel
theorem dL_law_687 : decode cL_law 687 = .ok (.invokevirtual 134, 3) := by decide +kernel
theorem dL_law_690 : decode cL_law 690 = .ok (.iload 6, 2) := by decide +kernel
theorem dL_law_692 : decode cL_law 692 = .ok (.if_icmp .eq 5, 3) := by decide +kernel
theorem dL_law_697 : decode cL_law 697 = .ok (.iload 6, 2) := by decide +kernel
theorem dL_law_699 : decode cL_law 699 = .ok (.ifCond .ne 15, 3) := by decide +kernel
theorem dL_law_714 : decode cL_law 714 = .ok (.goto 1281, 3) := by decide +kernel
theorem dL_law_717 : decode cL_law 717 = .ok (.aload_n 1, 1) := by decide +kernel
theorem dL_law_718 : decode cL_law 718 = .ok (.aload_n 0, 1) := by decide +kernel
theorem dL_law_719 : decode cL_law 719 = .ok (.iload 5, 2) := by decide +kernel
theorem dL_law_721 : decode cL_law 721 = .ok (.iconst 1, 1) := by decide +kernel
theorem dL_law_722 : decode cL_law 722 = .ok (.iadd, 1) := by decide +kernel
theorem dL_law_723 : decode cL_law 723 = .ok (.iaload, 1) := by decide +kernel
theorem dL_law_724 : decode cL_law 724 = .ok (.aload_n 3, 1) := by decide +kernel
theorem dL_law_725 : decode cL_law 725 = .ok (.invokestatic 168, 3) := by decide +kernel
theorem q_534 : (Jvm.Cond.codeWith ({ cls := "ChipfoldLaw", name := "count", desc := "(LChipfold;I[J)I" } : Jvm.MethodName) method_12_code (4 : Nat) (Option.some Jvm.ClassFile.FieldType.int) [((0 : Nat), (9 : Nat), (12 : Nat), (19 : Nat))]) ∈ WG := wg_4 (List.mem_of_getElem? (i := 54) (by decide +kernel)) (by decide +kernel)
theorem q_535 : (Jvm.Cond.methodLink "ChipfoldLaw" (168 : Nat) ({ cls := "ChipfoldLaw", name := "count", desc := "(LChipfold;I[J)I" } : Jvm.MethodName)) ∈ WG := wg_4 (List.mem_of_getElem? (i := 52) (by decide +kernel)) (by decide +kernel)
theorem q_536 : (Jvm.Cond.static ({ cls := "ChipfoldLaw", name := "count", desc := "(LChipfold;I[J)I" } : Jvm.MethodName)) ∈ WG := wg_4 (List.mem_of_getElem? (i := 53) (by decide +kernel)) (by decide +kernel)
theorem dL_law_728 : decode cL_law 728 = .ok (.istore 6, 2) := by decide +kernel
theorem dL_law_730 : decode cL_law 730 = .ok (.aload_n 2, 1) := by decide +kernel
theorem dL_law_731 : decode cL_law 731 = .ok (.aload_n 0, 1) := by decide +kernel
theorem dL_law_732 : decode cL_law 732 = .ok (.iload 5, 2) := by decide +kernel
theorem dL_law_734 : decode cL_law 734 = .ok (.iconst 1, 1) := by decide +kernel
theorem dL_law_735 : decode cL_law 735 = .ok (.iadd, 1) := by decide +kernel
theorem dL_law_736 : decode cL_law 736 = .ok (.iaload, 1) := by decide +kernel
theorem dL_law_737 : decode cL_law 737 = .ok (.invokevirtual 170, 3) := by decide +kernel
theorem q_537 : (Jvm.Cond.code ({ cls := "ChipfoldModel", name := "count", desc := "(I)I" } : Jvm.MethodName) prog_13_method_26_code (2 : Nat) (Option.some Jvm.ClassFile.FieldType.int)) ∈ WG := wg_6 (List.mem_of_getElem? (i := 60) rfl) rfl
theorem q_538 : (Jvm.Cond.selects "ChipfoldModel" ({ cls := "ChipfoldModel", name := "count", desc := "(I)I" } : Jvm.MethodName) ({ cls := "ChipfoldModel", name := "count", desc := "(I)I" } : Jvm.MethodName)) ∈ WG := wg_6 (List.mem_of_getElem? (i := 59) (by decide +kernel)) (by decide +kernel)
theorem q_539 : (Jvm.Cond.methodLink "ChipfoldLaw" (170 : Nat) ({ cls := "ChipfoldModel", name := "count", desc := "(I)I" } : Jvm.MethodName)) ∈ WG := wg_6 (List.mem_of_getElem? (i := 57) (by decide +kernel)) (by decide +kernel)
theorem q_540 : (Jvm.Cond.instanceMethod ({ cls := "ChipfoldModel", name := "count", desc := "(I)I" } : Jvm.MethodName)) ∈ WG := wg_6 (List.mem_of_getElem? (i := 58) (by decide +kernel)) (by decide +kernel)
theorem dL_law_740 : decode cL_law 740 = .ok (.istore 7, 2) := by decide +kernel
theorem dL_law_742 : decode cL_law 742 = .ok (.aload_n 2, 1) := by decide +kernel
theorem dL_law_743 : decode cL_law 743 = .ok (.invokevirtual 134, 3) := by decide +kernel
theorem dL_law_746 : decode cL_law 746 = .ok (.iload 6, 2) := by decide +kernel
theorem dL_law_748 : decode cL_law 748 = .ok (.if_icmp .eq 5, 3) := by decide +kernel
theorem dL_law_753 : decode cL_law 753 = .ok (.iload 6, 2) := by decide +kernel
theorem dL_law_755 : decode cL_law 755 = .ok (.ifCond .ne 15, 3) := by decide +kernel
theorem dL_law_770 : decode cL_law 770 = .ok (.goto 1225, 3) := by decide +kernel
theorem dL_law_773 : decode cL_law 773 = .ok (.aload_n 1, 1) := by decide +kernel
theorem dL_law_774 : decode cL_law 774 = .ok (.invokevirtual 171, 3) := by decide +kernel
theorem q_541 : (Jvm.Cond.code ({ cls := "Chipfold", name := "swallowed", desc := "()I" } : Jvm.MethodName) prog_1_method_13_code (1 : Nat) (Option.some Jvm.ClassFile.FieldType.int)) ∈ WG := wg_2 (List.mem_of_getElem? (i := 38) rfl) rfl
theorem q_542 : (Jvm.Cond.selects "Chipfold" ({ cls := "Chipfold", name := "swallowed", desc := "()I" } : Jvm.MethodName) ({ cls := "Chipfold", name := "swallowed", desc := "()I" } : Jvm.MethodName)) ∈ WG := wg_2 (List.mem_of_getElem? (i := 37) (by decide +kernel)) (by decide +kernel)
theorem q_543 : (Jvm.Cond.methodLink "ChipfoldLaw" (171 : Nat) ({ cls := "Chipfold", name := "swallowed", desc := "()I" } : Jvm.MethodName)) ∈ WG := wg_2 (List.mem_of_getElem? (i := 35) (by decide +kernel)) (by decide +kernel)
theorem q_544 : (Jvm.Cond.instanceMethod ({ cls := "Chipfold", name := "swallowed", desc := "()I" } : Jvm.MethodName)) ∈ WG := wg_2 (List.mem_of_getElem? (i := 36) (by decide +kernel)) (by decide +kernel)
theorem dL_law_777 : decode cL_law 777 = .ok (.aload_n 2, 1) := by decide +kernel
theorem dL_law_778 : decode cL_law 778 = .ok (.invokevirtual 174, 3) := by decide +kernel
theorem q_545 : (Jvm.Cond.code ({ cls := "ChipfoldModel", name := "swallowed", desc := "()I" } : Jvm.MethodName) prog_13_method_27_code (1 : Nat) (Option.some Jvm.ClassFile.FieldType.int)) ∈ WG := wg_6 (List.mem_of_getElem? (i := 64) rfl) rfl
theorem q_546 : (Jvm.Cond.selects "ChipfoldModel" ({ cls := "ChipfoldModel", name := "swallowed", desc := "()I" } : Jvm.MethodName) ({ cls := "ChipfoldModel", name := "swallowed", desc := "()I" } : Jvm.MethodName)) ∈ WG := wg_6 (List.mem_of_getElem? (i := 63) (by decide +kernel)) (by decide +kernel)
theorem q_547 : (Jvm.Cond.methodLink "ChipfoldLaw" (174 : Nat) ({ cls := "ChipfoldModel", name := "swallowed", desc := "()I" } : Jvm.MethodName)) ∈ WG := wg_6 (List.mem_of_getElem? (i := 61) (by decide +kernel)) (by decide +kernel)
theorem q_548 : (Jvm.Cond.instanceMethod ({ cls := "ChipfoldModel", name := "swallowed", desc := "()I" } : Jvm.MethodName)) ∈ WG := wg_6 (List.mem_of_getElem? (i := 62) (by decide +kernel)) (by decide +kernel)
theorem dL_law_781 : decode cL_law 781 = .ok (.if_icmp .eq 1214, 3) := by decide +kernel
theorem dL_law_786 : decode cL_law 786 = .ok (.aload_n 1, 1) := by decide +kernel
theorem dL_law_787 : decode cL_law 787 = .ok (.aload_n 3, 1) := by decide +kernel
theorem dL_law_788 : decode cL_law 788 = .ok (.invokestatic 175, 3) := by decide +kernel
theorem q_549 : (Jvm.Cond.codeWith ({ cls := "ChipfoldLaw", name := "isAgain", desc := "(LChipfold;[J)I" } : Jvm.MethodName) method_13_code (3 : Nat) (Option.some Jvm.ClassFile.FieldType.int) [((0 : Nat), (15 : Nat), (18 : Nat), (40 : Nat))]) ∈ WG := wg_4 (List.mem_of_getElem? (i := 65) (by decide +kernel)) (by decide +kernel)
theorem q_550 : (Jvm.Cond.methodLink "ChipfoldLaw" (175 : Nat) ({ cls := "ChipfoldLaw", name := "isAgain", desc := "(LChipfold;[J)I" } : Jvm.MethodName)) ∈ WG := wg_4 (List.mem_of_getElem? (i := 63) (by decide +kernel)) (by decide +kernel)
theorem q_551 : (Jvm.Cond.static ({ cls := "ChipfoldLaw", name := "isAgain", desc := "(LChipfold;[J)I" } : Jvm.MethodName)) ∈ WG := wg_4 (List.mem_of_getElem? (i := 64) (by decide +kernel)) (by decide +kernel)
theorem dL_law_791 : decode cL_law 791 = .ok (.istore 6, 2) := by decide +kernel
theorem dL_law_793 : decode cL_law 793 = .ok (.aload_n 2, 1) := by decide +kernel
theorem dL_law_794 : decode cL_law 794 = .ok (.invokevirtual 177, 3) := by decide +kernel
theorem q_552 : (Jvm.Cond.code ({ cls := "ChipfoldModel", name := "isAgain", desc := "()Z" } : Jvm.MethodName) prog_13_method_31_code (2 : Nat) (Option.some Jvm.ClassFile.FieldType.boolean)) ∈ WG := wg_6 (List.mem_of_getElem? (i := 72) rfl) rfl
theorem q_553 : (Jvm.Cond.selects "ChipfoldModel" ({ cls := "ChipfoldModel", name := "isAgain", desc := "()Z" } : Jvm.MethodName) ({ cls := "ChipfoldModel", name := "isAgain", desc := "()Z" } : Jvm.MethodName)) ∈ WG := wg_6 (List.mem_of_getElem? (i := 71) (by decide +kernel)) (by decide +kernel)
theorem q_554 : (Jvm.Cond.methodLink "ChipfoldLaw" (177 : Nat) ({ cls := "ChipfoldModel", name := "isAgain", desc := "()Z" } : Jvm.MethodName)) ∈ WG := wg_6 (List.mem_of_getElem? (i := 69) (by decide +kernel)) (by decide +kernel)
theorem q_555 : (Jvm.Cond.instanceMethod ({ cls := "ChipfoldModel", name := "isAgain", desc := "()Z" } : Jvm.MethodName)) ∈ WG := wg_6 (List.mem_of_getElem? (i := 70) (by decide +kernel)) (by decide +kernel)
theorem dL_law_797 : decode cL_law 797 = .ok (.istore 7, 2) := by decide +kernel
theorem dL_law_799 : decode cL_law 799 = .ok (.aload_n 2, 1) := by decide +kernel
theorem dL_law_800 : decode cL_law 800 = .ok (.invokevirtual 134, 3) := by decide +kernel
theorem dL_law_803 : decode cL_law 803 = .ok (.iload 6, 2) := by decide +kernel
theorem dL_law_805 : decode cL_law 805 = .ok (.if_icmp .eq 5, 3) := by decide +kernel
theorem dL_law_810 : decode cL_law 810 = .ok (.iload 6, 2) := by decide +kernel
theorem dL_law_812 : decode cL_law 812 = .ok (.ifCond .ne 22, 3) := by decide +kernel
theorem dL_law_834 : decode cL_law 834 = .ok (.goto 1161, 3) := by decide +kernel
theorem dL_law_837 : decode cL_law 837 = .ok (.aload_n 1, 1) := by decide +kernel
theorem dL_law_838 : decode cL_law 838 = .ok (.aload_n 0, 1) := by decide +kernel
theorem dL_law_839 : decode cL_law 839 = .ok (.iload 5, 2) := by decide +kernel
theorem dL_law_841 : decode cL_law 841 = .ok (.iconst 1, 1) := by decide +kernel
theorem dL_law_842 : decode cL_law 842 = .ok (.iadd, 1) := by decide +kernel
theorem dL_law_843 : decode cL_law 843 = .ok (.iaload, 1) := by decide +kernel
theorem dL_law_844 : decode cL_law 844 = .ok (.aload_n 3, 1) := by decide +kernel
theorem dL_law_845 : decode cL_law 845 = .ok (.invokestatic 178, 3) := by decide +kernel
theorem q_556 : (Jvm.Cond.codeWith ({ cls := "ChipfoldLaw", name := "burns", desc := "(LChipfold;I[J)I" } : Jvm.MethodName) method_14_code (4 : Nat) (Option.some Jvm.ClassFile.FieldType.int) [((0 : Nat), (9 : Nat), (12 : Nat), (19 : Nat))]) ∈ WG := wg_4 (List.mem_of_getElem? (i := 87) (by decide +kernel)) (by decide +kernel)
theorem q_557 : (Jvm.Cond.methodLink "ChipfoldLaw" (178 : Nat) ({ cls := "ChipfoldLaw", name := "burns", desc := "(LChipfold;I[J)I" } : Jvm.MethodName)) ∈ WG := wg_4 (List.mem_of_getElem? (i := 85) (by decide +kernel)) (by decide +kernel)
theorem q_558 : (Jvm.Cond.static ({ cls := "ChipfoldLaw", name := "burns", desc := "(LChipfold;I[J)I" } : Jvm.MethodName)) ∈ WG := wg_4 (List.mem_of_getElem? (i := 86) (by decide +kernel)) (by decide +kernel)
theorem dL_law_848 : decode cL_law 848 = .ok (.istore 6, 2) := by decide +kernel
theorem dL_law_850 : decode cL_law 850 = .ok (.aload_n 2, 1) := by decide +kernel
theorem dL_law_851 : decode cL_law 851 = .ok (.aload_n 0, 1) := by decide +kernel
theorem dL_law_852 : decode cL_law 852 = .ok (.iload 5, 2) := by decide +kernel
theorem dL_law_854 : decode cL_law 854 = .ok (.iconst 1, 1) := by decide +kernel
theorem dL_law_855 : decode cL_law 855 = .ok (.iadd, 1) := by decide +kernel
theorem dL_law_856 : decode cL_law 856 = .ok (.iaload, 1) := by decide +kernel
theorem dL_law_857 : decode cL_law 857 = .ok (.invokevirtual 180, 3) := by decide +kernel
theorem q_559 : (Jvm.Cond.code ({ cls := "ChipfoldModel", name := "burns", desc := "(I)I" } : Jvm.MethodName) prog_13_method_32_code (2 : Nat) (Option.some Jvm.ClassFile.FieldType.int)) ∈ WG := wg_6 (List.mem_of_getElem? (i := 91) rfl) rfl
theorem q_560 : (Jvm.Cond.selects "ChipfoldModel" ({ cls := "ChipfoldModel", name := "burns", desc := "(I)I" } : Jvm.MethodName) ({ cls := "ChipfoldModel", name := "burns", desc := "(I)I" } : Jvm.MethodName)) ∈ WG := wg_6 (List.mem_of_getElem? (i := 90) (by decide +kernel)) (by decide +kernel)
theorem q_561 : (Jvm.Cond.methodLink "ChipfoldLaw" (180 : Nat) ({ cls := "ChipfoldModel", name := "burns", desc := "(I)I" } : Jvm.MethodName)) ∈ WG := wg_6 (List.mem_of_getElem? (i := 88) (by decide +kernel)) (by decide +kernel)
theorem q_562 : (Jvm.Cond.instanceMethod ({ cls := "ChipfoldModel", name := "burns", desc := "(I)I" } : Jvm.MethodName)) ∈ WG := wg_6 (List.mem_of_getElem? (i := 89) (by decide +kernel)) (by decide +kernel)
theorem dL_law_860 : decode cL_law 860 = .ok (.istore 7, 2) := by decide +kernel
theorem dL_law_862 : decode cL_law 862 = .ok (.aload_n 2, 1) := by decide +kernel
theorem dL_law_863 : decode cL_law 863 = .ok (.invokevirtual 134, 3) := by decide +kernel
theorem dL_law_866 : decode cL_law 866 = .ok (.iload 6, 2) := by decide +kernel
theorem dL_law_868 : decode cL_law 868 = .ok (.if_icmp .eq 5, 3) := by decide +kernel
theorem dL_law_873 : decode cL_law 873 = .ok (.iload 6, 2) := by decide +kernel
theorem dL_law_875 : decode cL_law 875 = .ok (.ifCond .ne 15, 3) := by decide +kernel
theorem dL_law_890 : decode cL_law 890 = .ok (.goto 1105, 3) := by decide +kernel
theorem dL_law_893 : decode cL_law 893 = .ok (.aload_n 1, 1) := by decide +kernel
theorem dL_law_894 : decode cL_law 894 = .ok (.aload_n 0, 1) := by decide +kernel
theorem dL_law_895 : decode cL_law 895 = .ok (.iload 5, 2) := by decide +kernel
theorem dL_law_897 : decode cL_law 897 = .ok (.iconst 1, 1) := by decide +kernel
theorem dL_law_898 : decode cL_law 898 = .ok (.iadd, 1) := by decide +kernel
theorem dL_law_899 : decode cL_law 899 = .ok (.iaload, 1) := by decide +kernel
theorem dL_law_900 : decode cL_law 900 = .ok (.aload_n 3, 1) := by decide +kernel
theorem dL_law_901 : decode cL_law 901 = .ok (.invokestatic 181, 3) := by decide +kernel
theorem q_563 : (Jvm.Cond.codeWith ({ cls := "ChipfoldLaw", name := "unit", desc := "(LChipfold;I[J)I" } : Jvm.MethodName) method_15_code (4 : Nat) (Option.some Jvm.ClassFile.FieldType.int) [((0 : Nat), (9 : Nat), (12 : Nat), (19 : Nat)), ((0 : Nat), (9 : Nat), (15 : Nat), (40 : Nat))]) ∈ WG := wg_4 (List.mem_of_getElem? (i := 94) (by decide +kernel)) (by decide +kernel)
theorem q_564 : (Jvm.Cond.methodLink "ChipfoldLaw" (181 : Nat) ({ cls := "ChipfoldLaw", name := "unit", desc := "(LChipfold;I[J)I" } : Jvm.MethodName)) ∈ WG := wg_4 (List.mem_of_getElem? (i := 92) (by decide +kernel)) (by decide +kernel)
theorem q_565 : (Jvm.Cond.static ({ cls := "ChipfoldLaw", name := "unit", desc := "(LChipfold;I[J)I" } : Jvm.MethodName)) ∈ WG := wg_4 (List.mem_of_getElem? (i := 93) (by decide +kernel)) (by decide +kernel)
theorem dL_law_904 : decode cL_law 904 = .ok (.istore 6, 2) := by decide +kernel
theorem dL_law_906 : decode cL_law 906 = .ok (.aload_n 2, 1) := by decide +kernel
theorem dL_law_907 : decode cL_law 907 = .ok (.aload_n 0, 1) := by decide +kernel
theorem dL_law_908 : decode cL_law 908 = .ok (.iload 5, 2) := by decide +kernel
theorem dL_law_910 : decode cL_law 910 = .ok (.iconst 1, 1) := by decide +kernel
theorem dL_law_911 : decode cL_law 911 = .ok (.iadd, 1) := by decide +kernel
theorem dL_law_912 : decode cL_law 912 = .ok (.iaload, 1) := by decide +kernel
theorem dL_law_913 : decode cL_law 913 = .ok (.invokevirtual 183, 3) := by decide +kernel
theorem q_566 : (Jvm.Cond.code ({ cls := "ChipfoldModel", name := "unit", desc := "(I)I" } : Jvm.MethodName) prog_13_method_35_code (2 : Nat) (Option.some Jvm.ClassFile.FieldType.int)) ∈ WG := wg_6 (List.mem_of_getElem? (i := 95) rfl) rfl
theorem q_567 : (Jvm.Cond.selects "ChipfoldModel" ({ cls := "ChipfoldModel", name := "unit", desc := "(I)I" } : Jvm.MethodName) ({ cls := "ChipfoldModel", name := "unit", desc := "(I)I" } : Jvm.MethodName)) ∈ WG := wg_6 (List.mem_of_getElem? (i := 94) (by decide +kernel)) (by decide +kernel)
theorem q_568 : (Jvm.Cond.methodLink "ChipfoldLaw" (183 : Nat) ({ cls := "ChipfoldModel", name := "unit", desc := "(I)I" } : Jvm.MethodName)) ∈ WG := wg_6 (List.mem_of_getElem? (i := 92) (by decide +kernel)) (by decide +kernel)
theorem q_569 : (Jvm.Cond.instanceMethod ({ cls := "ChipfoldModel", name := "unit", desc := "(I)I" } : Jvm.MethodName)) ∈ WG := wg_6 (List.mem_of_getElem? (i := 93) (by decide +kernel)) (by decide +kernel)
theorem dL_law_916 : decode cL_law 916 = .ok (.istore 7, 2) := by decide +kernel
theorem dL_law_918 : decode cL_law 918 = .ok (.aload_n 2, 1) := by decide +kernel
theorem dL_law_919 : decode cL_law 919 = .ok (.invokevirtual 134, 3) := by decide +kernel
theorem dL_law_922 : decode cL_law 922 = .ok (.iload 6, 2) := by decide +kernel
theorem dL_law_924 : decode cL_law 924 = .ok (.if_icmp .eq 5, 3) := by decide +kernel
theorem dL_law_929 : decode cL_law 929 = .ok (.iload 6, 2) := by decide +kernel
theorem dL_law_931 : decode cL_law 931 = .ok (.ifCond .ne 15, 3) := by decide +kernel
theorem dL_law_946 : decode cL_law 946 = .ok (.goto 1049, 3) := by decide +kernel
theorem dL_law_949 : decode cL_law 949 = .ok (.aload_n 1, 1) := by decide +kernel
theorem dL_law_950 : decode cL_law 950 = .ok (.aload_n 3, 1) := by decide +kernel
theorem dL_law_951 : decode cL_law 951 = .ok (.invokestatic 184, 3) := by decide +kernel
theorem q_570 : (Jvm.Cond.codeWith ({ cls := "ChipfoldLaw", name := "square", desc := "(LChipfold;[J)I" } : Jvm.MethodName) method_16_code (3 : Nat) (Option.some Jvm.ClassFile.FieldType.int) [((0 : Nat), (8 : Nat), (11 : Nat), (40 : Nat)), ((0 : Nat), (8 : Nat), (14 : Nat), (13 : Nat))]) ∈ WG := wg_4 (List.mem_of_getElem? (i := 110) (by decide +kernel)) (by decide +kernel)
theorem q_571 : (Jvm.Cond.methodLink "ChipfoldLaw" (184 : Nat) ({ cls := "ChipfoldLaw", name := "square", desc := "(LChipfold;[J)I" } : Jvm.MethodName)) ∈ WG := wg_4 (List.mem_of_getElem? (i := 108) (by decide +kernel)) (by decide +kernel)
theorem q_572 : (Jvm.Cond.static ({ cls := "ChipfoldLaw", name := "square", desc := "(LChipfold;[J)I" } : Jvm.MethodName)) ∈ WG := wg_4 (List.mem_of_getElem? (i := 109) (by decide +kernel)) (by decide +kernel)
theorem dL_law_954 : decode cL_law 954 = .ok (.istore 6, 2) := by decide +kernel
theorem dL_law_956 : decode cL_law 956 = .ok (.aload_n 2, 1) := by decide +kernel
theorem dL_law_957 : decode cL_law 957 = .ok (.invokevirtual 186, 3) := by decide +kernel
theorem q_573 : (Jvm.Cond.code ({ cls := "ChipfoldModel", name := "square", desc := "()I" } : Jvm.MethodName) prog_13_method_36_code (2 : Nat) (Option.some Jvm.ClassFile.FieldType.int)) ∈ WG := wg_6 (List.mem_of_getElem? (i := 103) rfl) rfl
theorem q_574 : (Jvm.Cond.selects "ChipfoldModel" ({ cls := "ChipfoldModel", name := "square", desc := "()I" } : Jvm.MethodName) ({ cls := "ChipfoldModel", name := "square", desc := "()I" } : Jvm.MethodName)) ∈ WG := wg_6 (List.mem_of_getElem? (i := 102) (by decide +kernel)) (by decide +kernel)
theorem q_575 : (Jvm.Cond.methodLink "ChipfoldLaw" (186 : Nat) ({ cls := "ChipfoldModel", name := "square", desc := "()I" } : Jvm.MethodName)) ∈ WG := wg_6 (List.mem_of_getElem? (i := 100) (by decide +kernel)) (by decide +kernel)
theorem q_576 : (Jvm.Cond.instanceMethod ({ cls := "ChipfoldModel", name := "square", desc := "()I" } : Jvm.MethodName)) ∈ WG := wg_6 (List.mem_of_getElem? (i := 101) (by decide +kernel)) (by decide +kernel)
theorem dL_law_960 : decode cL_law 960 = .ok (.istore 7, 2) := by decide +kernel
theorem dL_law_962 : decode cL_law 962 = .ok (.aload_n 2, 1) := by decide +kernel
theorem dL_law_963 : decode cL_law 963 = .ok (.invokevirtual 134, 3) := by decide +kernel
theorem dL_law_966 : decode cL_law 966 = .ok (.iload 6, 2) := by decide +kernel
theorem dL_law_968 : decode cL_law 968 = .ok (.if_icmp .eq 5, 3) := by decide +kernel
theorem dL_law_973 : decode cL_law 973 = .ok (.iload 6, 2) := by decide +kernel
theorem dL_law_975 : decode cL_law 975 = .ok (.ifCond .ne 15, 3) := by decide +kernel
theorem dL_law_990 : decode cL_law 990 = .ok (.goto 1005, 3) := by decide +kernel
theorem dL_law_993 : decode cL_law 993 = .ok (.aload_n 1, 1) := by decide +kernel
theorem dL_law_994 : decode cL_law 994 = .ok (.invokevirtual 187, 3) := by decide +kernel
theorem q_577 : (Jvm.Cond.code ({ cls := "Chipfold", name := "trees", desc := "()J" } : Jvm.MethodName) prog_1_method_18_code (1 : Nat) (Option.some Jvm.ClassFile.FieldType.long)) ∈ WG := wg_2 (List.mem_of_getElem? (i := 46) rfl) rfl
theorem q_578 : (Jvm.Cond.selects "Chipfold" ({ cls := "Chipfold", name := "trees", desc := "()J" } : Jvm.MethodName) ({ cls := "Chipfold", name := "trees", desc := "()J" } : Jvm.MethodName)) ∈ WG := wg_2 (List.mem_of_getElem? (i := 45) (by decide +kernel)) (by decide +kernel)
theorem q_579 : (Jvm.Cond.methodLink "ChipfoldLaw" (187 : Nat) ({ cls := "Chipfold", name := "trees", desc := "()J" } : Jvm.MethodName)) ∈ WG := wg_2 (List.mem_of_getElem? (i := 43) (by decide +kernel)) (by decide +kernel)
theorem q_580 : (Jvm.Cond.instanceMethod ({ cls := "Chipfold", name := "trees", desc := "()J" } : Jvm.MethodName)) ∈ WG := wg_2 (List.mem_of_getElem? (i := 44) (by decide +kernel)) (by decide +kernel)
theorem dL_law_997 : decode cL_law 997 = .ok (.aload_n 2, 1) := by decide +kernel
theorem dL_law_998 : decode cL_law 998 = .ok (.invokevirtual 190, 3) := by decide +kernel
theorem q_581 : (Jvm.Cond.code ({ cls := "ChipfoldModel", name := "trees", desc := "()J" } : Jvm.MethodName) prog_13_method_42_code (1 : Nat) (Option.some Jvm.ClassFile.FieldType.long)) ∈ WG := wg_6 (List.mem_of_getElem? (i := 107) rfl) rfl
theorem q_582 : (Jvm.Cond.selects "ChipfoldModel" ({ cls := "ChipfoldModel", name := "trees", desc := "()J" } : Jvm.MethodName) ({ cls := "ChipfoldModel", name := "trees", desc := "()J" } : Jvm.MethodName)) ∈ WG := wg_6 (List.mem_of_getElem? (i := 106) (by decide +kernel)) (by decide +kernel)
theorem q_583 : (Jvm.Cond.methodLink "ChipfoldLaw" (190 : Nat) ({ cls := "ChipfoldModel", name := "trees", desc := "()J" } : Jvm.MethodName)) ∈ WG := wg_6 (List.mem_of_getElem? (i := 104) (by decide +kernel)) (by decide +kernel)
theorem q_584 : (Jvm.Cond.instanceMethod ({ cls := "ChipfoldModel", name := "trees", desc := "()J" } : Jvm.MethodName)) ∈ WG := wg_6 (List.mem_of_getElem? (i := 105) (by decide +kernel)) (by decide +kernel)
theorem dL_law_1001 : decode cL_law 1001 = .ok (.lcmp, 1) := by decide +kernel
theorem dL_law_1002 : decode cL_law 1002 = .ok (.ifCond .eq 993, 3) := by decide +kernel
theorem dL_law_1007 : decode cL_law 1007 = .ok (.aload_n 1, 1) := by decide +kernel
theorem dL_law_1008 : decode cL_law 1008 = .ok (.aload_n 3, 1) := by decide +kernel
theorem dL_law_1009 : decode cL_law 1009 = .ok (.invokestatic 191, 3) := by decide +kernel
theorem q_585 : (Jvm.Cond.codeWith ({ cls := "ChipfoldLaw", name := "factors", desc := "(LChipfold;[J)I" } : Jvm.MethodName) method_17_code (3 : Nat) (Option.some Jvm.ClassFile.FieldType.int) [((0 : Nat), (8 : Nat), (11 : Nat), (40 : Nat))]) ∈ WG := wg_4 (List.mem_of_getElem? (i := 118) (by decide +kernel)) (by decide +kernel)
theorem q_586 : (Jvm.Cond.methodLink "ChipfoldLaw" (191 : Nat) ({ cls := "ChipfoldLaw", name := "factors", desc := "(LChipfold;[J)I" } : Jvm.MethodName)) ∈ WG := wg_4 (List.mem_of_getElem? (i := 116) (by decide +kernel)) (by decide +kernel)
theorem q_587 : (Jvm.Cond.static ({ cls := "ChipfoldLaw", name := "factors", desc := "(LChipfold;[J)I" } : Jvm.MethodName)) ∈ WG := wg_4 (List.mem_of_getElem? (i := 117) (by decide +kernel)) (by decide +kernel)
theorem dL_law_1012 : decode cL_law 1012 = .ok (.istore 6, 2) := by decide +kernel
theorem dL_law_1014 : decode cL_law 1014 = .ok (.aload_n 2, 1) := by decide +kernel
theorem dL_law_1015 : decode cL_law 1015 = .ok (.invokevirtual 193, 3) := by decide +kernel
theorem q_588 : (Jvm.Cond.code ({ cls := "ChipfoldModel", name := "factors", desc := "()I" } : Jvm.MethodName) prog_13_method_44_code (1 : Nat) (Option.some Jvm.ClassFile.FieldType.int)) ∈ WG := wg_6 (List.mem_of_getElem? (i := 131) rfl) rfl
theorem q_589 : (Jvm.Cond.selects "ChipfoldModel" ({ cls := "ChipfoldModel", name := "factors", desc := "()I" } : Jvm.MethodName) ({ cls := "ChipfoldModel", name := "factors", desc := "()I" } : Jvm.MethodName)) ∈ WG := wg_6 (List.mem_of_getElem? (i := 130) (by decide +kernel)) (by decide +kernel)
theorem q_590 : (Jvm.Cond.methodLink "ChipfoldLaw" (193 : Nat) ({ cls := "ChipfoldModel", name := "factors", desc := "()I" } : Jvm.MethodName)) ∈ WG := wg_6 (List.mem_of_getElem? (i := 128) (by decide +kernel)) (by decide +kernel)
theorem q_591 : (Jvm.Cond.instanceMethod ({ cls := "ChipfoldModel", name := "factors", desc := "()I" } : Jvm.MethodName)) ∈ WG := wg_6 (List.mem_of_getElem? (i := 129) (by decide +kernel)) (by decide +kernel)
theorem dL_law_1018 : decode cL_law 1018 = .ok (.istore 7, 2) := by decide +kernel
theorem dL_law_1020 : decode cL_law 1020 = .ok (.aload_n 2, 1) := by decide +kernel
theorem dL_law_1021 : decode cL_law 1021 = .ok (.invokevirtual 134, 3) := by decide +kernel
theorem dL_law_1024 : decode cL_law 1024 = .ok (.iload 6, 2) := by decide +kernel
theorem dL_law_1026 : decode cL_law 1026 = .ok (.if_icmp .eq 5, 3) := by decide +kernel
theorem dL_law_1031 : decode cL_law 1031 = .ok (.iload 6, 2) := by decide +kernel
theorem dL_law_1033 : decode cL_law 1033 = .ok (.ifCond .ne 15, 3) := by decide +kernel
theorem dL_law_1048 : decode cL_law 1048 = .ok (.goto 947, 3) := by decide +kernel
theorem dL_law_1051 : decode cL_law 1051 = .ok (.aload_n 1, 1) := by decide +kernel
theorem dL_law_1052 : decode cL_law 1052 = .ok (.aload_n 0, 1) := by decide +kernel
theorem dL_law_1053 : decode cL_law 1053 = .ok (.iload 5, 2) := by decide +kernel
theorem dL_law_1055 : decode cL_law 1055 = .ok (.iconst 1, 1) := by decide +kernel
theorem dL_law_1056 : decode cL_law 1056 = .ok (.iadd, 1) := by decide +kernel
theorem dL_law_1057 : decode cL_law 1057 = .ok (.iaload, 1) := by decide +kernel
theorem dL_law_1058 : decode cL_law 1058 = .ok (.aload_n 3, 1) := by decide +kernel
theorem dL_law_1059 : decode cL_law 1059 = .ok (.invokestatic 194, 3) := by decide +kernel
theorem q_592 : (Jvm.Cond.codeWith ({ cls := "ChipfoldLaw", name := "factorAt", desc := "(LChipfold;I[J)I" } : Jvm.MethodName) method_18_code (4 : Nat) (Option.some Jvm.ClassFile.FieldType.int) [((0 : Nat), (8 : Nat), (11 : Nat), (40 : Nat)), ((0 : Nat), (8 : Nat), (14 : Nat), (19 : Nat))]) ∈ WG := wg_4 (List.mem_of_getElem? (i := 147) (by decide +kernel)) (by decide +kernel)
theorem q_593 : (Jvm.Cond.methodLink "ChipfoldLaw" (194 : Nat) ({ cls := "ChipfoldLaw", name := "factorAt", desc := "(LChipfold;I[J)I" } : Jvm.MethodName)) ∈ WG := wg_4 (List.mem_of_getElem? (i := 145) (by decide +kernel)) (by decide +kernel)
theorem q_594 : (Jvm.Cond.static ({ cls := "ChipfoldLaw", name := "factorAt", desc := "(LChipfold;I[J)I" } : Jvm.MethodName)) ∈ WG := wg_4 (List.mem_of_getElem? (i := 146) (by decide +kernel)) (by decide +kernel)
theorem dL_law_1062 : decode cL_law 1062 = .ok (.istore 6, 2) := by decide +kernel
theorem dL_law_1064 : decode cL_law 1064 = .ok (.aload_n 2, 1) := by decide +kernel
theorem dL_law_1065 : decode cL_law 1065 = .ok (.aload_n 0, 1) := by decide +kernel
theorem dL_law_1066 : decode cL_law 1066 = .ok (.iload 5, 2) := by decide +kernel
theorem dL_law_1068 : decode cL_law 1068 = .ok (.iconst 1, 1) := by decide +kernel
theorem dL_law_1069 : decode cL_law 1069 = .ok (.iadd, 1) := by decide +kernel
theorem dL_law_1070 : decode cL_law 1070 = .ok (.iaload, 1) := by decide +kernel
theorem dL_law_1071 : decode cL_law 1071 = .ok (.invokevirtual 196, 3) := by decide +kernel
theorem q_595 : (Jvm.Cond.code ({ cls := "ChipfoldModel", name := "factorAt", desc := "(I)J" } : Jvm.MethodName) prog_13_method_45_code (2 : Nat) (Option.some Jvm.ClassFile.FieldType.long)) ∈ WG := wg_7 (List.mem_of_getElem? (i := 15) rfl) rfl
theorem q_596 : (Jvm.Cond.selects "ChipfoldModel" ({ cls := "ChipfoldModel", name := "factorAt", desc := "(I)J" } : Jvm.MethodName) ({ cls := "ChipfoldModel", name := "factorAt", desc := "(I)J" } : Jvm.MethodName)) ∈ WG := wg_7 (List.mem_of_getElem? (i := 14) (by decide +kernel)) (by decide +kernel)
theorem q_597 : (Jvm.Cond.methodLink "ChipfoldLaw" (196 : Nat) ({ cls := "ChipfoldModel", name := "factorAt", desc := "(I)J" } : Jvm.MethodName)) ∈ WG := wg_7 (List.mem_of_getElem? (i := 12) (by decide +kernel)) (by decide +kernel)
theorem q_598 : (Jvm.Cond.instanceMethod ({ cls := "ChipfoldModel", name := "factorAt", desc := "(I)J" } : Jvm.MethodName)) ∈ WG := wg_7 (List.mem_of_getElem? (i := 13) (by decide +kernel)) (by decide +kernel)
theorem dL_law_1074 : decode cL_law 1074 = .ok (.lstore 7, 2) := by decide +kernel
theorem dL_law_1076 : decode cL_law 1076 = .ok (.aload_n 2, 1) := by decide +kernel
theorem dL_law_1077 : decode cL_law 1077 = .ok (.invokevirtual 134, 3) := by decide +kernel
theorem dL_law_1080 : decode cL_law 1080 = .ok (.iload 6, 2) := by decide +kernel
theorem dL_law_1082 : decode cL_law 1082 = .ok (.if_icmp .eq 5, 3) := by decide +kernel
theorem dL_law_1087 : decode cL_law 1087 = .ok (.iload 6, 2) := by decide +kernel
theorem dL_law_1089 : decode cL_law 1089 = .ok (.ifCond .ne 14, 3) := by decide +kernel
theorem dL_law_1103 : decode cL_law 1103 = .ok (.goto 892, 3) := by decide +kernel
theorem dL_law_1106 : decode cL_law 1106 = .ok (.aload_n 1, 1) := by decide +kernel
theorem dL_law_1107 : decode cL_law 1107 = .ok (.aload_n 3, 1) := by decide +kernel
theorem dL_law_1108 : decode cL_law 1108 = .ok (.invokestatic 197, 3) := by decide +kernel
theorem q_599 : (Jvm.Cond.codeWith ({ cls := "ChipfoldLaw", name := "order", desc := "(LChipfold;[J)I" } : Jvm.MethodName) method_19_code (3 : Nat) (Option.some Jvm.ClassFile.FieldType.int) [((0 : Nat), (7 : Nat), (10 : Nat), (40 : Nat))]) ∈ WG := wg_4 (List.mem_of_getElem? (i := 160) (by decide +kernel)) (by decide +kernel)
theorem q_600 : (Jvm.Cond.methodLink "ChipfoldLaw" (197 : Nat) ({ cls := "ChipfoldLaw", name := "order", desc := "(LChipfold;[J)I" } : Jvm.MethodName)) ∈ WG := wg_4 (List.mem_of_getElem? (i := 158) (by decide +kernel)) (by decide +kernel)
theorem q_601 : (Jvm.Cond.static ({ cls := "ChipfoldLaw", name := "order", desc := "(LChipfold;[J)I" } : Jvm.MethodName)) ∈ WG := wg_4 (List.mem_of_getElem? (i := 159) (by decide +kernel)) (by decide +kernel)
theorem dL_law_1111 : decode cL_law 1111 = .ok (.istore 6, 2) := by decide +kernel
theorem dL_law_1113 : decode cL_law 1113 = .ok (.aload_n 2, 1) := by decide +kernel
theorem dL_law_1114 : decode cL_law 1114 = .ok (.invokevirtual 199, 3) := by decide +kernel
theorem q_602 : (Jvm.Cond.code ({ cls := "ChipfoldModel", name := "order", desc := "()J" } : Jvm.MethodName) prog_13_method_47_code (7 : Nat) (Option.some Jvm.ClassFile.FieldType.long)) ∈ WG := wg_7 (List.mem_of_getElem? (i := 38) rfl) rfl
theorem q_603 : (Jvm.Cond.selects "ChipfoldModel" ({ cls := "ChipfoldModel", name := "order", desc := "()J" } : Jvm.MethodName) ({ cls := "ChipfoldModel", name := "order", desc := "()J" } : Jvm.MethodName)) ∈ WG := wg_7 (List.mem_of_getElem? (i := 37) (by decide +kernel)) (by decide +kernel)
theorem q_604 : (Jvm.Cond.methodLink "ChipfoldLaw" (199 : Nat) ({ cls := "ChipfoldModel", name := "order", desc := "()J" } : Jvm.MethodName)) ∈ WG := wg_7 (List.mem_of_getElem? (i := 35) (by decide +kernel)) (by decide +kernel)
theorem q_605 : (Jvm.Cond.instanceMethod ({ cls := "ChipfoldModel", name := "order", desc := "()J" } : Jvm.MethodName)) ∈ WG := wg_7 (List.mem_of_getElem? (i := 36) (by decide +kernel)) (by decide +kernel)
theorem dL_law_1117 : decode cL_law 1117 = .ok (.lstore 7, 2) := by decide +kernel
theorem dL_law_1119 : decode cL_law 1119 = .ok (.aload_n 2, 1) := by decide +kernel
theorem dL_law_1120 : decode cL_law 1120 = .ok (.invokevirtual 134, 3) := by decide +kernel
theorem dL_law_1123 : decode cL_law 1123 = .ok (.iload 6, 2) := by decide +kernel
theorem dL_law_1125 : decode cL_law 1125 = .ok (.if_icmp .eq 5, 3) := by decide +kernel
theorem dL_law_1130 : decode cL_law 1130 = .ok (.iload 6, 2) := by decide +kernel
theorem dL_law_1132 : decode cL_law 1132 = .ok (.ifCond .ne 14, 3) := by decide +kernel
theorem dL_law_1146 : decode cL_law 1146 = .ok (.goto 849, 3) := by decide +kernel
theorem dL_law_1149 : decode cL_law 1149 = .ok (.aload_n 1, 1) := by decide +kernel
theorem dL_law_1150 : decode cL_law 1150 = .ok (.aload_n 0, 1) := by decide +kernel
theorem dL_law_1151 : decode cL_law 1151 = .ok (.iload 5, 2) := by decide +kernel
theorem dL_law_1153 : decode cL_law 1153 = .ok (.iconst 1, 1) := by decide +kernel
theorem dL_law_1154 : decode cL_law 1154 = .ok (.iadd, 1) := by decide +kernel
theorem dL_law_1155 : decode cL_law 1155 = .ok (.iaload, 1) := by decide +kernel
theorem dL_law_1156 : decode cL_law 1156 = .ok (.aload_n 3, 1) := by decide +kernel
theorem dL_law_1157 : decode cL_law 1157 = .ok (.invokestatic 200, 3) := by decide +kernel
theorem q_606 : (Jvm.Cond.codeWith ({ cls := "ChipfoldLaw", name := "walk", desc := "(LChipfold;I[J)I" } : Jvm.MethodName) method_20_code (4 : Nat) (Option.some Jvm.ClassFile.FieldType.int) [((0 : Nat), (9 : Nat), (12 : Nat), (19 : Nat)), ((0 : Nat), (9 : Nat), (15 : Nat), (40 : Nat))]) ∈ WG := wg_4 (List.mem_of_getElem? (i := 177) (by decide +kernel)) (by decide +kernel)
theorem q_607 : (Jvm.Cond.methodLink "ChipfoldLaw" (200 : Nat) ({ cls := "ChipfoldLaw", name := "walk", desc := "(LChipfold;I[J)I" } : Jvm.MethodName)) ∈ WG := wg_4 (List.mem_of_getElem? (i := 175) (by decide +kernel)) (by decide +kernel)
theorem q_608 : (Jvm.Cond.static ({ cls := "ChipfoldLaw", name := "walk", desc := "(LChipfold;I[J)I" } : Jvm.MethodName)) ∈ WG := wg_4 (List.mem_of_getElem? (i := 176) (by decide +kernel)) (by decide +kernel)
theorem dL_law_1160 : decode cL_law 1160 = .ok (.istore 6, 2) := by decide +kernel
theorem dL_law_1162 : decode cL_law 1162 = .ok (.aload_n 2, 1) := by decide +kernel
theorem dL_law_1163 : decode cL_law 1163 = .ok (.aload_n 0, 1) := by decide +kernel
theorem dL_law_1164 : decode cL_law 1164 = .ok (.iload 5, 2) := by decide +kernel
theorem dL_law_1166 : decode cL_law 1166 = .ok (.iconst 1, 1) := by decide +kernel
theorem dL_law_1167 : decode cL_law 1167 = .ok (.iadd, 1) := by decide +kernel
theorem dL_law_1168 : decode cL_law 1168 = .ok (.iaload, 1) := by decide +kernel
theorem dL_law_1169 : decode cL_law 1169 = .ok (.invokevirtual 202, 3) := by decide +kernel
theorem q_609 : (Jvm.Cond.code ({ cls := "ChipfoldModel", name := "walk", desc := "(I)I" } : Jvm.MethodName) prog_13_method_50_code (5 : Nat) (Option.some Jvm.ClassFile.FieldType.int)) ∈ WG := wg_7 (List.mem_of_getElem? (i := 53) rfl) rfl
theorem q_610 : (Jvm.Cond.selects "ChipfoldModel" ({ cls := "ChipfoldModel", name := "walk", desc := "(I)I" } : Jvm.MethodName) ({ cls := "ChipfoldModel", name := "walk", desc := "(I)I" } : Jvm.MethodName)) ∈ WG := wg_7 (List.mem_of_getElem? (i := 52) (by decide +kernel)) (by decide +kernel)
theorem q_611 : (Jvm.Cond.methodLink "ChipfoldLaw" (202 : Nat) ({ cls := "ChipfoldModel", name := "walk", desc := "(I)I" } : Jvm.MethodName)) ∈ WG := wg_7 (List.mem_of_getElem? (i := 50) (by decide +kernel)) (by decide +kernel)
theorem q_612 : (Jvm.Cond.instanceMethod ({ cls := "ChipfoldModel", name := "walk", desc := "(I)I" } : Jvm.MethodName)) ∈ WG := wg_7 (List.mem_of_getElem? (i := 51) (by decide +kernel)) (by decide +kernel)
theorem dL_law_1172 : decode cL_law 1172 = .ok (.istore 7, 2) := by decide +kernel
theorem dL_law_1174 : decode cL_law 1174 = .ok (.aload_n 2, 1) := by decide +kernel
theorem dL_law_1175 : decode cL_law 1175 = .ok (.invokevirtual 134, 3) := by decide +kernel
theorem dL_law_1178 : decode cL_law 1178 = .ok (.iload 6, 2) := by decide +kernel
theorem dL_law_1180 : decode cL_law 1180 = .ok (.if_icmp .eq 5, 3) := by decide +kernel
theorem dL_law_1185 : decode cL_law 1185 = .ok (.iload 6, 2) := by decide +kernel
theorem dL_law_1187 : decode cL_law 1187 = .ok (.ifCond .ne 15, 3) := by decide +kernel
theorem dL_law_1202 : decode cL_law 1202 = .ok (.goto 793, 3) := by decide +kernel
theorem dL_law_1205 : decode cL_law 1205 = .ok (.aload_n 1, 1) := by decide +kernel
theorem dL_law_1206 : decode cL_law 1206 = .ok (.aload_n 0, 1) := by decide +kernel
theorem dL_law_1207 : decode cL_law 1207 = .ok (.iload 5, 2) := by decide +kernel
theorem dL_law_1209 : decode cL_law 1209 = .ok (.iconst 1, 1) := by decide +kernel
theorem dL_law_1210 : decode cL_law 1210 = .ok (.iadd, 1) := by decide +kernel
theorem dL_law_1211 : decode cL_law 1211 = .ok (.iaload, 1) := by decide +kernel
theorem dL_law_1212 : decode cL_law 1212 = .ok (.aload_n 3, 1) := by decide +kernel
theorem dL_law_1213 : decode cL_law 1213 = .ok (.invokestatic 203, 3) := by decide +kernel
theorem q_613 : (Jvm.Cond.codeWith ({ cls := "ChipfoldLaw", name := "rotor", desc := "(LChipfold;I[J)I" } : Jvm.MethodName) method_21_code (4 : Nat) (Option.some Jvm.ClassFile.FieldType.int) [((0 : Nat), (9 : Nat), (12 : Nat), (19 : Nat)), ((0 : Nat), (9 : Nat), (15 : Nat), (40 : Nat))]) ∈ WG := wg_4 (List.mem_of_getElem? (i := 206) (by decide +kernel)) (by decide +kernel)
theorem q_614 : (Jvm.Cond.methodLink "ChipfoldLaw" (203 : Nat) ({ cls := "ChipfoldLaw", name := "rotor", desc := "(LChipfold;I[J)I" } : Jvm.MethodName)) ∈ WG := wg_4 (List.mem_of_getElem? (i := 204) (by decide +kernel)) (by decide +kernel)
theorem q_615 : (Jvm.Cond.static ({ cls := "ChipfoldLaw", name := "rotor", desc := "(LChipfold;I[J)I" } : Jvm.MethodName)) ∈ WG := wg_4 (List.mem_of_getElem? (i := 205) (by decide +kernel)) (by decide +kernel)
theorem dL_law_1216 : decode cL_law 1216 = .ok (.istore 6, 2) := by decide +kernel
theorem dL_law_1218 : decode cL_law 1218 = .ok (.aload_n 2, 1) := by decide +kernel
theorem dL_law_1219 : decode cL_law 1219 = .ok (.aload_n 0, 1) := by decide +kernel
theorem dL_law_1220 : decode cL_law 1220 = .ok (.iload 5, 2) := by decide +kernel
theorem dL_law_1222 : decode cL_law 1222 = .ok (.iconst 1, 1) := by decide +kernel
theorem dL_law_1223 : decode cL_law 1223 = .ok (.iadd, 1) := by decide +kernel
theorem dL_law_1224 : decode cL_law 1224 = .ok (.iaload, 1) := by decide +kernel
theorem dL_law_1225 : decode cL_law 1225 = .ok (.invokevirtual 205, 3) := by decide +kernel
theorem q_616 : (Jvm.Cond.code ({ cls := "ChipfoldModel", name := "rotor", desc := "(I)I" } : Jvm.MethodName) prog_13_method_51_code (2 : Nat) (Option.some Jvm.ClassFile.FieldType.int)) ∈ WG := wg_7 (List.mem_of_getElem? (i := 61) rfl) rfl
theorem q_617 : (Jvm.Cond.selects "ChipfoldModel" ({ cls := "ChipfoldModel", name := "rotor", desc := "(I)I" } : Jvm.MethodName) ({ cls := "ChipfoldModel", name := "rotor", desc := "(I)I" } : Jvm.MethodName)) ∈ WG := wg_7 (List.mem_of_getElem? (i := 60) (by decide +kernel)) (by decide +kernel)
theorem q_618 : (Jvm.Cond.methodLink "ChipfoldLaw" (205 : Nat) ({ cls := "ChipfoldModel", name := "rotor", desc := "(I)I" } : Jvm.MethodName)) ∈ WG := wg_7 (List.mem_of_getElem? (i := 58) (by decide +kernel)) (by decide +kernel)
theorem q_619 : (Jvm.Cond.instanceMethod ({ cls := "ChipfoldModel", name := "rotor", desc := "(I)I" } : Jvm.MethodName)) ∈ WG := wg_7 (List.mem_of_getElem? (i := 59) (by decide +kernel)) (by decide +kernel)
theorem dL_law_1228 : decode cL_law 1228 = .ok (.istore 7, 2) := by decide +kernel
theorem dL_law_1230 : decode cL_law 1230 = .ok (.aload_n 2, 1) := by decide +kernel
theorem dL_law_1231 : decode cL_law 1231 = .ok (.invokevirtual 134, 3) := by decide +kernel
theorem dL_law_1234 : decode cL_law 1234 = .ok (.iload 6, 2) := by decide +kernel
theorem dL_law_1236 : decode cL_law 1236 = .ok (.if_icmp .eq 5, 3) := by decide +kernel
theorem dL_law_1241 : decode cL_law 1241 = .ok (.iload 6, 2) := by decide +kernel
theorem dL_law_1243 : decode cL_law 1243 = .ok (.ifCond .ne 15, 3) := by decide +kernel
theorem dL_law_1258 : decode cL_law 1258 = .ok (.goto 737, 3) := by decide +kernel
theorem dL_law_1261 : decode cL_law 1261 = .ok (.aload_n 1, 1) := by decide +kernel
theorem dL_law_1262 : decode cL_law 1262 = .ok (.aload_n 0, 1) := by decide +kernel
theorem dL_law_1263 : decode cL_law 1263 = .ok (.iload 5, 2) := by decide +kernel
theorem dL_law_1265 : decode cL_law 1265 = .ok (.iconst 1, 1) := by decide +kernel
theorem dL_law_1266 : decode cL_law 1266 = .ok (.iadd, 1) := by decide +kernel
theorem dL_law_1267 : decode cL_law 1267 = .ok (.iaload, 1) := by decide +kernel
theorem dL_law_1268 : decode cL_law 1268 = .ok (.aload_n 3, 1) := by decide +kernel
theorem dL_law_1269 : decode cL_law 1269 = .ok (.invokestatic 206, 3) := by decide +kernel
theorem q_620 : (Jvm.Cond.codeWith ({ cls := "ChipfoldLaw", name := "visits", desc := "(LChipfold;I[J)I" } : Jvm.MethodName) method_22_code (4 : Nat) (Option.some Jvm.ClassFile.FieldType.int) [((0 : Nat), (9 : Nat), (12 : Nat), (19 : Nat))]) ∈ WG := wg_4 (List.mem_of_getElem? (i := 215) (by decide +kernel)) (by decide +kernel)
theorem q_621 : (Jvm.Cond.methodLink "ChipfoldLaw" (206 : Nat) ({ cls := "ChipfoldLaw", name := "visits", desc := "(LChipfold;I[J)I" } : Jvm.MethodName)) ∈ WG := wg_4 (List.mem_of_getElem? (i := 213) (by decide +kernel)) (by decide +kernel)
theorem q_622 : (Jvm.Cond.static ({ cls := "ChipfoldLaw", name := "visits", desc := "(LChipfold;I[J)I" } : Jvm.MethodName)) ∈ WG := wg_4 (List.mem_of_getElem? (i := 214) (by decide +kernel)) (by decide +kernel)
theorem dL_law_1272 : decode cL_law 1272 = .ok (.istore 6, 2) := by decide +kernel
theorem dL_law_1274 : decode cL_law 1274 = .ok (.aload_n 2, 1) := by decide +kernel
theorem dL_law_1275 : decode cL_law 1275 = .ok (.aload_n 0, 1) := by decide +kernel
theorem dL_law_1276 : decode cL_law 1276 = .ok (.iload 5, 2) := by decide +kernel
theorem dL_law_1278 : decode cL_law 1278 = .ok (.iconst 1, 1) := by decide +kernel
theorem dL_law_1279 : decode cL_law 1279 = .ok (.iadd, 1) := by decide +kernel
theorem dL_law_1280 : decode cL_law 1280 = .ok (.iaload, 1) := by decide +kernel
theorem dL_law_1281 : decode cL_law 1281 = .ok (.invokevirtual 208, 3) := by decide +kernel
theorem q_623 : (Jvm.Cond.code ({ cls := "ChipfoldModel", name := "visits", desc := "(I)I" } : Jvm.MethodName) prog_13_method_52_code (2 : Nat) (Option.some Jvm.ClassFile.FieldType.int)) ∈ WG := wg_7 (List.mem_of_getElem? (i := 65) rfl) rfl
theorem q_624 : (Jvm.Cond.selects "ChipfoldModel" ({ cls := "ChipfoldModel", name := "visits", desc := "(I)I" } : Jvm.MethodName) ({ cls := "ChipfoldModel", name := "visits", desc := "(I)I" } : Jvm.MethodName)) ∈ WG := wg_7 (List.mem_of_getElem? (i := 64) (by decide +kernel)) (by decide +kernel)
theorem q_625 : (Jvm.Cond.methodLink "ChipfoldLaw" (208 : Nat) ({ cls := "ChipfoldModel", name := "visits", desc := "(I)I" } : Jvm.MethodName)) ∈ WG := wg_7 (List.mem_of_getElem? (i := 62) (by decide +kernel)) (by decide +kernel)
theorem q_626 : (Jvm.Cond.instanceMethod ({ cls := "ChipfoldModel", name := "visits", desc := "(I)I" } : Jvm.MethodName)) ∈ WG := wg_7 (List.mem_of_getElem? (i := 63) (by decide +kernel)) (by decide +kernel)
theorem dL_law_1284 : decode cL_law 1284 = .ok (.istore 7, 2) := by decide +kernel
theorem dL_law_1286 : decode cL_law 1286 = .ok (.aload_n 2, 1) := by decide +kernel
theorem dL_law_1287 : decode cL_law 1287 = .ok (.invokevirtual 134, 3) := by decide +kernel
theorem dL_law_1290 : decode cL_law 1290 = .ok (.iload 6, 2) := by decide +kernel
theorem dL_law_1292 : decode cL_law 1292 = .ok (.if_icmp .eq 5, 3) := by decide +kernel
theorem dL_law_1297 : decode cL_law 1297 = .ok (.iload 6, 2) := by decide +kernel
theorem dL_law_1299 : decode cL_law 1299 = .ok (.ifCond .ne 15, 3) := by decide +kernel
theorem dL_law_1314 : decode cL_law 1314 = .ok (.goto 681, 3) := by decide +kernel
theorem dL_law_1317 : decode cL_law 1317 = .ok (.aload_n 1, 1) := by decide +kernel
theorem dL_law_1318 : decode cL_law 1318 = .ok (.aload_n 3, 1) := by decide +kernel
theorem dL_law_1319 : decode cL_law 1319 = .ok (.invokestatic 209, 3) := by decide +kernel
theorem q_627 : (Jvm.Cond.codeWith ({ cls := "ChipfoldLaw", name := "areTree", desc := "(LChipfold;[J)I" } : Jvm.MethodName) method_23_code (3 : Nat) (Option.some Jvm.ClassFile.FieldType.int) [((0 : Nat), (15 : Nat), (18 : Nat), (40 : Nat))]) ∈ WG := wg_4 (List.mem_of_getElem? (i := 226) (by decide +kernel)) (by decide +kernel)
theorem q_628 : (Jvm.Cond.methodLink "ChipfoldLaw" (209 : Nat) ({ cls := "ChipfoldLaw", name := "areTree", desc := "(LChipfold;[J)I" } : Jvm.MethodName)) ∈ WG := wg_4 (List.mem_of_getElem? (i := 224) (by decide +kernel)) (by decide +kernel)
theorem q_629 : (Jvm.Cond.static ({ cls := "ChipfoldLaw", name := "areTree", desc := "(LChipfold;[J)I" } : Jvm.MethodName)) ∈ WG := wg_4 (List.mem_of_getElem? (i := 225) (by decide +kernel)) (by decide +kernel)
theorem dL_law_1322 : decode cL_law 1322 = .ok (.istore 6, 2) := by decide +kernel
theorem dL_law_1324 : decode cL_law 1324 = .ok (.aload_n 2, 1) := by decide +kernel
theorem dL_law_1325 : decode cL_law 1325 = .ok (.invokevirtual 211, 3) := by decide +kernel
theorem q_630 : (Jvm.Cond.code ({ cls := "ChipfoldModel", name := "areTree", desc := "()Z" } : Jvm.MethodName) prog_13_method_53_code (4 : Nat) (Option.some Jvm.ClassFile.FieldType.boolean)) ∈ WG := wg_7 (List.mem_of_getElem? (i := 69) rfl) rfl
theorem q_631 : (Jvm.Cond.selects "ChipfoldModel" ({ cls := "ChipfoldModel", name := "areTree", desc := "()Z" } : Jvm.MethodName) ({ cls := "ChipfoldModel", name := "areTree", desc := "()Z" } : Jvm.MethodName)) ∈ WG := wg_7 (List.mem_of_getElem? (i := 68) (by decide +kernel)) (by decide +kernel)
theorem q_632 : (Jvm.Cond.methodLink "ChipfoldLaw" (211 : Nat) ({ cls := "ChipfoldModel", name := "areTree", desc := "()Z" } : Jvm.MethodName)) ∈ WG := wg_7 (List.mem_of_getElem? (i := 66) (by decide +kernel)) (by decide +kernel)
theorem q_633 : (Jvm.Cond.instanceMethod ({ cls := "ChipfoldModel", name := "areTree", desc := "()Z" } : Jvm.MethodName)) ∈ WG := wg_7 (List.mem_of_getElem? (i := 67) (by decide +kernel)) (by decide +kernel)
theorem dL_law_1328 : decode cL_law 1328 = .ok (.istore 7, 2) := by decide +kernel
theorem dL_law_1330 : decode cL_law 1330 = .ok (.aload_n 2, 1) := by decide +kernel
theorem dL_law_1331 : decode cL_law 1331 = .ok (.invokevirtual 134, 3) := by decide +kernel
theorem dL_law_1334 : decode cL_law 1334 = .ok (.iload 6, 2) := by decide +kernel
theorem dL_law_1336 : decode cL_law 1336 = .ok (.if_icmp .eq 5, 3) := by decide +kernel
theorem dL_law_1341 : decode cL_law 1341 = .ok (.iload 6, 2) := by decide +kernel
theorem dL_law_1343 : decode cL_law 1343 = .ok (.ifCond .ne 22, 3) := by decide +kernel
theorem dL_law_1365 : decode cL_law 1365 = .ok (.goto 630, 3) := by decide +kernel
theorem dL_law_1368 : decode cL_law 1368 = .ok (.aload_n 1, 1) := by decide +kernel
theorem dL_law_1369 : decode cL_law 1369 = .ok (.aload_n 0, 1) := by decide +kernel
theorem dL_law_1370 : decode cL_law 1370 = .ok (.iload 5, 2) := by decide +kernel
theorem dL_law_1372 : decode cL_law 1372 = .ok (.iconst 1, 1) := by decide +kernel
theorem dL_law_1373 : decode cL_law 1373 = .ok (.iadd, 1) := by decide +kernel
theorem dL_law_1374 : decode cL_law 1374 = .ok (.iaload, 1) := by decide +kernel
theorem dL_law_1375 : decode cL_law 1375 = .ok (.aload_n 0, 1) := by decide +kernel
theorem dL_law_1376 : decode cL_law 1376 = .ok (.iload 5, 2) := by decide +kernel
theorem dL_law_1378 : decode cL_law 1378 = .ok (.iconst 2, 1) := by decide +kernel
theorem dL_law_1379 : decode cL_law 1379 = .ok (.iadd, 1) := by decide +kernel
theorem dL_law_1380 : decode cL_law 1380 = .ok (.iaload, 1) := by decide +kernel
theorem dL_law_1381 : decode cL_law 1381 = .ok (.aload_n 3, 1) := by decide +kernel
theorem dL_law_1382 : decode cL_law 1382 = .ok (.invokestatic 212, 3) := by decide +kernel
theorem q_634 : (Jvm.Cond.codeWith ({ cls := "ChipfoldLaw", name := "setDebt", desc := "(LChipfold;II[J)I" } : Jvm.MethodName) method_24_code (5 : Nat) (Option.some Jvm.ClassFile.FieldType.int) [((0 : Nat), (10 : Nat), (13 : Nat), (19 : Nat)), ((0 : Nat), (10 : Nat), (17 : Nat), (21 : Nat))]) ∈ WG := wg_4 (List.mem_of_getElem? (i := 238) (by decide +kernel)) (by decide +kernel)
theorem q_635 : (Jvm.Cond.methodLink "ChipfoldLaw" (212 : Nat) ({ cls := "ChipfoldLaw", name := "setDebt", desc := "(LChipfold;II[J)I" } : Jvm.MethodName)) ∈ WG := wg_4 (List.mem_of_getElem? (i := 236) (by decide +kernel)) (by decide +kernel)
theorem q_636 : (Jvm.Cond.static ({ cls := "ChipfoldLaw", name := "setDebt", desc := "(LChipfold;II[J)I" } : Jvm.MethodName)) ∈ WG := wg_4 (List.mem_of_getElem? (i := 237) (by decide +kernel)) (by decide +kernel)
theorem dL_law_1385 : decode cL_law 1385 = .ok (.istore 6, 2) := by decide +kernel
theorem dL_law_1387 : decode cL_law 1387 = .ok (.aload_n 2, 1) := by decide +kernel
theorem dL_law_1388 : decode cL_law 1388 = .ok (.aload_n 0, 1) := by decide +kernel
theorem dL_law_1389 : decode cL_law 1389 = .ok (.iload 5, 2) := by decide +kernel
theorem dL_law_1391 : decode cL_law 1391 = .ok (.iconst 1, 1) := by decide +kernel
theorem dL_law_1392 : decode cL_law 1392 = .ok (.iadd, 1) := by decide +kernel
theorem dL_law_1393 : decode cL_law 1393 = .ok (.iaload, 1) := by decide +kernel
theorem dL_law_1394 : decode cL_law 1394 = .ok (.aload_n 0, 1) := by decide +kernel
theorem dL_law_1395 : decode cL_law 1395 = .ok (.iload 5, 2) := by decide +kernel
theorem dL_law_1397 : decode cL_law 1397 = .ok (.iconst 2, 1) := by decide +kernel
theorem dL_law_1398 : decode cL_law 1398 = .ok (.iadd, 1) := by decide +kernel
theorem dL_law_1399 : decode cL_law 1399 = .ok (.iaload, 1) := by decide +kernel
theorem dL_law_1400 : decode cL_law 1400 = .ok (.invokevirtual 214, 3) := by decide +kernel
theorem q_637 : (Jvm.Cond.code ({ cls := "ChipfoldModel", name := "setDebt", desc := "(II)I" } : Jvm.MethodName) prog_13_method_54_code (4 : Nat) (Option.some Jvm.ClassFile.FieldType.int)) ∈ WG := wg_7 (List.mem_of_getElem? (i := 73) rfl) rfl
theorem q_638 : (Jvm.Cond.selects "ChipfoldModel" ({ cls := "ChipfoldModel", name := "setDebt", desc := "(II)I" } : Jvm.MethodName) ({ cls := "ChipfoldModel", name := "setDebt", desc := "(II)I" } : Jvm.MethodName)) ∈ WG := wg_7 (List.mem_of_getElem? (i := 72) (by decide +kernel)) (by decide +kernel)
theorem q_639 : (Jvm.Cond.methodLink "ChipfoldLaw" (214 : Nat) ({ cls := "ChipfoldModel", name := "setDebt", desc := "(II)I" } : Jvm.MethodName)) ∈ WG := wg_7 (List.mem_of_getElem? (i := 70) (by decide +kernel)) (by decide +kernel)
theorem q_640 : (Jvm.Cond.instanceMethod ({ cls := "ChipfoldModel", name := "setDebt", desc := "(II)I" } : Jvm.MethodName)) ∈ WG := wg_7 (List.mem_of_getElem? (i := 71) (by decide +kernel)) (by decide +kernel)
theorem dL_law_1403 : decode cL_law 1403 = .ok (.istore 7, 2) := by decide +kernel
theorem dL_law_1405 : decode cL_law 1405 = .ok (.aload_n 2, 1) := by decide +kernel
theorem dL_law_1406 : decode cL_law 1406 = .ok (.invokevirtual 134, 3) := by decide +kernel
theorem dL_law_1409 : decode cL_law 1409 = .ok (.iload 6, 2) := by decide +kernel
theorem dL_law_1411 : decode cL_law 1411 = .ok (.if_icmp .eq 5, 3) := by decide +kernel
theorem dL_law_1416 : decode cL_law 1416 = .ok (.iload 6, 2) := by decide +kernel
theorem dL_law_1418 : decode cL_law 1418 = .ok (.ifCond .ne 15, 3) := by decide +kernel
theorem dL_law_1433 : decode cL_law 1433 = .ok (.goto 562, 3) := by decide +kernel
theorem dL_law_1436 : decode cL_law 1436 = .ok (.aload_n 1, 1) := by decide +kernel
theorem dL_law_1437 : decode cL_law 1437 = .ok (.aload_n 0, 1) := by decide +kernel
theorem dL_law_1438 : decode cL_law 1438 = .ok (.iload 5, 2) := by decide +kernel
theorem dL_law_1440 : decode cL_law 1440 = .ok (.iconst 1, 1) := by decide +kernel
theorem dL_law_1441 : decode cL_law 1441 = .ok (.iadd, 1) := by decide +kernel
theorem dL_law_1442 : decode cL_law 1442 = .ok (.iaload, 1) := by decide +kernel
theorem dL_law_1443 : decode cL_law 1443 = .ok (.aload_n 0, 1) := by decide +kernel
theorem dL_law_1444 : decode cL_law 1444 = .ok (.iload 5, 2) := by decide +kernel
theorem dL_law_1446 : decode cL_law 1446 = .ok (.iconst 2, 1) := by decide +kernel
theorem dL_law_1447 : decode cL_law 1447 = .ok (.iadd, 1) := by decide +kernel
theorem dL_law_1448 : decode cL_law 1448 = .ok (.iaload, 1) := by decide +kernel
theorem dL_law_1449 : decode cL_law 1449 = .ok (.ifCond .eq 7, 3) := by decide +kernel
theorem dL_law_1456 : decode cL_law 1456 = .ok (.iconst 0, 1) := by decide +kernel
theorem dL_law_1457 : decode cL_law 1457 = .ok (.aload_n 3, 1) := by decide +kernel
theorem dL_law_1458 : decode cL_law 1458 = .ok (.invokestatic 215, 3) := by decide +kernel
theorem q_641 : (Jvm.Cond.codeWith ({ cls := "ChipfoldLaw", name := "deal", desc := "(LChipfold;IZ[J)I" } : Jvm.MethodName) method_25_code (5 : Nat) (Option.some Jvm.ClassFile.FieldType.int) [((0 : Nat), (10 : Nat), (13 : Nat), (19 : Nat)), ((0 : Nat), (10 : Nat), (17 : Nat), (13 : Nat))]) ∈ WG := wg_5 (List.mem_of_getElem? (i := 14) (by decide +kernel)) (by decide +kernel)
theorem q_642 : (Jvm.Cond.methodLink "ChipfoldLaw" (215 : Nat) ({ cls := "ChipfoldLaw", name := "deal", desc := "(LChipfold;IZ[J)I" } : Jvm.MethodName)) ∈ WG := wg_5 (List.mem_of_getElem? (i := 12) (by decide +kernel)) (by decide +kernel)
theorem q_643 : (Jvm.Cond.static ({ cls := "ChipfoldLaw", name := "deal", desc := "(LChipfold;IZ[J)I" } : Jvm.MethodName)) ∈ WG := wg_5 (List.mem_of_getElem? (i := 13) (by decide +kernel)) (by decide +kernel)
theorem dL_law_1461 : decode cL_law 1461 = .ok (.istore 6, 2) := by decide +kernel
theorem dL_law_1463 : decode cL_law 1463 = .ok (.aload_n 2, 1) := by decide +kernel
theorem dL_law_1464 : decode cL_law 1464 = .ok (.aload_n 0, 1) := by decide +kernel
theorem dL_law_1465 : decode cL_law 1465 = .ok (.iload 5, 2) := by decide +kernel
theorem dL_law_1467 : decode cL_law 1467 = .ok (.iconst 1, 1) := by decide +kernel
theorem dL_law_1468 : decode cL_law 1468 = .ok (.iadd, 1) := by decide +kernel
theorem dL_law_1469 : decode cL_law 1469 = .ok (.iaload, 1) := by decide +kernel
theorem dL_law_1470 : decode cL_law 1470 = .ok (.aload_n 0, 1) := by decide +kernel
theorem dL_law_1471 : decode cL_law 1471 = .ok (.iload 5, 2) := by decide +kernel
theorem dL_law_1473 : decode cL_law 1473 = .ok (.iconst 2, 1) := by decide +kernel
theorem dL_law_1474 : decode cL_law 1474 = .ok (.iadd, 1) := by decide +kernel
theorem dL_law_1475 : decode cL_law 1475 = .ok (.iaload, 1) := by decide +kernel
theorem dL_law_1476 : decode cL_law 1476 = .ok (.ifCond .eq 7, 3) := by decide +kernel
theorem dL_law_1483 : decode cL_law 1483 = .ok (.iconst 0, 1) := by decide +kernel
theorem dL_law_1484 : decode cL_law 1484 = .ok (.invokevirtual 218, 3) := by decide +kernel
theorem q_644 : (Jvm.Cond.code ({ cls := "ChipfoldModel", name := "deal", desc := "(IZ)I" } : Jvm.MethodName) prog_13_method_55_code (8 : Nat) (Option.some Jvm.ClassFile.FieldType.int)) ∈ WG := wg_7 (List.mem_of_getElem? (i := 77) rfl) rfl
theorem q_645 : (Jvm.Cond.selects "ChipfoldModel" ({ cls := "ChipfoldModel", name := "deal", desc := "(IZ)I" } : Jvm.MethodName) ({ cls := "ChipfoldModel", name := "deal", desc := "(IZ)I" } : Jvm.MethodName)) ∈ WG := wg_7 (List.mem_of_getElem? (i := 76) (by decide +kernel)) (by decide +kernel)
theorem q_646 : (Jvm.Cond.methodLink "ChipfoldLaw" (218 : Nat) ({ cls := "ChipfoldModel", name := "deal", desc := "(IZ)I" } : Jvm.MethodName)) ∈ WG := wg_7 (List.mem_of_getElem? (i := 74) (by decide +kernel)) (by decide +kernel)
theorem q_647 : (Jvm.Cond.instanceMethod ({ cls := "ChipfoldModel", name := "deal", desc := "(IZ)I" } : Jvm.MethodName)) ∈ WG := wg_7 (List.mem_of_getElem? (i := 75) (by decide +kernel)) (by decide +kernel)
theorem dL_law_1487 : decode cL_law 1487 = .ok (.istore 7, 2) := by decide +kernel
theorem dL_law_1489 : decode cL_law 1489 = .ok (.aload_n 2, 1) := by decide +kernel
theorem dL_law_1490 : decode cL_law 1490 = .ok (.invokevirtual 134, 3) := by decide +kernel
theorem dL_law_1493 : decode cL_law 1493 = .ok (.iload 6, 2) := by decide +kernel
theorem dL_law_1495 : decode cL_law 1495 = .ok (.if_icmp .eq 5, 3) := by decide +kernel
theorem dL_law_1500 : decode cL_law 1500 = .ok (.iload 6, 2) := by decide +kernel
theorem dL_law_1502 : decode cL_law 1502 = .ok (.ifCond .ne 15, 3) := by decide +kernel
theorem dL_law_1517 : decode cL_law 1517 = .ok (.goto 478, 3) := by decide +kernel
theorem dL_law_1479 : decode cL_law 1479 = .ok (.iconst 1, 1) := by decide +kernel
theorem dL_law_1480 : decode cL_law 1480 = .ok (.goto 4, 3) := by decide +kernel
theorem dL_law_1452 : decode cL_law 1452 = .ok (.iconst 1, 1) := by decide +kernel
theorem dL_law_1453 : decode cL_law 1453 = .ok (.goto 4, 3) := by decide +kernel
theorem dL_law_1520 : decode cL_law 1520 = .ok (.aload_n 1, 1) := by decide +kernel
theorem dL_law_1521 : decode cL_law 1521 = .ok (.aload_n 0, 1) := by decide +kernel
theorem dL_law_1522 : decode cL_law 1522 = .ok (.iload 5, 2) := by decide +kernel
theorem dL_law_1524 : decode cL_law 1524 = .ok (.iconst 1, 1) := by decide +kernel
theorem dL_law_1525 : decode cL_law 1525 = .ok (.iadd, 1) := by decide +kernel
theorem dL_law_1526 : decode cL_law 1526 = .ok (.iaload, 1) := by decide +kernel
theorem dL_law_1527 : decode cL_law 1527 = .ok (.aload_n 3, 1) := by decide +kernel
theorem dL_law_1528 : decode cL_law 1528 = .ok (.invokestatic 219, 3) := by decide +kernel
theorem q_648 : (Jvm.Cond.codeWith ({ cls := "ChipfoldLaw", name := "debt", desc := "(LChipfold;I[J)I" } : Jvm.MethodName) method_26_code (4 : Nat) (Option.some Jvm.ClassFile.FieldType.int) [((0 : Nat), (9 : Nat), (12 : Nat), (19 : Nat))]) ∈ WG := wg_5 (List.mem_of_getElem? (i := 27) (by decide +kernel)) (by decide +kernel)
theorem q_649 : (Jvm.Cond.methodLink "ChipfoldLaw" (219 : Nat) ({ cls := "ChipfoldLaw", name := "debt", desc := "(LChipfold;I[J)I" } : Jvm.MethodName)) ∈ WG := wg_5 (List.mem_of_getElem? (i := 25) (by decide +kernel)) (by decide +kernel)
theorem q_650 : (Jvm.Cond.static ({ cls := "ChipfoldLaw", name := "debt", desc := "(LChipfold;I[J)I" } : Jvm.MethodName)) ∈ WG := wg_5 (List.mem_of_getElem? (i := 26) (by decide +kernel)) (by decide +kernel)
theorem dL_law_1531 : decode cL_law 1531 = .ok (.istore 6, 2) := by decide +kernel
theorem dL_law_1533 : decode cL_law 1533 = .ok (.aload_n 2, 1) := by decide +kernel
theorem dL_law_1534 : decode cL_law 1534 = .ok (.aload_n 0, 1) := by decide +kernel
theorem dL_law_1535 : decode cL_law 1535 = .ok (.iload 5, 2) := by decide +kernel
theorem dL_law_1537 : decode cL_law 1537 = .ok (.iconst 1, 1) := by decide +kernel
theorem dL_law_1538 : decode cL_law 1538 = .ok (.iadd, 1) := by decide +kernel
theorem dL_law_1539 : decode cL_law 1539 = .ok (.iaload, 1) := by decide +kernel
theorem dL_law_1540 : decode cL_law 1540 = .ok (.invokevirtual 221, 3) := by decide +kernel
theorem q_651 : (Jvm.Cond.code ({ cls := "ChipfoldModel", name := "debt", desc := "(I)I" } : Jvm.MethodName) prog_13_method_56_code (2 : Nat) (Option.some Jvm.ClassFile.FieldType.int)) ∈ WG := wg_7 (List.mem_of_getElem? (i := 81) rfl) rfl
theorem q_652 : (Jvm.Cond.selects "ChipfoldModel" ({ cls := "ChipfoldModel", name := "debt", desc := "(I)I" } : Jvm.MethodName) ({ cls := "ChipfoldModel", name := "debt", desc := "(I)I" } : Jvm.MethodName)) ∈ WG := wg_7 (List.mem_of_getElem? (i := 80) (by decide +kernel)) (by decide +kernel)
theorem q_653 : (Jvm.Cond.methodLink "ChipfoldLaw" (221 : Nat) ({ cls := "ChipfoldModel", name := "debt", desc := "(I)I" } : Jvm.MethodName)) ∈ WG := wg_7 (List.mem_of_getElem? (i := 78) (by decide +kernel)) (by decide +kernel)
theorem q_654 : (Jvm.Cond.instanceMethod ({ cls := "ChipfoldModel", name := "debt", desc := "(I)I" } : Jvm.MethodName)) ∈ WG := wg_7 (List.mem_of_getElem? (i := 79) (by decide +kernel)) (by decide +kernel)
theorem dL_law_1543 : decode cL_law 1543 = .ok (.istore 7, 2) := by decide +kernel
theorem dL_law_1545 : decode cL_law 1545 = .ok (.aload_n 2, 1) := by decide +kernel
theorem dL_law_1546 : decode cL_law 1546 = .ok (.invokevirtual 134, 3) := by decide +kernel
theorem dL_law_1549 : decode cL_law 1549 = .ok (.iload 6, 2) := by decide +kernel
theorem dL_law_1551 : decode cL_law 1551 = .ok (.if_icmp .eq 5, 3) := by decide +kernel
theorem dL_law_1556 : decode cL_law 1556 = .ok (.iload 6, 2) := by decide +kernel
theorem dL_law_1558 : decode cL_law 1558 = .ok (.ifCond .ne 15, 3) := by decide +kernel
theorem dL_law_1573 : decode cL_law 1573 = .ok (.goto 422, 3) := by decide +kernel
theorem dL_law_1576 : decode cL_law 1576 = .ok (.aload_n 1, 1) := by decide +kernel
theorem dL_law_1577 : decode cL_law 1577 = .ok (.aload_n 0, 1) := by decide +kernel
theorem dL_law_1578 : decode cL_law 1578 = .ok (.iload 5, 2) := by decide +kernel
theorem dL_law_1580 : decode cL_law 1580 = .ok (.iconst 1, 1) := by decide +kernel
theorem dL_law_1581 : decode cL_law 1581 = .ok (.iadd, 1) := by decide +kernel
theorem dL_law_1582 : decode cL_law 1582 = .ok (.iaload, 1) := by decide +kernel
theorem dL_law_1583 : decode cL_law 1583 = .ok (.aload_n 3, 1) := by decide +kernel
theorem dL_law_1584 : decode cL_law 1584 = .ok (.invokestatic 222, 3) := by decide +kernel
theorem q_655 : (Jvm.Cond.codeWith ({ cls := "ChipfoldLaw", name := "reduced", desc := "(LChipfold;I[J)I" } : Jvm.MethodName) method_27_code (4 : Nat) (Option.some Jvm.ClassFile.FieldType.int) [((0 : Nat), (9 : Nat), (12 : Nat), (19 : Nat)), ((0 : Nat), (9 : Nat), (15 : Nat), (40 : Nat))]) ∈ WG := wg_5 (List.mem_of_getElem? (i := 34) (by decide +kernel)) (by decide +kernel)
theorem q_656 : (Jvm.Cond.methodLink "ChipfoldLaw" (222 : Nat) ({ cls := "ChipfoldLaw", name := "reduced", desc := "(LChipfold;I[J)I" } : Jvm.MethodName)) ∈ WG := wg_5 (List.mem_of_getElem? (i := 32) (by decide +kernel)) (by decide +kernel)
theorem q_657 : (Jvm.Cond.static ({ cls := "ChipfoldLaw", name := "reduced", desc := "(LChipfold;I[J)I" } : Jvm.MethodName)) ∈ WG := wg_5 (List.mem_of_getElem? (i := 33) (by decide +kernel)) (by decide +kernel)
theorem dL_law_1587 : decode cL_law 1587 = .ok (.istore 6, 2) := by decide +kernel
theorem dL_law_1589 : decode cL_law 1589 = .ok (.aload_n 2, 1) := by decide +kernel
theorem dL_law_1590 : decode cL_law 1590 = .ok (.aload_n 0, 1) := by decide +kernel
theorem dL_law_1591 : decode cL_law 1591 = .ok (.iload 5, 2) := by decide +kernel
theorem dL_law_1593 : decode cL_law 1593 = .ok (.iconst 1, 1) := by decide +kernel
theorem dL_law_1594 : decode cL_law 1594 = .ok (.iadd, 1) := by decide +kernel
theorem dL_law_1595 : decode cL_law 1595 = .ok (.iaload, 1) := by decide +kernel
theorem dL_law_1596 : decode cL_law 1596 = .ok (.invokevirtual 224, 3) := by decide +kernel
theorem q_658 : (Jvm.Cond.code ({ cls := "ChipfoldModel", name := "reduced", desc := "(I)I" } : Jvm.MethodName) prog_13_method_59_code (2 : Nat) (Option.some Jvm.ClassFile.FieldType.int)) ∈ WG := wg_7 (List.mem_of_getElem? (i := 85) rfl) rfl
theorem q_659 : (Jvm.Cond.selects "ChipfoldModel" ({ cls := "ChipfoldModel", name := "reduced", desc := "(I)I" } : Jvm.MethodName) ({ cls := "ChipfoldModel", name := "reduced", desc := "(I)I" } : Jvm.MethodName)) ∈ WG := wg_7 (List.mem_of_getElem? (i := 84) (by decide +kernel)) (by decide +kernel)
theorem q_660 : (Jvm.Cond.methodLink "ChipfoldLaw" (224 : Nat) ({ cls := "ChipfoldModel", name := "reduced", desc := "(I)I" } : Jvm.MethodName)) ∈ WG := wg_7 (List.mem_of_getElem? (i := 82) (by decide +kernel)) (by decide +kernel)
theorem q_661 : (Jvm.Cond.instanceMethod ({ cls := "ChipfoldModel", name := "reduced", desc := "(I)I" } : Jvm.MethodName)) ∈ WG := wg_7 (List.mem_of_getElem? (i := 83) (by decide +kernel)) (by decide +kernel)
theorem dL_law_1599 : decode cL_law 1599 = .ok (.istore 7, 2) := by decide +kernel
theorem dL_law_1601 : decode cL_law 1601 = .ok (.aload_n 2, 1) := by decide +kernel
theorem dL_law_1602 : decode cL_law 1602 = .ok (.invokevirtual 134, 3) := by decide +kernel
theorem dL_law_1605 : decode cL_law 1605 = .ok (.iload 6, 2) := by decide +kernel
theorem dL_law_1607 : decode cL_law 1607 = .ok (.if_icmp .eq 5, 3) := by decide +kernel
theorem dL_law_1612 : decode cL_law 1612 = .ok (.iload 6, 2) := by decide +kernel
theorem dL_law_1614 : decode cL_law 1614 = .ok (.ifCond .ne 15, 3) := by decide +kernel
theorem dL_law_1629 : decode cL_law 1629 = .ok (.goto 366, 3) := by decide +kernel
theorem dL_law_1632 : decode cL_law 1632 = .ok (.aload_n 1, 1) := by decide +kernel
theorem dL_law_1633 : decode cL_law 1633 = .ok (.aload_n 3, 1) := by decide +kernel
theorem dL_law_1634 : decode cL_law 1634 = .ok (.invokestatic 225, 3) := by decide +kernel
theorem q_662 : (Jvm.Cond.codeWith ({ cls := "ChipfoldLaw", name := "canPay", desc := "(LChipfold;[J)I" } : Jvm.MethodName) method_28_code (3 : Nat) (Option.some Jvm.ClassFile.FieldType.int) [((0 : Nat), (15 : Nat), (18 : Nat), (40 : Nat))]) ∈ WG := wg_5 (List.mem_of_getElem? (i := 47) (by decide +kernel)) (by decide +kernel)
theorem q_663 : (Jvm.Cond.methodLink "ChipfoldLaw" (225 : Nat) ({ cls := "ChipfoldLaw", name := "canPay", desc := "(LChipfold;[J)I" } : Jvm.MethodName)) ∈ WG := wg_5 (List.mem_of_getElem? (i := 45) (by decide +kernel)) (by decide +kernel)
theorem q_664 : (Jvm.Cond.static ({ cls := "ChipfoldLaw", name := "canPay", desc := "(LChipfold;[J)I" } : Jvm.MethodName)) ∈ WG := wg_5 (List.mem_of_getElem? (i := 46) (by decide +kernel)) (by decide +kernel)
theorem dL_law_1637 : decode cL_law 1637 = .ok (.istore 6, 2) := by decide +kernel
theorem dL_law_1639 : decode cL_law 1639 = .ok (.aload_n 2, 1) := by decide +kernel
theorem dL_law_1640 : decode cL_law 1640 = .ok (.invokevirtual 227, 3) := by decide +kernel
theorem q_665 : (Jvm.Cond.code ({ cls := "ChipfoldModel", name := "canPay", desc := "()Z" } : Jvm.MethodName) prog_13_method_61_code (1 : Nat) (Option.some Jvm.ClassFile.FieldType.boolean)) ∈ WG := wg_7 (List.mem_of_getElem? (i := 102) rfl) rfl
theorem q_666 : (Jvm.Cond.selects "ChipfoldModel" ({ cls := "ChipfoldModel", name := "canPay", desc := "()Z" } : Jvm.MethodName) ({ cls := "ChipfoldModel", name := "canPay", desc := "()Z" } : Jvm.MethodName)) ∈ WG := wg_7 (List.mem_of_getElem? (i := 101) (by decide +kernel)) (by decide +kernel)
theorem q_667 : (Jvm.Cond.methodLink "ChipfoldLaw" (227 : Nat) ({ cls := "ChipfoldModel", name := "canPay", desc := "()Z" } : Jvm.MethodName)) ∈ WG := wg_7 (List.mem_of_getElem? (i := 99) (by decide +kernel)) (by decide +kernel)
theorem q_668 : (Jvm.Cond.instanceMethod ({ cls := "ChipfoldModel", name := "canPay", desc := "()Z" } : Jvm.MethodName)) ∈ WG := wg_7 (List.mem_of_getElem? (i := 100) (by decide +kernel)) (by decide +kernel)
theorem dL_law_1643 : decode cL_law 1643 = .ok (.istore 7, 2) := by decide +kernel
theorem dL_law_1645 : decode cL_law 1645 = .ok (.aload_n 2, 1) := by decide +kernel
theorem dL_law_1646 : decode cL_law 1646 = .ok (.invokevirtual 134, 3) := by decide +kernel
theorem dL_law_1649 : decode cL_law 1649 = .ok (.iload 6, 2) := by decide +kernel
theorem dL_law_1651 : decode cL_law 1651 = .ok (.if_icmp .eq 5, 3) := by decide +kernel
theorem dL_law_1656 : decode cL_law 1656 = .ok (.iload 6, 2) := by decide +kernel
theorem dL_law_1658 : decode cL_law 1658 = .ok (.ifCond .ne 22, 3) := by decide +kernel
theorem dL_law_1680 : decode cL_law 1680 = .ok (.goto 315, 3) := by decide +kernel
theorem dL_law_1683 : decode cL_law 1683 = .ok (.aload_n 1, 1) := by decide +kernel
theorem dL_law_1684 : decode cL_law 1684 = .ok (.aload_n 3, 1) := by decide +kernel
theorem dL_law_1685 : decode cL_law 1685 = .ok (.invokestatic 228, 3) := by decide +kernel
theorem q_669 : (Jvm.Cond.codeWith ({ cls := "ChipfoldLaw", name := "rank", desc := "(LChipfold;[J)I" } : Jvm.MethodName) method_29_code (3 : Nat) (Option.some Jvm.ClassFile.FieldType.int) [((0 : Nat), (8 : Nat), (11 : Nat), (40 : Nat)), ((0 : Nat), (8 : Nat), (14 : Nat), (13 : Nat))]) ∈ WG := wg_5 (List.mem_of_getElem? (i := 54) (by decide +kernel)) (by decide +kernel)
theorem q_670 : (Jvm.Cond.methodLink "ChipfoldLaw" (228 : Nat) ({ cls := "ChipfoldLaw", name := "rank", desc := "(LChipfold;[J)I" } : Jvm.MethodName)) ∈ WG := wg_5 (List.mem_of_getElem? (i := 52) (by decide +kernel)) (by decide +kernel)
theorem q_671 : (Jvm.Cond.static ({ cls := "ChipfoldLaw", name := "rank", desc := "(LChipfold;[J)I" } : Jvm.MethodName)) ∈ WG := wg_5 (List.mem_of_getElem? (i := 53) (by decide +kernel)) (by decide +kernel)
theorem dL_law_1688 : decode cL_law 1688 = .ok (.istore 6, 2) := by decide +kernel
theorem dL_law_1690 : decode cL_law 1690 = .ok (.aload_n 2, 1) := by decide +kernel
theorem dL_law_1691 : decode cL_law 1691 = .ok (.invokevirtual 230, 3) := by decide +kernel
theorem q_672 : (Jvm.Cond.code ({ cls := "ChipfoldModel", name := "rank", desc := "()I" } : Jvm.MethodName) prog_13_method_64_code (3 : Nat) (Option.some Jvm.ClassFile.FieldType.int)) ∈ WG := wg_7 (List.mem_of_getElem? (i := 110) rfl) rfl
theorem q_673 : (Jvm.Cond.selects "ChipfoldModel" ({ cls := "ChipfoldModel", name := "rank", desc := "()I" } : Jvm.MethodName) ({ cls := "ChipfoldModel", name := "rank", desc := "()I" } : Jvm.MethodName)) ∈ WG := wg_7 (List.mem_of_getElem? (i := 109) (by decide +kernel)) (by decide +kernel)
theorem q_674 : (Jvm.Cond.methodLink "ChipfoldLaw" (230 : Nat) ({ cls := "ChipfoldModel", name := "rank", desc := "()I" } : Jvm.MethodName)) ∈ WG := wg_7 (List.mem_of_getElem? (i := 107) (by decide +kernel)) (by decide +kernel)
theorem q_675 : (Jvm.Cond.instanceMethod ({ cls := "ChipfoldModel", name := "rank", desc := "()I" } : Jvm.MethodName)) ∈ WG := wg_7 (List.mem_of_getElem? (i := 108) (by decide +kernel)) (by decide +kernel)
theorem dL_law_1694 : decode cL_law 1694 = .ok (.istore 7, 2) := by decide +kernel
theorem dL_law_1696 : decode cL_law 1696 = .ok (.aload_n 2, 1) := by decide +kernel
theorem dL_law_1697 : decode cL_law 1697 = .ok (.invokevirtual 134, 3) := by decide +kernel
theorem dL_law_1700 : decode cL_law 1700 = .ok (.iload 6, 2) := by decide +kernel
theorem dL_law_1702 : decode cL_law 1702 = .ok (.if_icmp .eq 5, 3) := by decide +kernel
theorem dL_law_1707 : decode cL_law 1707 = .ok (.iload 6, 2) := by decide +kernel
theorem dL_law_1709 : decode cL_law 1709 = .ok (.ifCond .ne 15, 3) := by decide +kernel
theorem dL_law_1724 : decode cL_law 1724 = .ok (.goto 271, 3) := by decide +kernel
theorem dL_law_1727 : decode cL_law 1727 = .ok (.aload_n 1, 1) := by decide +kernel
theorem dL_law_1728 : decode cL_law 1728 = .ok (.aload_n 0, 1) := by decide +kernel
theorem dL_law_1729 : decode cL_law 1729 = .ok (.iload 5, 2) := by decide +kernel
theorem dL_law_1731 : decode cL_law 1731 = .ok (.iconst 1, 1) := by decide +kernel
theorem dL_law_1732 : decode cL_law 1732 = .ok (.iadd, 1) := by decide +kernel
theorem dL_law_1733 : decode cL_law 1733 = .ok (.iaload, 1) := by decide +kernel
theorem dL_law_1734 : decode cL_law 1734 = .ok (.aload_n 0, 1) := by decide +kernel
theorem dL_law_1735 : decode cL_law 1735 = .ok (.iload 5, 2) := by decide +kernel
theorem dL_law_1737 : decode cL_law 1737 = .ok (.iconst 2, 1) := by decide +kernel
theorem dL_law_1738 : decode cL_law 1738 = .ok (.iadd, 1) := by decide +kernel
theorem dL_law_1739 : decode cL_law 1739 = .ok (.iaload, 1) := by decide +kernel
theorem dL_law_1740 : decode cL_law 1740 = .ok (.aload_n 3, 1) := by decide +kernel
theorem dL_law_1741 : decode cL_law 1741 = .ok (.invokestatic 231, 3) := by decide +kernel
theorem q_676 : (Jvm.Cond.codeWith ({ cls := "ChipfoldLaw", name := "picture", desc := "(LChipfold;II[J)I" } : Jvm.MethodName) method_30_code (5 : Nat) (Option.some Jvm.ClassFile.FieldType.int) [((0 : Nat), (10 : Nat), (13 : Nat), (21 : Nat))]) ∈ WG := wg_5 (List.mem_of_getElem? (i := 62) (by decide +kernel)) (by decide +kernel)
theorem q_677 : (Jvm.Cond.methodLink "ChipfoldLaw" (231 : Nat) ({ cls := "ChipfoldLaw", name := "picture", desc := "(LChipfold;II[J)I" } : Jvm.MethodName)) ∈ WG := wg_5 (List.mem_of_getElem? (i := 60) (by decide +kernel)) (by decide +kernel)
theorem q_678 : (Jvm.Cond.static ({ cls := "ChipfoldLaw", name := "picture", desc := "(LChipfold;II[J)I" } : Jvm.MethodName)) ∈ WG := wg_5 (List.mem_of_getElem? (i := 61) (by decide +kernel)) (by decide +kernel)
theorem dL_law_1744 : decode cL_law 1744 = .ok (.istore 6, 2) := by decide +kernel
theorem dL_law_1746 : decode cL_law 1746 = .ok (.aload_n 2, 1) := by decide +kernel
theorem dL_law_1747 : decode cL_law 1747 = .ok (.aload_n 0, 1) := by decide +kernel
theorem dL_law_1748 : decode cL_law 1748 = .ok (.iload 5, 2) := by decide +kernel
theorem dL_law_1750 : decode cL_law 1750 = .ok (.iconst 1, 1) := by decide +kernel
theorem dL_law_1751 : decode cL_law 1751 = .ok (.iadd, 1) := by decide +kernel
theorem dL_law_1752 : decode cL_law 1752 = .ok (.iaload, 1) := by decide +kernel
theorem dL_law_1753 : decode cL_law 1753 = .ok (.aload_n 0, 1) := by decide +kernel
theorem dL_law_1754 : decode cL_law 1754 = .ok (.iload 5, 2) := by decide +kernel
theorem dL_law_1756 : decode cL_law 1756 = .ok (.iconst 2, 1) := by decide +kernel
theorem dL_law_1757 : decode cL_law 1757 = .ok (.iadd, 1) := by decide +kernel
theorem dL_law_1758 : decode cL_law 1758 = .ok (.iaload, 1) := by decide +kernel
theorem dL_law_1759 : decode cL_law 1759 = .ok (.invokevirtual 233, 3) := by decide +kernel
theorem q_679 : (Jvm.Cond.code ({ cls := "ChipfoldModel", name := "picture", desc := "(II)I" } : Jvm.MethodName) prog_13_method_65_code (5 : Nat) (Option.some Jvm.ClassFile.FieldType.int)) ∈ WG := wg_7 (List.mem_of_getElem? (i := 121) rfl) rfl
theorem q_680 : (Jvm.Cond.selects "ChipfoldModel" ({ cls := "ChipfoldModel", name := "picture", desc := "(II)I" } : Jvm.MethodName) ({ cls := "ChipfoldModel", name := "picture", desc := "(II)I" } : Jvm.MethodName)) ∈ WG := wg_7 (List.mem_of_getElem? (i := 120) (by decide +kernel)) (by decide +kernel)
theorem q_681 : (Jvm.Cond.methodLink "ChipfoldLaw" (233 : Nat) ({ cls := "ChipfoldModel", name := "picture", desc := "(II)I" } : Jvm.MethodName)) ∈ WG := wg_7 (List.mem_of_getElem? (i := 118) (by decide +kernel)) (by decide +kernel)
theorem q_682 : (Jvm.Cond.instanceMethod ({ cls := "ChipfoldModel", name := "picture", desc := "(II)I" } : Jvm.MethodName)) ∈ WG := wg_7 (List.mem_of_getElem? (i := 119) (by decide +kernel)) (by decide +kernel)
theorem dL_law_1762 : decode cL_law 1762 = .ok (.istore 7, 2) := by decide +kernel
theorem dL_law_1764 : decode cL_law 1764 = .ok (.aload_n 2, 1) := by decide +kernel
theorem dL_law_1765 : decode cL_law 1765 = .ok (.invokevirtual 134, 3) := by decide +kernel
theorem dL_law_1768 : decode cL_law 1768 = .ok (.iload 6, 2) := by decide +kernel
theorem dL_law_1770 : decode cL_law 1770 = .ok (.if_icmp .eq 5, 3) := by decide +kernel
theorem dL_law_1775 : decode cL_law 1775 = .ok (.iload 6, 2) := by decide +kernel
theorem dL_law_1777 : decode cL_law 1777 = .ok (.ifCond .ne 15, 3) := by decide +kernel
theorem dL_law_1780 : decode cL_law 1780 = .ok (.aload_n 3, 1) := by decide +kernel
theorem dL_law_1781 : decode cL_law 1781 = .ok (.iconst 0, 1) := by decide +kernel
theorem dL_law_1782 : decode cL_law 1782 = .ok (.laload, 1) := by decide +kernel
theorem dL_law_1783 : decode cL_law 1783 = .ok (.iload 7, 2) := by decide +kernel
theorem dL_law_1785 : decode cL_law 1785 = .ok (.i2l, 1) := by decide +kernel
theorem dL_law_1786 : decode cL_law 1786 = .ok (.lcmp, 1) := by decide +kernel
theorem dL_law_1787 : decode cL_law 1787 = .ok (.ifCond .eq 5, 3) := by decide +kernel
theorem dL_law_1792 : decode cL_law 1792 = .ok (.goto 203, 3) := by decide +kernel
theorem dL_law_1795 : decode cL_law 1795 = .ok (.aload_n 1, 1) := by decide +kernel
theorem dL_law_1796 : decode cL_law 1796 = .ok (.aload_n 0, 1) := by decide +kernel
theorem dL_law_1797 : decode cL_law 1797 = .ok (.iload 5, 2) := by decide +kernel
theorem dL_law_1799 : decode cL_law 1799 = .ok (.iconst 1, 1) := by decide +kernel
theorem dL_law_1800 : decode cL_law 1800 = .ok (.iadd, 1) := by decide +kernel
theorem dL_law_1801 : decode cL_law 1801 = .ok (.iaload, 1) := by decide +kernel
theorem dL_law_1802 : decode cL_law 1802 = .ok (.aload_n 3, 1) := by decide +kernel
theorem dL_law_1803 : decode cL_law 1803 = .ok (.invokestatic 234, 3) := by decide +kernel
theorem q_683 : (Jvm.Cond.codeWith ({ cls := "ChipfoldLaw", name := "pixel", desc := "(LChipfold;I[J)I" } : Jvm.MethodName) method_31_code (4 : Nat) (Option.some Jvm.ClassFile.FieldType.int) [((0 : Nat), (9 : Nat), (12 : Nat), (112 : Nat)), ((0 : Nat), (9 : Nat), (15 : Nat), (19 : Nat))]) ∈ WG := wg_5 (List.mem_of_getElem? (i := 87) (by decide +kernel)) (by decide +kernel)
theorem q_684 : (Jvm.Cond.methodLink "ChipfoldLaw" (234 : Nat) ({ cls := "ChipfoldLaw", name := "pixel", desc := "(LChipfold;I[J)I" } : Jvm.MethodName)) ∈ WG := wg_5 (List.mem_of_getElem? (i := 85) (by decide +kernel)) (by decide +kernel)
theorem q_685 : (Jvm.Cond.static ({ cls := "ChipfoldLaw", name := "pixel", desc := "(LChipfold;I[J)I" } : Jvm.MethodName)) ∈ WG := wg_5 (List.mem_of_getElem? (i := 86) (by decide +kernel)) (by decide +kernel)
theorem dL_law_1806 : decode cL_law 1806 = .ok (.istore 6, 2) := by decide +kernel
theorem dL_law_1808 : decode cL_law 1808 = .ok (.aload_n 2, 1) := by decide +kernel
theorem dL_law_1809 : decode cL_law 1809 = .ok (.aload_n 0, 1) := by decide +kernel
theorem dL_law_1810 : decode cL_law 1810 = .ok (.iload 5, 2) := by decide +kernel
theorem dL_law_1812 : decode cL_law 1812 = .ok (.iconst 1, 1) := by decide +kernel
theorem dL_law_1813 : decode cL_law 1813 = .ok (.iadd, 1) := by decide +kernel
theorem dL_law_1814 : decode cL_law 1814 = .ok (.iaload, 1) := by decide +kernel
theorem dL_law_1815 : decode cL_law 1815 = .ok (.invokevirtual 236, 3) := by decide +kernel
theorem q_686 : (Jvm.Cond.code ({ cls := "ChipfoldModel", name := "pixel", desc := "(I)I" } : Jvm.MethodName) prog_13_method_66_code (2 : Nat) (Option.some Jvm.ClassFile.FieldType.int)) ∈ WG := wg_7 (List.mem_of_getElem? (i := 125) rfl) rfl
theorem q_687 : (Jvm.Cond.selects "ChipfoldModel" ({ cls := "ChipfoldModel", name := "pixel", desc := "(I)I" } : Jvm.MethodName) ({ cls := "ChipfoldModel", name := "pixel", desc := "(I)I" } : Jvm.MethodName)) ∈ WG := wg_7 (List.mem_of_getElem? (i := 124) (by decide +kernel)) (by decide +kernel)
theorem q_688 : (Jvm.Cond.methodLink "ChipfoldLaw" (236 : Nat) ({ cls := "ChipfoldModel", name := "pixel", desc := "(I)I" } : Jvm.MethodName)) ∈ WG := wg_7 (List.mem_of_getElem? (i := 122) (by decide +kernel)) (by decide +kernel)
theorem q_689 : (Jvm.Cond.instanceMethod ({ cls := "ChipfoldModel", name := "pixel", desc := "(I)I" } : Jvm.MethodName)) ∈ WG := wg_7 (List.mem_of_getElem? (i := 123) (by decide +kernel)) (by decide +kernel)
theorem dL_law_1818 : decode cL_law 1818 = .ok (.istore 7, 2) := by decide +kernel
theorem dL_law_1820 : decode cL_law 1820 = .ok (.aload_n 2, 1) := by decide +kernel
theorem dL_law_1821 : decode cL_law 1821 = .ok (.invokevirtual 134, 3) := by decide +kernel
theorem dL_law_1824 : decode cL_law 1824 = .ok (.iload 6, 2) := by decide +kernel
theorem dL_law_1826 : decode cL_law 1826 = .ok (.if_icmp .eq 5, 3) := by decide +kernel
theorem dL_law_1831 : decode cL_law 1831 = .ok (.iload 6, 2) := by decide +kernel
theorem dL_law_1833 : decode cL_law 1833 = .ok (.ifCond .ne 15, 3) := by decide +kernel
theorem dL_law_1848 : decode cL_law 1848 = .ok (.goto 147, 3) := by decide +kernel
theorem dL_law_1851 : decode cL_law 1851 = .ok (.aload_n 1, 1) := by decide +kernel
theorem dL_law_1852 : decode cL_law 1852 = .ok (.aload 4, 2) := by decide +kernel
theorem dL_law_1854 : decode cL_law 1854 = .ok (.invokestatic 237, 3) := by decide +kernel
theorem q_690 : (Jvm.Cond.codeWith ({ cls := "ChipfoldLaw", name := "settledShare", desc := "(LChipfold;[D)I" } : Jvm.MethodName) method_32_code (3 : Nat) (Option.some Jvm.ClassFile.FieldType.int) [((0 : Nat), (8 : Nat), (11 : Nat), (118 : Nat))]) ∈ WG := wg_5 (List.mem_of_getElem? (i := 117) (by decide +kernel)) (by decide +kernel)
theorem q_691 : (Jvm.Cond.methodLink "ChipfoldLaw" (237 : Nat) ({ cls := "ChipfoldLaw", name := "settledShare", desc := "(LChipfold;[D)I" } : Jvm.MethodName)) ∈ WG := wg_5 (List.mem_of_getElem? (i := 115) (by decide +kernel)) (by decide +kernel)
theorem q_692 : (Jvm.Cond.static ({ cls := "ChipfoldLaw", name := "settledShare", desc := "(LChipfold;[D)I" } : Jvm.MethodName)) ∈ WG := wg_5 (List.mem_of_getElem? (i := 116) (by decide +kernel)) (by decide +kernel)
theorem dL_law_1857 : decode cL_law 1857 = .ok (.istore 6, 2) := by decide +kernel
theorem dL_law_1859 : decode cL_law 1859 = .ok (.aload_n 2, 1) := by decide +kernel
theorem dL_law_1860 : decode cL_law 1860 = .ok (.invokevirtual 240, 3) := by decide +kernel
theorem q_693 : (Jvm.Cond.code ({ cls := "ChipfoldModel", name := "settledShare", desc := "()F" } : Jvm.MethodName) prog_13_method_67_code (3 : Nat) (Option.some Jvm.ClassFile.FieldType.float)) ∈ WG := wg_7 (List.mem_of_getElem? (i := 129) rfl) rfl
theorem q_694 : (Jvm.Cond.selects "ChipfoldModel" ({ cls := "ChipfoldModel", name := "settledShare", desc := "()F" } : Jvm.MethodName) ({ cls := "ChipfoldModel", name := "settledShare", desc := "()F" } : Jvm.MethodName)) ∈ WG := wg_7 (List.mem_of_getElem? (i := 128) (by decide +kernel)) (by decide +kernel)
theorem q_695 : (Jvm.Cond.methodLink "ChipfoldLaw" (240 : Nat) ({ cls := "ChipfoldModel", name := "settledShare", desc := "()F" } : Jvm.MethodName)) ∈ WG := wg_7 (List.mem_of_getElem? (i := 126) (by decide +kernel)) (by decide +kernel)
theorem q_696 : (Jvm.Cond.instanceMethod ({ cls := "ChipfoldModel", name := "settledShare", desc := "()F" } : Jvm.MethodName)) ∈ WG := wg_7 (List.mem_of_getElem? (i := 127) (by decide +kernel)) (by decide +kernel)
theorem dL_law_1863 : decode cL_law 1863 = .ok (.fstore 7, 2) := by decide +kernel
theorem dL_law_1865 : decode cL_law 1865 = .ok (.aload_n 2, 1) := by decide +kernel
theorem dL_law_1866 : decode cL_law 1866 = .ok (.invokevirtual 134, 3) := by decide +kernel
theorem dL_law_1869 : decode cL_law 1869 = .ok (.iload 6, 2) := by decide +kernel
theorem dL_law_1871 : decode cL_law 1871 = .ok (.if_icmp .eq 5, 3) := by decide +kernel
theorem dL_law_1876 : decode cL_law 1876 = .ok (.iload 6, 2) := by decide +kernel
theorem dL_law_1878 : decode cL_law 1878 = .ok (.ifCond .ne 36, 3) := by decide +kernel
theorem dL_law_1914 : decode cL_law 1914 = .ok (.goto 81, 3) := by decide +kernel
theorem dL_law_1917 : decode cL_law 1917 = .ok (.aload_n 1, 1) := by decide +kernel
theorem dL_law_1918 : decode cL_law 1918 = .ok (.aload 4, 2) := by decide +kernel
theorem dL_law_1920 : decode cL_law 1920 = .ok (.invokestatic 241, 3) := by decide +kernel
theorem q_697 : (Jvm.Cond.codeWith ({ cls := "ChipfoldLaw", name := "meanChips", desc := "(LChipfold;[D)I" } : Jvm.MethodName) method_33_code (3 : Nat) (Option.some Jvm.ClassFile.FieldType.int) [((0 : Nat), (7 : Nat), (10 : Nat), (118 : Nat))]) ∈ WG := wg_5 (List.mem_of_getElem? (i := 143) (by decide +kernel)) (by decide +kernel)
theorem q_698 : (Jvm.Cond.methodLink "ChipfoldLaw" (241 : Nat) ({ cls := "ChipfoldLaw", name := "meanChips", desc := "(LChipfold;[D)I" } : Jvm.MethodName)) ∈ WG := wg_5 (List.mem_of_getElem? (i := 141) (by decide +kernel)) (by decide +kernel)
theorem q_699 : (Jvm.Cond.static ({ cls := "ChipfoldLaw", name := "meanChips", desc := "(LChipfold;[D)I" } : Jvm.MethodName)) ∈ WG := wg_5 (List.mem_of_getElem? (i := 142) (by decide +kernel)) (by decide +kernel)
theorem dL_law_1923 : decode cL_law 1923 = .ok (.istore 6, 2) := by decide +kernel
theorem dL_law_1925 : decode cL_law 1925 = .ok (.aload_n 2, 1) := by decide +kernel
theorem dL_law_1926 : decode cL_law 1926 = .ok (.invokevirtual 243, 3) := by decide +kernel
theorem q_700 : (Jvm.Cond.code ({ cls := "ChipfoldModel", name := "meanChips", desc := "()D" } : Jvm.MethodName) prog_13_method_68_code (3 : Nat) (Option.some Jvm.ClassFile.FieldType.double)) ∈ WG := wg_7 (List.mem_of_getElem? (i := 133) rfl) rfl
theorem q_701 : (Jvm.Cond.selects "ChipfoldModel" ({ cls := "ChipfoldModel", name := "meanChips", desc := "()D" } : Jvm.MethodName) ({ cls := "ChipfoldModel", name := "meanChips", desc := "()D" } : Jvm.MethodName)) ∈ WG := wg_7 (List.mem_of_getElem? (i := 132) (by decide +kernel)) (by decide +kernel)
theorem q_702 : (Jvm.Cond.methodLink "ChipfoldLaw" (243 : Nat) ({ cls := "ChipfoldModel", name := "meanChips", desc := "()D" } : Jvm.MethodName)) ∈ WG := wg_7 (List.mem_of_getElem? (i := 130) (by decide +kernel)) (by decide +kernel)
theorem q_703 : (Jvm.Cond.instanceMethod ({ cls := "ChipfoldModel", name := "meanChips", desc := "()D" } : Jvm.MethodName)) ∈ WG := wg_7 (List.mem_of_getElem? (i := 131) (by decide +kernel)) (by decide +kernel)
theorem dL_law_1929 : decode cL_law 1929 = .ok (.dstore 7, 2) := by decide +kernel
theorem dL_law_1931 : decode cL_law 1931 = .ok (.aload_n 2, 1) := by decide +kernel
theorem dL_law_1932 : decode cL_law 1932 = .ok (.invokevirtual 134, 3) := by decide +kernel
theorem dL_law_1935 : decode cL_law 1935 = .ok (.iload 6, 2) := by decide +kernel
theorem dL_law_1937 : decode cL_law 1937 = .ok (.if_icmp .eq 5, 3) := by decide +kernel
theorem dL_law_1942 : decode cL_law 1942 = .ok (.iload 6, 2) := by decide +kernel
theorem dL_law_1944 : decode cL_law 1944 = .ok (.ifCond .ne 35, 3) := by decide +kernel
theorem dL_law_1979 : decode cL_law 1979 = .ok (.goto 16, 3) := by decide +kernel
theorem dL_law_1982 : decode cL_law 1982 = .ok (.aload_n 1, 1) := by decide +kernel
theorem dL_law_1983 : decode cL_law 1983 = .ok (.invokevirtual 244, 3) := by decide +kernel
theorem q_704 : (Jvm.Cond.code ({ cls := "Chipfold", name := "isSound", desc := "()Z" } : Jvm.MethodName) prog_1_method_36_code (2 : Nat) (Option.some Jvm.ClassFile.FieldType.boolean)) ∈ WG := wg_2 (List.mem_of_getElem? (i := 104) rfl) rfl
theorem q_705 : (Jvm.Cond.selects "Chipfold" ({ cls := "Chipfold", name := "isSound", desc := "()Z" } : Jvm.MethodName) ({ cls := "Chipfold", name := "isSound", desc := "()Z" } : Jvm.MethodName)) ∈ WG := wg_2 (List.mem_of_getElem? (i := 103) (by decide +kernel)) (by decide +kernel)
theorem q_706 : (Jvm.Cond.methodLink "ChipfoldLaw" (244 : Nat) ({ cls := "Chipfold", name := "isSound", desc := "()Z" } : Jvm.MethodName)) ∈ WG := wg_2 (List.mem_of_getElem? (i := 101) (by decide +kernel)) (by decide +kernel)
theorem q_707 : (Jvm.Cond.instanceMethod ({ cls := "Chipfold", name := "isSound", desc := "()Z" } : Jvm.MethodName)) ∈ WG := wg_2 (List.mem_of_getElem? (i := 102) (by decide +kernel)) (by decide +kernel)
theorem dL_law_1986 : decode cL_law 1986 = .ok (.aload_n 2, 1) := by decide +kernel
theorem dL_law_1987 : decode cL_law 1987 = .ok (.invokevirtual 247, 3) := by decide +kernel
theorem q_708 : (Jvm.Cond.code ({ cls := "ChipfoldModel", name := "isSound", desc := "()Z" } : Jvm.MethodName) prog_13_method_69_code (1 : Nat) (Option.some Jvm.ClassFile.FieldType.boolean)) ∈ WG := wg_7 (List.mem_of_getElem? (i := 137) rfl) rfl
theorem q_709 : (Jvm.Cond.selects "ChipfoldModel" ({ cls := "ChipfoldModel", name := "isSound", desc := "()Z" } : Jvm.MethodName) ({ cls := "ChipfoldModel", name := "isSound", desc := "()Z" } : Jvm.MethodName)) ∈ WG := wg_7 (List.mem_of_getElem? (i := 136) (by decide +kernel)) (by decide +kernel)
theorem q_710 : (Jvm.Cond.methodLink "ChipfoldLaw" (247 : Nat) ({ cls := "ChipfoldModel", name := "isSound", desc := "()Z" } : Jvm.MethodName)) ∈ WG := wg_7 (List.mem_of_getElem? (i := 134) (by decide +kernel)) (by decide +kernel)
theorem q_711 : (Jvm.Cond.instanceMethod ({ cls := "ChipfoldModel", name := "isSound", desc := "()Z" } : Jvm.MethodName)) ∈ WG := wg_7 (List.mem_of_getElem? (i := 135) (by decide +kernel)) (by decide +kernel)
theorem dL_law_1990 : decode cL_law 1990 = .ok (.if_icmp .eq 5, 3) := by decide +kernel
set_option maxRecDepth 100000 in
set_option maxHeartbeats 1000000 in
theorem law_end {p : Program} {l : Launch} {e : Env} {s : State} {m : MethodId} {below : List Frame} {meth : Method} {c : Code} {D : va_G} {k : Nat → ClassId} {b : Nat} {xs : Nat → Int32} (C : Cx p l s m #[Value.ref b] c D k (va_A [] s.heap.size) cL_law RL 9) (hr : meth.sig.returnType = some .boolean) (hlk : meth.locks = false) (hX : va_X b 4 xs s s.heap) (hbl : b < s.heap.size) (hbA : ¬ va_A [] s.heap.size b)   : G p l e room_1 s m #[Value.ref b] below meth c D 9 (va_A [] s.heap.size) (lw_Z below #[Value.ref b] s) [] [(0, .ref b), (5, .int (nI 0))] 400 3000 0 1995 [] := by
  refine g_iinc (pc := 1995) (n := 4) (v := (nI 4)) C 1 [(5, .int (nI 4)), (0, .ref b)] rfl (by rw [show Int32.ofInt 4 = nI 4 from by decide]; exact nI_add _ _) dL_law_1995 (by decide) rfl ?_
  refine g_goto (pc := 1998) C 28 (by decide) dL_law_1998 ?_
  refine g_iload (pc := 28) C 0 rfl dL_law_28 ?_
  refine g_aload_n (pc := 30) C 1 rfl rfl dL_law_30 ?_
  refine g_slen (pc := 31) C hX hbl hbA dL_law_31 ?_
  refine g_iconst (pc := 32) (v := 4) C (by decide) dL_law_32 ?_
  refine g_isub (pc := 33) C dL_law_33 ?_
  refine G.eqs (st' := [.int (nI 0), .int (nI 4)]) (congrArg (β := List Value) (fun z9 => [.int z9, .int (nI 4)]) (show (((nI 4) - 4) : Int32) = (nI 0) from by decide)) ?_
  refine g_icmp_gt (pc := 34) C 2001 (by decide) dL_law_34 (fun c_34 => ?_) (fun c_34 => ?_)
  · refine g_iconst (pc := 2001) (v := 1) C (by decide) dL_law_2001 ?_
    exact g_lawret (pc := 2002) C hr hlk (by decide) (by decide) dL_law_2002
  · exact absurd c_34 (by decide)
set_option maxRecDepth 100000 in
set_option maxHeartbeats 1000000 in
theorem law_short {p : Program} {l : Launch} {e : Env} {s : State} {m : MethodId} {below : List Frame} {meth : Method} {c : Code} {D : va_G} {k : Nat → ClassId} {b : Nat} {L : Nat} {xs : Nat → Int32} (C : Cx p l s m #[Value.ref b] c D k (va_A [] s.heap.size) cL_law RL 9) (hr : meth.sig.returnType = some .boolean) (hlk : meth.locks = false) (hX : va_X b L xs s s.heap) (hbl : b < s.heap.size) (hbA : ¬ va_A [] s.heap.size b)  (hL : L < 4) : G p l e room_1 s m #[Value.ref b] below meth c D 9 (va_A [] s.heap.size) (lw_Z below #[Value.ref b] s) [] [(0, .ref b), (5, .int (nI 0))] 400 3000 0 28 [] := by
  refine g_iload (pc := 28) C 1 rfl dL_law_28 ?_
  refine g_aload_n (pc := 30) C 0 rfl rfl dL_law_30 ?_
  refine g_slen (pc := 31) C hX hbl hbA dL_law_31 ?_
  refine g_iconst (pc := 32) (v := 4) C (by decide) dL_law_32 ?_
  refine g_isub (pc := 33) C dL_law_33 ?_
  refine g_icmp_gt (pc := 34) C 2001 (by decide) dL_law_34 (fun c_34 => ?_) (fun c_34 => ?_)
  · refine g_iconst (pc := 2001) (v := 1) C (by decide) dL_law_2001 ?_
    exact g_lawret (pc := 2002) C hr hlk (by decide) (by decide) dL_law_2002
  · exact absurd (show (nI L - 4 : Int32) < nI 0 by rcases (show L = 0 ∨ L = 1 ∨ L = 2 ∨ L = 3 by omega) with rfl | rfl | rfl | rfl <;> decide) c_34
set_option maxRecDepth 100000 in
set_option maxHeartbeats 1000000 in
theorem law_c0 {p : Program} {l : Launch} {e : Env} {s : State} {m : MethodId} {below : List Frame} {meth : Method} {c : Code} {D : va_G} {k : Nat → ClassId} {b : Nat} {xs : Nat → Int32} (C : Cx p l s m #[Value.ref b] c D k (va_A [] s.heap.size) cL_law RL 9) (hr : meth.sig.returnType = some .boolean) (hlk : meth.locks = false) (hX : va_X b 4 xs s s.heap) (hbl : b < s.heap.size) (hbA : ¬ va_A [] s.heap.size b) (a1 : Nat) (a2 : Nat) (b1 : Nat) (b2 : Nat) (c1 : Nat) (c2 : Nat) (c3 : Nat) (c4 : Nat) (c5 : Nat) (dd : Nat) (e0 : Nat) (h : Nat) (jj : Nat) (mo : Nat) (o : Nat) (o0 : Nat) (o1 : Nat) (o2 : Nat) (o4 : Nat) (o7 : Nat) (o9 : Nat) (od : Nat) (oo : Nat) (pp : Nat) (r1 : Nat) (r2 : Nat) (s1 : Nat) (s2 : Nat) (t1 : Nat) (t2 : Nat) (t3 : Nat) (t4 : Nat) (t5 : Nat) (u1 : Nat) (x2 : Nat) (x3 : Nat) (x4 : Nat)  : G p l e room_1 s m #[Value.ref b] below meth c D 9 (va_A [] s.heap.size) (lw_Z below #[Value.ref b] s) [(o, .inr (14, [.ref h, .ref pp, .ref x2, .ref x3, .ref x4, .ref o2, .ref o4, .ref o9, .ref o7, .ref o0, .ref o1])), (h, .inr (7, [.ref jj, .ref dd, .int (nI 0), .int (nI 0)])), (jj, aI k 36 (fun _ => 0)), (dd, aI k 6 (fun _ => 0)), (pp, .inr (10, [.ref h, .ref r1, .ref r2, .int 0])), (r1, .inr (12, [.ref a1])), (a1, aI k 6 (fun _ => 0)), (r2, .inr (12, [.ref a2])), (a2, aI k 6 (fun _ => 0)), (o7, .inr (11, [.ref h, .ref s1, .ref s2])), (s1, .inr (12, [.ref b1])), (b1, aI k 6 (fun _ => 0)), (s2, .inr (12, [.ref b2])), (b2, aI k 6 (fun _ => 0)), (o0, .inr (4, [.ref h, .ref o2, .ref t1, .ref t2, .ref t3, .ref t4, .ref t5])), (t1, .inr (12, [.ref u1])), (u1, aI k 6 (fun _ => 0)), (oo, aJ k 1 (fun _ => 0)), (mo, .inr (15, [.ref e0, .ref c1, .ref c2, .ref c3, .ref c4, .ref c5, .null, .int (nI 0), .int (nI 0), .int 0, .int 0, .int 0]))] [(0, .ref b), (1, .ref o), (2, .ref mo), (3, .ref oo), (4, .ref od), (5, .int (nI 0))] 300 2000 0 200 [] := by
  refine g_aload_n (pc := 200) C 1 rfl rfl dL_law_200 ?_
  refine g_aload_n (pc := 201) C 3 rfl rfl dL_law_201 ?_
  refine g_callSW (pc := 202) (cells := 300) (slots := 2000) (g := 0) (As := [.ref o, .ref oo]) (st := []) (b := 0) C (nA := 2) rfl (c_L_vertex o h pp x2 x3 x4 o2 o4 o9 o7 o0 o1 jj dd 0 0 (fun _ => 0) (fun _ => 0) r1 a1 r2 a2 (fun _ => 0) (fun _ => 0) 0 s1 b1 s2 b2 (fun _ => 0) (fun _ => 0) t1 t2 t3 t4 t5 u1 (fun _ => 0) oo (fun _ => 0) (by first | assumption | decide | omega)) q_460 q_461 q_459 q_458 (by decide +kernel) dL_law_202 ⟨Nat.le_of_ble_eq_true rfl, Nat.le_of_ble_eq_true rfl⟩ [0, 1, 2, 3, 4, 5, 6, 7, 8, 9, 10, 11, 12, 13, 14, 15, 16, 17] [18] rfl (wr := [(mo, .inr (15, [.ref e0, .ref c1, .ref c2, .ref c3, .ref c4, .ref c5, .null, .int (nI 0), .int (nI 0), .int 0, .int 0, .int 0]))]) rfl (by decide) (by decide) (by decide) (Nat.le_of_ble_eq_true rfl) ⟨Nat.le_of_ble_eq_true rfl, Nat.le_of_ble_eq_true rfl⟩ (fun rv w1 h1 => ?_)
  obtain ⟨rfl, rfl⟩ := h1
  refine G.aft [1, 2, 3, 4, 5, 6, 7, 8, 9, 10, 11, 12, 13, 14, 15, 16, 17, 18, 0] (ws' := [(o, .inr (14, [.ref h, .ref pp, .ref x2, .ref x3, .ref x4, .ref o2, .ref o4, .ref o9, .ref o7, .ref o0, .ref o1])), (h, .inr (7, [.ref jj, .ref dd, .int (nI (0 + 1)), .int (nI 0)])), (jj, aI k 36 (fun _ => 0)), (dd, aI k 6 (fun _ => 0)), (pp, .inr (10, [.ref h, .ref r1, .ref r2, .int 0])), (r1, .inr (12, [.ref a1])), (a1, aI k 6 (fun _ => 0)), (r2, .inr (12, [.ref a2])), (a2, aI k 6 (fun _ => 0)), (o7, .inr (11, [.ref h, .ref s1, .ref s2])), (s1, .inr (12, [.ref b1])), (b1, aI k 6 (fun _ => 0)), (s2, .inr (12, [.ref b2])), (b2, aI k 6 (fun _ => 0)), (o0, .inr (4, [.ref h, .ref o2, .ref t1, .ref t2, .ref t3, .ref t4, .ref t5])), (t1, .inr (12, [.ref u1])), (u1, aI k 6 (fun _ => 0)), (oo, aJ k 1 (fun _ => (nI 0).toInt64)), (mo, .inr (15, [.ref e0, .ref c1, .ref c2, .ref c3, .ref c4, .ref c5, .null, .int (nI 0), .int (nI 0), .int 0, .int 0, .int 0]))]) (st' := [.int 0]) (cells' := 300) (slots' := 2000) (g' := 0) (by decide) rfl rfl rfl rfl rfl ?_
  refine g_istore (pc := 205) C [(6, .int 0), (0, .ref b), (1, .ref o), (2, .ref mo), (3, .ref oo), (4, .ref od), (5, .int (nI 0))] dL_law_205 (by decide) rfl ?_
  refine g_aload_n (pc := 207) C 3 rfl rfl dL_law_207 ?_
  refine g_callV (pc := 208) (cells := 300) (slots := 2000) (g := 0) (As := []) (st := []) (T := TX11) (q0 := 18) C (nA := 0) rfl (c_X11_vertex mo e0 c1 c2 c3 c4 c5 0 ) q_464 q_465 q_463 q_265 q_462 (by decide +kernel) rfl rfl dL_law_208 ⟨Nat.le_of_ble_eq_true rfl, Nat.le_of_ble_eq_true rfl⟩ [18] [0, 1, 2, 3, 4, 5, 6, 7, 8, 9, 10, 11, 12, 13, 14, 15, 16, 17] rfl (wr := [(o, .inr (14, [.ref h, .ref pp, .ref x2, .ref x3, .ref x4, .ref o2, .ref o4, .ref o9, .ref o7, .ref o0, .ref o1])), (h, .inr (7, [.ref jj, .ref dd, .int (nI (0 + 1)), .int (nI 0)])), (jj, aI k 36 (fun _ => 0)), (dd, aI k 6 (fun _ => 0)), (pp, .inr (10, [.ref h, .ref r1, .ref r2, .int 0])), (r1, .inr (12, [.ref a1])), (a1, aI k 6 (fun _ => 0)), (r2, .inr (12, [.ref a2])), (a2, aI k 6 (fun _ => 0)), (o7, .inr (11, [.ref h, .ref s1, .ref s2])), (s1, .inr (12, [.ref b1])), (b1, aI k 6 (fun _ => 0)), (s2, .inr (12, [.ref b2])), (b2, aI k 6 (fun _ => 0)), (o0, .inr (4, [.ref h, .ref o2, .ref t1, .ref t2, .ref t3, .ref t4, .ref t5])), (t1, .inr (12, [.ref u1])), (u1, aI k 6 (fun _ => 0)), (oo, aJ k 1 (fun _ => (nI 0).toInt64))]) rfl (by decide) (by decide) (by decide) (Nat.le_of_ble_eq_true rfl) ⟨Nat.le_of_ble_eq_true rfl, Nat.le_of_ble_eq_true rfl⟩ (fun rv w1 h1 => ?_)
  obtain ⟨rfl, q1, q2, q3, q4, q5, rfl⟩ := h1
  refine G.aft [0, 1, 2, 3, 4, 5, 6, 7, 8, 9, 10, 11, 12, 13, 14, 15, 16, 17, 18, 19, 20, 21, 22, 23] (ws' := [(o, .inr (14, [.ref h, .ref pp, .ref x2, .ref x3, .ref x4, .ref o2, .ref o4, .ref o9, .ref o7, .ref o0, .ref o1])), (h, .inr (7, [.ref jj, .ref dd, .int (nI (0 + 1)), .int (nI 0)])), (jj, aI k 36 (fun _ => 0)), (dd, aI k 6 (fun _ => 0)), (pp, .inr (10, [.ref h, .ref r1, .ref r2, .int 0])), (r1, .inr (12, [.ref a1])), (a1, aI k 6 (fun _ => 0)), (r2, .inr (12, [.ref a2])), (a2, aI k 6 (fun _ => 0)), (o7, .inr (11, [.ref h, .ref s1, .ref s2])), (s1, .inr (12, [.ref b1])), (b1, aI k 6 (fun _ => 0)), (s2, .inr (12, [.ref b2])), (b2, aI k 6 (fun _ => 0)), (o0, .inr (4, [.ref h, .ref o2, .ref t1, .ref t2, .ref t3, .ref t4, .ref t5])), (t1, .inr (12, [.ref u1])), (u1, aI k 6 (fun _ => 0)), (oo, aJ k 1 (fun _ => (nI 0).toInt64)), (mo, .inr (15, [.ref e0, .ref q1, .ref q2, .ref q3, .ref q4, .ref q5, .null, .int (nI 1), .int (nI 0), .int 0, .int 0, .int 0])), (q1, aI k 6 (fun _ => 0)), (q2, aI k 6 (fun _ => 0)), (q3, aI k 6 (fun _ => 0)), (q4, aI k 6 (fun _ => 0)), (q5, aI k 6 (fun _ => 0))]) (st' := [.int (nI 0)]) (cells' := 305) (slots' := 2030) (g' := 5) (by decide) rfl rfl rfl rfl rfl ?_
  refine g_istore (pc := 211) C [(7, .int (nI 0)), (6, .int 0), (0, .ref b), (1, .ref o), (2, .ref mo), (3, .ref oo), (4, .ref od), (5, .int (nI 0))] dL_law_211 (by decide) rfl ?_
  refine g_aload_n (pc := 213) C 4 rfl rfl dL_law_213 ?_
  refine g_callV (pc := 214) (cells := 305) (slots := 2030) (g := 5) (As := []) (st := []) (T := TX11) (q0 := 18) C (nA := 0) rfl (c_X11_thrown mo e0 q1 q2 q3 q4 q5 0 (nI 1) (nI 0) 0 0 ) q_468 q_469 q_467 q_265 q_466 (by decide +kernel) rfl rfl dL_law_214 ⟨Nat.le_of_ble_eq_true rfl, Nat.le_of_ble_eq_true rfl⟩ [18] [0, 1, 2, 3, 4, 5, 6, 7, 8, 9, 10, 11, 12, 13, 14, 15, 16, 17, 19, 20, 21, 22, 23] rfl (wr := [(o, .inr (14, [.ref h, .ref pp, .ref x2, .ref x3, .ref x4, .ref o2, .ref o4, .ref o9, .ref o7, .ref o0, .ref o1])), (h, .inr (7, [.ref jj, .ref dd, .int (nI (0 + 1)), .int (nI 0)])), (jj, aI k 36 (fun _ => 0)), (dd, aI k 6 (fun _ => 0)), (pp, .inr (10, [.ref h, .ref r1, .ref r2, .int 0])), (r1, .inr (12, [.ref a1])), (a1, aI k 6 (fun _ => 0)), (r2, .inr (12, [.ref a2])), (a2, aI k 6 (fun _ => 0)), (o7, .inr (11, [.ref h, .ref s1, .ref s2])), (s1, .inr (12, [.ref b1])), (b1, aI k 6 (fun _ => 0)), (s2, .inr (12, [.ref b2])), (b2, aI k 6 (fun _ => 0)), (o0, .inr (4, [.ref h, .ref o2, .ref t1, .ref t2, .ref t3, .ref t4, .ref t5])), (t1, .inr (12, [.ref u1])), (u1, aI k 6 (fun _ => 0)), (oo, aJ k 1 (fun _ => (nI 0).toInt64)), (q1, aI k 6 (fun _ => 0)), (q2, aI k 6 (fun _ => 0)), (q3, aI k 6 (fun _ => 0)), (q4, aI k 6 (fun _ => 0)), (q5, aI k 6 (fun _ => 0))]) rfl (by decide) (by decide) (by decide) (Nat.le_of_ble_eq_true rfl) ⟨Nat.le_of_ble_eq_true rfl, Nat.le_of_ble_eq_true rfl⟩ (fun rv w1 h1 => ?_)
  obtain ⟨rfl, rfl⟩ := h1
  refine G.aft [0, 1, 2, 3, 4, 5, 6, 7, 8, 9, 10, 11, 12, 13, 14, 15, 16, 17, 23, 18, 19, 20, 21, 22] (ws' := [(o, .inr (14, [.ref h, .ref pp, .ref x2, .ref x3, .ref x4, .ref o2, .ref o4, .ref o9, .ref o7, .ref o0, .ref o1])), (h, .inr (7, [.ref jj, .ref dd, .int (nI (0 + 1)), .int (nI 0)])), (jj, aI k 36 (fun _ => 0)), (dd, aI k 6 (fun _ => 0)), (pp, .inr (10, [.ref h, .ref r1, .ref r2, .int 0])), (r1, .inr (12, [.ref a1])), (a1, aI k 6 (fun _ => 0)), (r2, .inr (12, [.ref a2])), (a2, aI k 6 (fun _ => 0)), (o7, .inr (11, [.ref h, .ref s1, .ref s2])), (s1, .inr (12, [.ref b1])), (b1, aI k 6 (fun _ => 0)), (s2, .inr (12, [.ref b2])), (b2, aI k 6 (fun _ => 0)), (o0, .inr (4, [.ref h, .ref o2, .ref t1, .ref t2, .ref t3, .ref t4, .ref t5])), (t1, .inr (12, [.ref u1])), (u1, aI k 6 (fun _ => 0)), (oo, aJ k 1 (fun _ => (nI 0).toInt64)), (mo, .inr (15, [.ref e0, .ref q1, .ref q2, .ref q3, .ref q4, .ref q5, .null, .int (nI 1), .int (nI 0), .int 0, .int 0, .int 0])), (q1, aI k 6 (fun _ => 0)), (q2, aI k 6 (fun _ => 0)), (q3, aI k 6 (fun _ => 0)), (q4, aI k 6 (fun _ => 0)), (q5, aI k 6 (fun _ => 0))]) (st' := [.int 0]) (cells' := 305) (slots' := 2030) (g' := 5) (by decide) rfl rfl rfl rfl rfl ?_
  refine g_iload (pc := 217) C 1 rfl dL_law_217 ?_
  refine g_icmp_eq (pc := 219) C 224 (by decide) dL_law_219 (fun c_219 => ?_) (fun c_219 => ?_)
  · refine g_iload (pc := 224) C 1 rfl dL_law_224 ?_
    refine g_if_ne (pc := 226) C 241 (by decide) dL_law_226 (fun c_226 => ?_) (fun c_226 => ?_)
    · exact absurd c_226 (by decide)
    · refine g_aload_n (pc := 229) C 5 rfl rfl dL_law_229 ?_
      refine g_iconst (pc := 230) (v := 0) C (by decide) dL_law_230 ?_
      refine g_lald_n (pc := 231) C (j := 0) 17 rfl (by omega) (by first | decide | omega) rfl dL_law_231 ?_
      refine g_iload (pc := 232) C 0 rfl dL_law_232 ?_
      refine g_i2l (pc := 234) C dL_law_234 ?_
      refine g_lcmp (pc := 235) C dL_law_235 ?_
      refine g_if_eq (pc := 236) C 241 (by decide) dL_law_236 (fun c_236 => ?_) (fun c_236 => ?_)
      · refine g_goto (pc := 241) C 1995 (by decide) dL_law_241 ?_
        refine G.re [] (ws' := []) (by decide) rfl ?_
        refine G.loc [2, 7] (lv' := [(0, .ref b), (5, .int (nI 0))]) rfl ?_
        refine G.widen (k' := 400) (n' := 3000) (g' := 0) (by decide) (by decide) (Nat.zero_le _) ?_
        exact law_end C hr hlk hX hbl hbA
      · exact absurd (lg_cmp_e _) c_236
  · exact absurd c_219 (by decide)
set_option maxRecDepth 100000 in
set_option maxHeartbeats 1000000 in
theorem law_c1 {p : Program} {l : Launch} {e : Env} {s : State} {m : MethodId} {below : List Frame} {meth : Method} {c : Code} {D : va_G} {k : Nat → ClassId} {b : Nat} {xs : Nat → Int32} (C : Cx p l s m #[Value.ref b] c D k (va_A [] s.heap.size) cL_law RL 9) (hr : meth.sig.returnType = some .boolean) (hlk : meth.locks = false) (hX : va_X b 4 xs s s.heap) (hbl : b < s.heap.size) (hbA : ¬ va_A [] s.heap.size b) (c1 : Nat) (c2 : Nat) (c3 : Nat) (c4 : Nat) (c5 : Nat) (dd : Nat) (e0 : Nat) (h : Nat) (jj : Nat) (mo : Nat) (o : Nat) (o0 : Nat) (o1 : Nat) (o2 : Nat) (o4 : Nat) (o7 : Nat) (o9 : Nat) (od : Nat) (oo : Nat) (pp : Nat) (x2 : Nat) (x3 : Nat) (x4 : Nat)  : G p l e room_1 s m #[Value.ref b] below meth c D 9 (va_A [] s.heap.size) (lw_Z below #[Value.ref b] s) [(o, .inr (14, [.ref h, .ref pp, .ref x2, .ref x3, .ref x4, .ref o2, .ref o4, .ref o9, .ref o7, .ref o0, .ref o1])), (h, .inr (7, [.ref jj, .ref dd, .int (nI 0), .int (nI 0)])), (jj, aI k 36 (fun _ => 0)), (dd, aI k 6 (fun _ => 0)), (oo, aJ k 1 (fun _ => 0)), (mo, .inr (15, [.ref e0, .ref c1, .ref c2, .ref c3, .ref c4, .ref c5, .null, .int (nI 0), .int (nI 0), .int 0, .int 0, .int 0]))] [(0, .ref b), (1, .ref o), (2, .ref mo), (3, .ref oo), (4, .ref od), (5, .int (nI 0))] 300 2000 0 244 [] := by
  refine g_aload_n (pc := 244) C 1 rfl rfl dL_law_244 ?_
  refine g_aload_n (pc := 245) C 0 rfl rfl dL_law_245 ?_
  refine g_iload (pc := 246) C 5 rfl dL_law_246 ?_
  refine g_iconst (pc := 248) (v := 1) C (by decide) dL_law_248 ?_
  refine g_iadd (pc := 249) C dL_law_249 ?_
  refine G.eqs (st' := [.int (nI 1), .ref b, .ref o]) (congrArg (β := List Value) (fun z9 => [.int z9, .ref b, .ref o]) (show (((nI 0) + 1) : Int32) = (nI 1) from nI_add _ _)) ?_
  refine g_sld (pc := 250) C hX hbl hbA (j := 1) (by omega) (by omega) rfl dL_law_250 ?_
  refine g_aload_n (pc := 251) C 0 rfl rfl dL_law_251 ?_
  refine g_iload (pc := 252) C 5 rfl dL_law_252 ?_
  refine g_iconst (pc := 254) (v := 2) C (by decide) dL_law_254 ?_
  refine g_iadd (pc := 255) C dL_law_255 ?_
  refine G.eqs (st' := [.int (nI 2), .ref b, .int (xs 1), .ref o]) (congrArg (β := List Value) (fun z9 => [.int z9, .ref b, .int (xs 1), .ref o]) (show (((nI 0) + 2) : Int32) = (nI 2) from nI_add _ _)) ?_
  refine g_sld (pc := 256) C hX hbl hbA (j := 2) (by omega) (by omega) rfl dL_law_256 ?_
  refine g_aload_n (pc := 257) C 0 rfl rfl dL_law_257 ?_
  refine g_iload (pc := 258) C 5 rfl dL_law_258 ?_
  refine g_iconst (pc := 260) (v := 3) C (by decide) dL_law_260 ?_
  refine g_iadd (pc := 261) C dL_law_261 ?_
  refine G.eqs (st' := [.int (nI 3), .ref b, .int (xs 2), .int (xs 1), .ref o]) (congrArg (β := List Value) (fun z9 => [.int z9, .ref b, .int (xs 2), .int (xs 1), .ref o]) (show (((nI 0) + 3) : Int32) = (nI 3) from nI_add _ _)) ?_
  refine g_sld (pc := 262) C hX hbl hbA (j := 3) (by omega) (by omega) rfl dL_law_262 ?_
  refine g_aload_n (pc := 263) C 3 rfl rfl dL_law_263 ?_
  refine g_callSW (pc := 264) (cells := 300) (slots := 2000) (g := 0) (As := [.ref o, .int (xs 1), .int (xs 2), .int (xs 3), .ref oo]) (st := []) (b := 0) C (nA := 5) rfl (c_L_edges_z o h pp x2 x3 x4 o2 o4 o9 o7 o0 o1 jj dd oo (fun _ => 0) (xs 1) (xs 2) (xs 3) ) q_471 q_472 q_459 q_470 (by decide +kernel) dL_law_264 ⟨Nat.le_of_ble_eq_true rfl, Nat.le_of_ble_eq_true rfl⟩ [0, 1, 2, 3, 4] [5] rfl (wr := [(mo, .inr (15, [.ref e0, .ref c1, .ref c2, .ref c3, .ref c4, .ref c5, .null, .int (nI 0), .int (nI 0), .int 0, .int 0, .int 0]))]) rfl (by decide) (by decide) (by decide) (Nat.le_of_ble_eq_true rfl) ⟨Nat.le_of_ble_eq_true rfl, Nat.le_of_ble_eq_true rfl⟩ (fun rv w1 h1 => ?_)
  obtain ⟨rfl, rfl⟩ := h1
  refine G.aft [1, 2, 3, 4, 5, 0] (ws' := [(o, .inr (14, [.ref h, .ref pp, .ref x2, .ref x3, .ref x4, .ref o2, .ref o4, .ref o9, .ref o7, .ref o0, .ref o1])), (h, .inr (7, [.ref jj, .ref dd, .int (nI 0), .int (nI 0)])), (jj, aI k 36 (fun _ => 0)), (dd, aI k 6 (fun _ => 0)), (oo, aJ k 1 (fun _ => 0)), (mo, .inr (15, [.ref e0, .ref c1, .ref c2, .ref c3, .ref c4, .ref c5, .null, .int (nI 0), .int (nI 0), .int 0, .int 0, .int 0]))]) (st' := [.int 1]) (cells' := 301) (slots' := 2006) (g' := 0) (by decide) rfl rfl rfl rfl rfl ?_
  refine g_istore (pc := 267) C [(6, .int 1), (0, .ref b), (1, .ref o), (2, .ref mo), (3, .ref oo), (4, .ref od), (5, .int (nI 0))] dL_law_267 (by decide) rfl ?_
  refine g_aload_n (pc := 269) C 3 rfl rfl dL_law_269 ?_
  refine g_aload_n (pc := 270) C 1 rfl rfl dL_law_270 ?_
  refine g_iload (pc := 271) C 6 rfl dL_law_271 ?_
  refine g_iconst (pc := 273) (v := 1) C (by decide) dL_law_273 ?_
  refine g_iadd (pc := 274) C dL_law_274 ?_
  refine G.eqs (st' := [.int (nI 1), .ref b, .ref mo]) (congrArg (β := List Value) (fun z9 => [.int z9, .ref b, .ref mo]) (show (((nI 0) + 1) : Int32) = (nI 1) from nI_add _ _)) ?_
  refine g_sld (pc := 275) C hX hbl hbA (j := 1) (by omega) (by omega) rfl dL_law_275 ?_
  refine g_aload_n (pc := 276) C 1 rfl rfl dL_law_276 ?_
  refine g_iload (pc := 277) C 6 rfl dL_law_277 ?_
  refine g_iconst (pc := 279) (v := 2) C (by decide) dL_law_279 ?_
  refine g_iadd (pc := 280) C dL_law_280 ?_
  refine G.eqs (st' := [.int (nI 2), .ref b, .int (xs 1), .ref mo]) (congrArg (β := List Value) (fun z9 => [.int z9, .ref b, .int (xs 1), .ref mo]) (show (((nI 0) + 2) : Int32) = (nI 2) from nI_add _ _)) ?_
  refine g_sld (pc := 281) C hX hbl hbA (j := 2) (by omega) (by omega) rfl dL_law_281 ?_
  refine g_aload_n (pc := 282) C 1 rfl rfl dL_law_282 ?_
  refine g_iload (pc := 283) C 6 rfl dL_law_283 ?_
  refine g_iconst (pc := 285) (v := 3) C (by decide) dL_law_285 ?_
  refine g_iadd (pc := 286) C dL_law_286 ?_
  refine G.eqs (st' := [.int (nI 3), .ref b, .int (xs 2), .int (xs 1), .ref mo]) (congrArg (β := List Value) (fun z9 => [.int z9, .ref b, .int (xs 2), .int (xs 1), .ref mo]) (show (((nI 0) + 3) : Int32) = (nI 3) from nI_add _ _)) ?_
  refine g_sld (pc := 287) C hX hbl hbA (j := 3) (by omega) (by omega) rfl dL_law_287 ?_
  refine g_callV (pc := 288) (cells := 301) (slots := 2006) (g := 0) (As := [.int (xs 1), .int (xs 2), .int (xs 3)]) (st := []) (T := TX11) (q0 := 5) C (nA := 3) rfl (c_X11_edges_z mo e0 c1 c2 c3 c4 c5 0 (xs 1) (xs 2) (xs 3) ) q_475 q_476 q_474 q_265 q_473 (by decide +kernel) rfl rfl dL_law_288 ⟨Nat.le_of_ble_eq_true rfl, Nat.le_of_ble_eq_true rfl⟩ [5] [0, 1, 2, 3, 4] rfl (wr := [(o, .inr (14, [.ref h, .ref pp, .ref x2, .ref x3, .ref x4, .ref o2, .ref o4, .ref o9, .ref o7, .ref o0, .ref o1])), (h, .inr (7, [.ref jj, .ref dd, .int (nI 0), .int (nI 0)])), (jj, aI k 36 (fun _ => 0)), (dd, aI k 6 (fun _ => 0)), (oo, aJ k 1 (fun _ => 0))]) rfl (by decide) (by decide) (by decide) (Nat.le_of_ble_eq_true rfl) ⟨Nat.le_of_ble_eq_true rfl, Nat.le_of_ble_eq_true rfl⟩ (fun rv w1 h1 => ?_)
  obtain ⟨rfl, rfl⟩ := h1
  refine G.aft [0, 1, 2, 3, 4, 5] (ws' := [(o, .inr (14, [.ref h, .ref pp, .ref x2, .ref x3, .ref x4, .ref o2, .ref o4, .ref o9, .ref o7, .ref o0, .ref o1])), (h, .inr (7, [.ref jj, .ref dd, .int (nI 0), .int (nI 0)])), (jj, aI k 36 (fun _ => 0)), (dd, aI k 6 (fun _ => 0)), (oo, aJ k 1 (fun _ => 0)), (mo, .inr (15, [.ref e0, .ref c1, .ref c2, .ref c3, .ref c4, .ref c5, .null, .int (nI 0), .int (nI 0), .int 0, .int 0, .int 1]))]) (st' := [.int 0]) (cells' := 301) (slots' := 2006) (g' := 0) (by decide) rfl rfl rfl rfl rfl ?_
  refine g_istore (pc := 291) C [(7, .int 0), (6, .int 1), (0, .ref b), (1, .ref o), (2, .ref mo), (3, .ref oo), (4, .ref od), (5, .int (nI 0))] dL_law_291 (by decide) rfl ?_
  refine g_aload_n (pc := 293) C 4 rfl rfl dL_law_293 ?_
  refine g_callV (pc := 294) (cells := 301) (slots := 2006) (g := 0) (As := []) (st := []) (T := TX11) (q0 := 5) C (nA := 0) rfl (c_X11_thrown mo e0 c1 c2 c3 c4 c5 1 (nI 0) (nI 0) 0 0 ) q_468 q_469 q_467 q_265 q_466 (by decide +kernel) rfl rfl dL_law_294 ⟨Nat.le_of_ble_eq_true rfl, Nat.le_of_ble_eq_true rfl⟩ [5] [0, 1, 2, 3, 4] rfl (wr := [(o, .inr (14, [.ref h, .ref pp, .ref x2, .ref x3, .ref x4, .ref o2, .ref o4, .ref o9, .ref o7, .ref o0, .ref o1])), (h, .inr (7, [.ref jj, .ref dd, .int (nI 0), .int (nI 0)])), (jj, aI k 36 (fun _ => 0)), (dd, aI k 6 (fun _ => 0)), (oo, aJ k 1 (fun _ => 0))]) rfl (by decide) (by decide) (by decide) (Nat.le_of_ble_eq_true rfl) ⟨Nat.le_of_ble_eq_true rfl, Nat.le_of_ble_eq_true rfl⟩ (fun rv w1 h1 => ?_)
  obtain ⟨rfl, rfl⟩ := h1
  refine G.aft [0, 1, 2, 3, 4, 5] (ws' := [(o, .inr (14, [.ref h, .ref pp, .ref x2, .ref x3, .ref x4, .ref o2, .ref o4, .ref o9, .ref o7, .ref o0, .ref o1])), (h, .inr (7, [.ref jj, .ref dd, .int (nI 0), .int (nI 0)])), (jj, aI k 36 (fun _ => 0)), (dd, aI k 6 (fun _ => 0)), (oo, aJ k 1 (fun _ => 0)), (mo, .inr (15, [.ref e0, .ref c1, .ref c2, .ref c3, .ref c4, .ref c5, .null, .int (nI 0), .int (nI 0), .int 0, .int 0, .int 1]))]) (st' := [.int 1]) (cells' := 301) (slots' := 2006) (g' := 0) (by decide) rfl rfl rfl rfl rfl ?_
  refine g_iload (pc := 297) C 1 rfl dL_law_297 ?_
  refine g_icmp_eq (pc := 299) C 304 (by decide) dL_law_299 (fun c_299 => ?_) (fun c_299 => ?_)
  · refine g_iload (pc := 304) C 1 rfl dL_law_304 ?_
    refine g_if_ne (pc := 306) C 321 (by decide) dL_law_306 (fun c_306 => ?_) (fun c_306 => ?_)
    · refine g_goto (pc := 321) C 1995 (by decide) dL_law_321 ?_
      refine G.re [] (ws' := []) (by decide) rfl ?_
      refine G.loc [2, 7] (lv' := [(0, .ref b), (5, .int (nI 0))]) rfl ?_
      refine G.widen (k' := 400) (n' := 3000) (g' := 0) (by decide) (by decide) (Nat.zero_le _) ?_
      exact law_end C hr hlk hX hbl hbA
    · exact absurd c_306 (by decide)
  · exact absurd c_299 (by decide)
set_option maxRecDepth 100000 in
set_option maxHeartbeats 1000000 in
theorem law_c2 {p : Program} {l : Launch} {e : Env} {s : State} {m : MethodId} {below : List Frame} {meth : Method} {c : Code} {D : va_G} {k : Nat → ClassId} {b : Nat} {xs : Nat → Int32} (C : Cx p l s m #[Value.ref b] c D k (va_A [] s.heap.size) cL_law RL 9) (hr : meth.sig.returnType = some .boolean) (hlk : meth.locks = false) (hX : va_X b 4 xs s s.heap) (hbl : b < s.heap.size) (hbA : ¬ va_A [] s.heap.size b) (c1 : Nat) (c2 : Nat) (c3 : Nat) (c4 : Nat) (c5 : Nat) (dd : Nat) (e0 : Nat) (h : Nat) (jj : Nat) (mo : Nat) (o : Nat) (o0 : Nat) (o1 : Nat) (o2 : Nat) (o4 : Nat) (o7 : Nat) (o9 : Nat) (od : Nat) (oo : Nat) (pp : Nat) (x2 : Nat) (x3 : Nat) (x4 : Nat)  : G p l e room_1 s m #[Value.ref b] below meth c D 9 (va_A [] s.heap.size) (lw_Z below #[Value.ref b] s) [(o, .inr (14, [.ref h, .ref pp, .ref x2, .ref x3, .ref x4, .ref o2, .ref o4, .ref o9, .ref o7, .ref o0, .ref o1])), (h, .inr (7, [.ref jj, .ref dd, .int (nI 0), .int (nI 0)])), (jj, aI k 36 (fun _ => 0)), (dd, aI k 6 (fun _ => 0)), (oo, aJ k 1 (fun _ => 0)), (mo, .inr (15, [.ref e0, .ref c1, .ref c2, .ref c3, .ref c4, .ref c5, .null, .int (nI 0), .int (nI 0), .int 0, .int 0, .int 0]))] [(0, .ref b), (1, .ref o), (2, .ref mo), (3, .ref oo), (4, .ref od), (5, .int (nI 0))] 300 2000 0 324 [] := by
  refine g_aload_n (pc := 324) C 1 rfl rfl dL_law_324 ?_
  refine g_aload_n (pc := 325) C 0 rfl rfl dL_law_325 ?_
  refine g_iload (pc := 326) C 5 rfl dL_law_326 ?_
  refine g_iconst (pc := 328) (v := 1) C (by decide) dL_law_328 ?_
  refine g_iadd (pc := 329) C dL_law_329 ?_
  refine G.eqs (st' := [.int (nI 1), .ref b, .ref o]) (congrArg (β := List Value) (fun z9 => [.int z9, .ref b, .ref o]) (show (((nI 0) + 1) : Int32) = (nI 1) from nI_add _ _)) ?_
  refine g_sld (pc := 330) C hX hbl hbA (j := 1) (by omega) (by omega) rfl dL_law_330 ?_
  refine g_aload_n (pc := 331) C 3 rfl rfl dL_law_331 ?_
  refine g_callSW (pc := 332) (cells := 300) (slots := 2000) (g := 0) (As := [.ref o, .int (xs 1), .ref oo]) (st := []) (b := 0) C (nA := 3) rfl (c_L_setSink_z o h pp x2 x3 x4 o2 o4 o9 o7 o0 o1 jj dd oo (fun _ => 0) (xs 1) ) q_478 q_479 q_459 q_477 (by decide +kernel) dL_law_332 ⟨Nat.le_of_ble_eq_true rfl, Nat.le_of_ble_eq_true rfl⟩ [0, 1, 2, 3, 4] [5] rfl (wr := [(mo, .inr (15, [.ref e0, .ref c1, .ref c2, .ref c3, .ref c4, .ref c5, .null, .int (nI 0), .int (nI 0), .int 0, .int 0, .int 0]))]) rfl (by decide) (by decide) (by decide) (Nat.le_of_ble_eq_true rfl) ⟨Nat.le_of_ble_eq_true rfl, Nat.le_of_ble_eq_true rfl⟩ (fun rv w1 h1 => ?_)
  obtain ⟨rfl, rfl⟩ := h1
  refine G.aft [1, 2, 3, 4, 5, 0] (ws' := [(o, .inr (14, [.ref h, .ref pp, .ref x2, .ref x3, .ref x4, .ref o2, .ref o4, .ref o9, .ref o7, .ref o0, .ref o1])), (h, .inr (7, [.ref jj, .ref dd, .int (nI 0), .int (nI 0)])), (jj, aI k 36 (fun _ => 0)), (dd, aI k 6 (fun _ => 0)), (oo, aJ k 1 (fun _ => 0)), (mo, .inr (15, [.ref e0, .ref c1, .ref c2, .ref c3, .ref c4, .ref c5, .null, .int (nI 0), .int (nI 0), .int 0, .int 0, .int 0]))]) (st' := [.int 1]) (cells' := 301) (slots' := 2006) (g' := 0) (by decide) rfl rfl rfl rfl rfl ?_
  refine g_istore (pc := 335) C [(6, .int 1), (0, .ref b), (1, .ref o), (2, .ref mo), (3, .ref oo), (4, .ref od), (5, .int (nI 0))] dL_law_335 (by decide) rfl ?_
  refine g_aload_n (pc := 337) C 3 rfl rfl dL_law_337 ?_
  refine g_aload_n (pc := 338) C 1 rfl rfl dL_law_338 ?_
  refine g_iload (pc := 339) C 6 rfl dL_law_339 ?_
  refine g_iconst (pc := 341) (v := 1) C (by decide) dL_law_341 ?_
  refine g_iadd (pc := 342) C dL_law_342 ?_
  refine G.eqs (st' := [.int (nI 1), .ref b, .ref mo]) (congrArg (β := List Value) (fun z9 => [.int z9, .ref b, .ref mo]) (show (((nI 0) + 1) : Int32) = (nI 1) from nI_add _ _)) ?_
  refine g_sld (pc := 343) C hX hbl hbA (j := 1) (by omega) (by omega) rfl dL_law_343 ?_
  refine g_callV (pc := 344) (cells := 301) (slots := 2006) (g := 0) (As := [.int (xs 1)]) (st := []) (T := TX11) (q0 := 5) C (nA := 1) rfl (c_X11_setSink_z mo e0 c1 c2 c3 c4 c5 0 (xs 1) ) q_482 q_483 q_481 q_265 q_480 (by decide +kernel) rfl rfl dL_law_344 ⟨Nat.le_of_ble_eq_true rfl, Nat.le_of_ble_eq_true rfl⟩ [5] [0, 1, 2, 3, 4] rfl (wr := [(o, .inr (14, [.ref h, .ref pp, .ref x2, .ref x3, .ref x4, .ref o2, .ref o4, .ref o9, .ref o7, .ref o0, .ref o1])), (h, .inr (7, [.ref jj, .ref dd, .int (nI 0), .int (nI 0)])), (jj, aI k 36 (fun _ => 0)), (dd, aI k 6 (fun _ => 0)), (oo, aJ k 1 (fun _ => 0))]) rfl (by decide) (by decide) (by decide) (Nat.le_of_ble_eq_true rfl) ⟨Nat.le_of_ble_eq_true rfl, Nat.le_of_ble_eq_true rfl⟩ (fun rv w1 h1 => ?_)
  obtain ⟨rfl, rfl⟩ := h1
  refine G.aft [0, 1, 2, 3, 4, 5] (ws' := [(o, .inr (14, [.ref h, .ref pp, .ref x2, .ref x3, .ref x4, .ref o2, .ref o4, .ref o9, .ref o7, .ref o0, .ref o1])), (h, .inr (7, [.ref jj, .ref dd, .int (nI 0), .int (nI 0)])), (jj, aI k 36 (fun _ => 0)), (dd, aI k 6 (fun _ => 0)), (oo, aJ k 1 (fun _ => 0)), (mo, .inr (15, [.ref e0, .ref c1, .ref c2, .ref c3, .ref c4, .ref c5, .null, .int (nI 0), .int (nI 0), .int 0, .int 0, .int 1]))]) (st' := [.int 0]) (cells' := 301) (slots' := 2006) (g' := 0) (by decide) rfl rfl rfl rfl rfl ?_
  refine g_istore (pc := 347) C [(7, .int 0), (6, .int 1), (0, .ref b), (1, .ref o), (2, .ref mo), (3, .ref oo), (4, .ref od), (5, .int (nI 0))] dL_law_347 (by decide) rfl ?_
  refine g_aload_n (pc := 349) C 4 rfl rfl dL_law_349 ?_
  refine g_callV (pc := 350) (cells := 301) (slots := 2006) (g := 0) (As := []) (st := []) (T := TX11) (q0 := 5) C (nA := 0) rfl (c_X11_thrown mo e0 c1 c2 c3 c4 c5 1 (nI 0) (nI 0) 0 0 ) q_468 q_469 q_467 q_265 q_466 (by decide +kernel) rfl rfl dL_law_350 ⟨Nat.le_of_ble_eq_true rfl, Nat.le_of_ble_eq_true rfl⟩ [5] [0, 1, 2, 3, 4] rfl (wr := [(o, .inr (14, [.ref h, .ref pp, .ref x2, .ref x3, .ref x4, .ref o2, .ref o4, .ref o9, .ref o7, .ref o0, .ref o1])), (h, .inr (7, [.ref jj, .ref dd, .int (nI 0), .int (nI 0)])), (jj, aI k 36 (fun _ => 0)), (dd, aI k 6 (fun _ => 0)), (oo, aJ k 1 (fun _ => 0))]) rfl (by decide) (by decide) (by decide) (Nat.le_of_ble_eq_true rfl) ⟨Nat.le_of_ble_eq_true rfl, Nat.le_of_ble_eq_true rfl⟩ (fun rv w1 h1 => ?_)
  obtain ⟨rfl, rfl⟩ := h1
  refine G.aft [0, 1, 2, 3, 4, 5] (ws' := [(o, .inr (14, [.ref h, .ref pp, .ref x2, .ref x3, .ref x4, .ref o2, .ref o4, .ref o9, .ref o7, .ref o0, .ref o1])), (h, .inr (7, [.ref jj, .ref dd, .int (nI 0), .int (nI 0)])), (jj, aI k 36 (fun _ => 0)), (dd, aI k 6 (fun _ => 0)), (oo, aJ k 1 (fun _ => 0)), (mo, .inr (15, [.ref e0, .ref c1, .ref c2, .ref c3, .ref c4, .ref c5, .null, .int (nI 0), .int (nI 0), .int 0, .int 0, .int 1]))]) (st' := [.int 1]) (cells' := 301) (slots' := 2006) (g' := 0) (by decide) rfl rfl rfl rfl rfl ?_
  refine g_iload (pc := 353) C 1 rfl dL_law_353 ?_
  refine g_icmp_eq (pc := 355) C 360 (by decide) dL_law_355 (fun c_355 => ?_) (fun c_355 => ?_)
  · refine g_iload (pc := 360) C 1 rfl dL_law_360 ?_
    refine g_if_ne (pc := 362) C 377 (by decide) dL_law_362 (fun c_362 => ?_) (fun c_362 => ?_)
    · refine g_goto (pc := 377) C 1995 (by decide) dL_law_377 ?_
      refine G.re [] (ws' := []) (by decide) rfl ?_
      refine G.loc [2, 7] (lv' := [(0, .ref b), (5, .int (nI 0))]) rfl ?_
      refine G.widen (k' := 400) (n' := 3000) (g' := 0) (by decide) (by decide) (Nat.zero_le _) ?_
      exact law_end C hr hlk hX hbl hbA
    · exact absurd c_362 (by decide)
  · exact absurd c_355 (by decide)
set_option maxRecDepth 100000 in
set_option maxHeartbeats 1000000 in
theorem law_c3 {p : Program} {l : Launch} {e : Env} {s : State} {m : MethodId} {below : List Frame} {meth : Method} {c : Code} {D : va_G} {k : Nat → ClassId} {b : Nat} {xs : Nat → Int32} (C : Cx p l s m #[Value.ref b] c D k (va_A [] s.heap.size) cL_law RL 9) (hr : meth.sig.returnType = some .boolean) (hlk : meth.locks = false) (hX : va_X b 4 xs s s.heap) (hbl : b < s.heap.size) (hbA : ¬ va_A [] s.heap.size b) (c1 : Nat) (c2 : Nat) (c3 : Nat) (c4 : Nat) (c5 : Nat) (dd : Nat) (e0 : Nat) (h : Nat) (jj : Nat) (mo : Nat) (o : Nat) (o0 : Nat) (o1 : Nat) (o2 : Nat) (o4 : Nat) (o7 : Nat) (o9 : Nat) (od : Nat) (oo : Nat) (pp : Nat) (x2 : Nat) (x3 : Nat) (x4 : Nat)  : G p l e room_1 s m #[Value.ref b] below meth c D 9 (va_A [] s.heap.size) (lw_Z below #[Value.ref b] s) [(o, .inr (14, [.ref h, .ref pp, .ref x2, .ref x3, .ref x4, .ref o2, .ref o4, .ref o9, .ref o7, .ref o0, .ref o1])), (h, .inr (7, [.ref jj, .ref dd, .int (nI 0), .int (nI 0)])), (jj, aI k 36 (fun _ => 0)), (dd, aI k 6 (fun _ => 0)), (oo, aJ k 1 (fun _ => 0)), (mo, .inr (15, [.ref e0, .ref c1, .ref c2, .ref c3, .ref c4, .ref c5, .null, .int (nI 0), .int (nI 0), .int 0, .int 0, .int 0]))] [(0, .ref b), (1, .ref o), (2, .ref mo), (3, .ref oo), (4, .ref od), (5, .int (nI 0))] 300 2000 0 380 [] := by
  refine g_aload_n (pc := 380) C 1 rfl rfl dL_law_380 ?_
  refine g_aload_n (pc := 381) C 0 rfl rfl dL_law_381 ?_
  refine g_iload (pc := 382) C 5 rfl dL_law_382 ?_
  refine g_iconst (pc := 384) (v := 1) C (by decide) dL_law_384 ?_
  refine g_iadd (pc := 385) C dL_law_385 ?_
  refine G.eqs (st' := [.int (nI 1), .ref b, .ref o]) (congrArg (β := List Value) (fun z9 => [.int z9, .ref b, .ref o]) (show (((nI 0) + 1) : Int32) = (nI 1) from nI_add _ _)) ?_
  refine g_sld (pc := 386) C hX hbl hbA (j := 1) (by omega) (by omega) rfl dL_law_386 ?_
  refine g_aload_n (pc := 387) C 3 rfl rfl dL_law_387 ?_
  refine g_callSW (pc := 388) (cells := 300) (slots := 2000) (g := 0) (As := [.ref o, .int (xs 1), .ref oo]) (st := []) (b := 0) C (nA := 3) rfl (c_L_degree_z o h pp x2 x3 x4 o2 o4 o9 o7 o0 o1 jj dd oo (fun _ => 0) (xs 1) ) q_485 q_486 q_459 q_484 (by decide +kernel) dL_law_388 ⟨Nat.le_of_ble_eq_true rfl, Nat.le_of_ble_eq_true rfl⟩ [0, 1, 2, 3, 4] [5] rfl (wr := [(mo, .inr (15, [.ref e0, .ref c1, .ref c2, .ref c3, .ref c4, .ref c5, .null, .int (nI 0), .int (nI 0), .int 0, .int 0, .int 0]))]) rfl (by decide) (by decide) (by decide) (Nat.le_of_ble_eq_true rfl) ⟨Nat.le_of_ble_eq_true rfl, Nat.le_of_ble_eq_true rfl⟩ (fun rv w1 h1 => ?_)
  obtain ⟨rfl, rfl⟩ := h1
  refine G.aft [1, 2, 3, 4, 5, 0] (ws' := [(o, .inr (14, [.ref h, .ref pp, .ref x2, .ref x3, .ref x4, .ref o2, .ref o4, .ref o9, .ref o7, .ref o0, .ref o1])), (h, .inr (7, [.ref jj, .ref dd, .int (nI 0), .int (nI 0)])), (jj, aI k 36 (fun _ => 0)), (dd, aI k 6 (fun _ => 0)), (oo, aJ k 1 (fun _ => 0)), (mo, .inr (15, [.ref e0, .ref c1, .ref c2, .ref c3, .ref c4, .ref c5, .null, .int (nI 0), .int (nI 0), .int 0, .int 0, .int 0]))]) (st' := [.int 1]) (cells' := 301) (slots' := 2006) (g' := 0) (by decide) rfl rfl rfl rfl rfl ?_
  refine g_istore (pc := 391) C [(6, .int 1), (0, .ref b), (1, .ref o), (2, .ref mo), (3, .ref oo), (4, .ref od), (5, .int (nI 0))] dL_law_391 (by decide) rfl ?_
  refine g_aload_n (pc := 393) C 3 rfl rfl dL_law_393 ?_
  refine g_aload_n (pc := 394) C 1 rfl rfl dL_law_394 ?_
  refine g_iload (pc := 395) C 6 rfl dL_law_395 ?_
  refine g_iconst (pc := 397) (v := 1) C (by decide) dL_law_397 ?_
  refine g_iadd (pc := 398) C dL_law_398 ?_
  refine G.eqs (st' := [.int (nI 1), .ref b, .ref mo]) (congrArg (β := List Value) (fun z9 => [.int z9, .ref b, .ref mo]) (show (((nI 0) + 1) : Int32) = (nI 1) from nI_add _ _)) ?_
  refine g_sld (pc := 399) C hX hbl hbA (j := 1) (by omega) (by omega) rfl dL_law_399 ?_
  refine g_callV (pc := 400) (cells := 301) (slots := 2006) (g := 0) (As := [.int (xs 1)]) (st := []) (T := TX11) (q0 := 5) C (nA := 1) rfl (c_X11_degree_z mo e0 c1 c2 c3 c4 c5 0 (xs 1) ) q_489 q_490 q_488 q_265 q_487 (by decide +kernel) rfl rfl dL_law_400 ⟨Nat.le_of_ble_eq_true rfl, Nat.le_of_ble_eq_true rfl⟩ [5] [0, 1, 2, 3, 4] rfl (wr := [(o, .inr (14, [.ref h, .ref pp, .ref x2, .ref x3, .ref x4, .ref o2, .ref o4, .ref o9, .ref o7, .ref o0, .ref o1])), (h, .inr (7, [.ref jj, .ref dd, .int (nI 0), .int (nI 0)])), (jj, aI k 36 (fun _ => 0)), (dd, aI k 6 (fun _ => 0)), (oo, aJ k 1 (fun _ => 0))]) rfl (by decide) (by decide) (by decide) (Nat.le_of_ble_eq_true rfl) ⟨Nat.le_of_ble_eq_true rfl, Nat.le_of_ble_eq_true rfl⟩ (fun rv w1 h1 => ?_)
  obtain ⟨rfl, rfl⟩ := h1
  refine G.aft [0, 1, 2, 3, 4, 5] (ws' := [(o, .inr (14, [.ref h, .ref pp, .ref x2, .ref x3, .ref x4, .ref o2, .ref o4, .ref o9, .ref o7, .ref o0, .ref o1])), (h, .inr (7, [.ref jj, .ref dd, .int (nI 0), .int (nI 0)])), (jj, aI k 36 (fun _ => 0)), (dd, aI k 6 (fun _ => 0)), (oo, aJ k 1 (fun _ => 0)), (mo, .inr (15, [.ref e0, .ref c1, .ref c2, .ref c3, .ref c4, .ref c5, .null, .int (nI 0), .int (nI 0), .int 0, .int 0, .int 1]))]) (st' := [.int 0]) (cells' := 301) (slots' := 2006) (g' := 0) (by decide) rfl rfl rfl rfl rfl ?_
  refine g_istore (pc := 403) C [(7, .int 0), (6, .int 1), (0, .ref b), (1, .ref o), (2, .ref mo), (3, .ref oo), (4, .ref od), (5, .int (nI 0))] dL_law_403 (by decide) rfl ?_
  refine g_aload_n (pc := 405) C 4 rfl rfl dL_law_405 ?_
  refine g_callV (pc := 406) (cells := 301) (slots := 2006) (g := 0) (As := []) (st := []) (T := TX11) (q0 := 5) C (nA := 0) rfl (c_X11_thrown mo e0 c1 c2 c3 c4 c5 1 (nI 0) (nI 0) 0 0 ) q_468 q_469 q_467 q_265 q_466 (by decide +kernel) rfl rfl dL_law_406 ⟨Nat.le_of_ble_eq_true rfl, Nat.le_of_ble_eq_true rfl⟩ [5] [0, 1, 2, 3, 4] rfl (wr := [(o, .inr (14, [.ref h, .ref pp, .ref x2, .ref x3, .ref x4, .ref o2, .ref o4, .ref o9, .ref o7, .ref o0, .ref o1])), (h, .inr (7, [.ref jj, .ref dd, .int (nI 0), .int (nI 0)])), (jj, aI k 36 (fun _ => 0)), (dd, aI k 6 (fun _ => 0)), (oo, aJ k 1 (fun _ => 0))]) rfl (by decide) (by decide) (by decide) (Nat.le_of_ble_eq_true rfl) ⟨Nat.le_of_ble_eq_true rfl, Nat.le_of_ble_eq_true rfl⟩ (fun rv w1 h1 => ?_)
  obtain ⟨rfl, rfl⟩ := h1
  refine G.aft [0, 1, 2, 3, 4, 5] (ws' := [(o, .inr (14, [.ref h, .ref pp, .ref x2, .ref x3, .ref x4, .ref o2, .ref o4, .ref o9, .ref o7, .ref o0, .ref o1])), (h, .inr (7, [.ref jj, .ref dd, .int (nI 0), .int (nI 0)])), (jj, aI k 36 (fun _ => 0)), (dd, aI k 6 (fun _ => 0)), (oo, aJ k 1 (fun _ => 0)), (mo, .inr (15, [.ref e0, .ref c1, .ref c2, .ref c3, .ref c4, .ref c5, .null, .int (nI 0), .int (nI 0), .int 0, .int 0, .int 1]))]) (st' := [.int 1]) (cells' := 301) (slots' := 2006) (g' := 0) (by decide) rfl rfl rfl rfl rfl ?_
  refine g_iload (pc := 409) C 1 rfl dL_law_409 ?_
  refine g_icmp_eq (pc := 411) C 416 (by decide) dL_law_411 (fun c_411 => ?_) (fun c_411 => ?_)
  · refine g_iload (pc := 416) C 1 rfl dL_law_416 ?_
    refine g_if_ne (pc := 418) C 433 (by decide) dL_law_418 (fun c_418 => ?_) (fun c_418 => ?_)
    · refine g_goto (pc := 433) C 1995 (by decide) dL_law_433 ?_
      refine G.re [] (ws' := []) (by decide) rfl ?_
      refine G.loc [2, 7] (lv' := [(0, .ref b), (5, .int (nI 0))]) rfl ?_
      refine G.widen (k' := 400) (n' := 3000) (g' := 0) (by decide) (by decide) (Nat.zero_le _) ?_
      exact law_end C hr hlk hX hbl hbA
    · exact absurd c_418 (by decide)
  · exact absurd c_411 (by decide)
set_option maxRecDepth 100000 in
set_option maxHeartbeats 1000000 in
theorem law_c4 {p : Program} {l : Launch} {e : Env} {s : State} {m : MethodId} {below : List Frame} {meth : Method} {c : Code} {D : va_G} {k : Nat → ClassId} {b : Nat} {xs : Nat → Int32} (C : Cx p l s m #[Value.ref b] c D k (va_A [] s.heap.size) cL_law RL 9) (hr : meth.sig.returnType = some .boolean) (hlk : meth.locks = false) (hX : va_X b 4 xs s s.heap) (hbl : b < s.heap.size) (hbA : ¬ va_A [] s.heap.size b) (c1 : Nat) (c2 : Nat) (c3 : Nat) (c4 : Nat) (c5 : Nat) (dd : Nat) (e0 : Nat) (h : Nat) (jj : Nat) (mo : Nat) (o : Nat) (o0 : Nat) (o1 : Nat) (o2 : Nat) (o4 : Nat) (o7 : Nat) (o9 : Nat) (od : Nat) (oo : Nat) (pp : Nat) (x2 : Nat) (x3 : Nat) (x4 : Nat)  : G p l e room_1 s m #[Value.ref b] below meth c D 9 (va_A [] s.heap.size) (lw_Z below #[Value.ref b] s) [(o, .inr (14, [.ref h, .ref pp, .ref x2, .ref x3, .ref x4, .ref o2, .ref o4, .ref o9, .ref o7, .ref o0, .ref o1])), (h, .inr (7, [.ref jj, .ref dd, .int (nI 0), .int (nI 0)])), (jj, aI k 36 (fun _ => 0)), (dd, aI k 6 (fun _ => 0)), (mo, .inr (15, [.ref e0, .ref c1, .ref c2, .ref c3, .ref c4, .ref c5, .null, .int (nI 0), .int (nI 0), .int 0, .int 0, .int 0]))] [(0, .ref b), (1, .ref o), (2, .ref mo), (3, .ref oo), (4, .ref od), (5, .int (nI 0))] 300 2000 0 436 [] := by
  refine g_aload_n (pc := 436) C 1 rfl rfl dL_law_436 ?_
  refine g_callV (pc := 437) (cells := 300) (slots := 2000) (g := 0) (As := []) (st := []) (T := TX10) (q0 := 0) C (nA := 0) rfl (c_X10_isWhole_z o h pp x2 x3 x4 o2 o4 o9 o7 o0 o1 jj dd ) q_493 q_494 q_492 q_203 q_491 (by decide +kernel) rfl rfl dL_law_437 ⟨Nat.le_of_ble_eq_true rfl, Nat.le_of_ble_eq_true rfl⟩ [0, 1, 2, 3] [4] rfl (wr := [(mo, .inr (15, [.ref e0, .ref c1, .ref c2, .ref c3, .ref c4, .ref c5, .null, .int (nI 0), .int (nI 0), .int 0, .int 0, .int 0]))]) rfl (by decide) (by decide) (by decide) (Nat.le_of_ble_eq_true rfl) ⟨Nat.le_of_ble_eq_true rfl, Nat.le_of_ble_eq_true rfl⟩ (fun rv w1 h1 => ?_)
  obtain ⟨rfl, rfl⟩ := h1
  refine G.aft [1, 2, 3, 4, 0] (ws' := [(o, .inr (14, [.ref h, .ref pp, .ref x2, .ref x3, .ref x4, .ref o2, .ref o4, .ref o9, .ref o7, .ref o0, .ref o1])), (h, .inr (7, [.ref jj, .ref dd, .int (nI 0), .int (nI 0)])), (jj, aI k 36 (fun _ => 0)), (dd, aI k 6 (fun _ => 0)), (mo, .inr (15, [.ref e0, .ref c1, .ref c2, .ref c3, .ref c4, .ref c5, .null, .int (nI 0), .int (nI 0), .int 0, .int 0, .int 0]))]) (st' := [.int 0]) (cells' := 300) (slots' := 2000) (g' := 0) (by decide) rfl rfl rfl rfl rfl ?_
  refine g_aload_n (pc := 440) C 2 rfl rfl dL_law_440 ?_
  refine g_callV (pc := 441) (cells := 300) (slots := 2000) (g := 0) (As := []) (st := [.int 0]) (T := TX11) (q0 := 4) C (nA := 0) rfl (c_X11_isWhole_z mo e0 c1 c2 c3 c4 c5 0 ) q_497 q_498 q_496 q_265 q_495 (by decide +kernel) rfl rfl dL_law_441 ⟨Nat.le_of_ble_eq_true rfl, Nat.le_of_ble_eq_true rfl⟩ [4] [0, 1, 2, 3] rfl (wr := [(o, .inr (14, [.ref h, .ref pp, .ref x2, .ref x3, .ref x4, .ref o2, .ref o4, .ref o9, .ref o7, .ref o0, .ref o1])), (h, .inr (7, [.ref jj, .ref dd, .int (nI 0), .int (nI 0)])), (jj, aI k 36 (fun _ => 0)), (dd, aI k 6 (fun _ => 0))]) rfl (by decide) (by decide) (by decide) (Nat.le_of_ble_eq_true rfl) ⟨Nat.le_of_ble_eq_true rfl, Nat.le_of_ble_eq_true rfl⟩ (fun rv w1 h1 => ?_)
  obtain ⟨rfl, rfl⟩ := h1
  refine G.aft [0, 1, 2, 3, 4] (ws' := [(o, .inr (14, [.ref h, .ref pp, .ref x2, .ref x3, .ref x4, .ref o2, .ref o4, .ref o9, .ref o7, .ref o0, .ref o1])), (h, .inr (7, [.ref jj, .ref dd, .int (nI 0), .int (nI 0)])), (jj, aI k 36 (fun _ => 0)), (dd, aI k 6 (fun _ => 0)), (mo, .inr (15, [.ref e0, .ref c1, .ref c2, .ref c3, .ref c4, .ref c5, .null, .int (nI 0), .int (nI 0), .int 0, .int 0, .int 0]))]) (st' := [.int 0, .int 0]) (cells' := 300) (slots' := 2000) (g' := 0) (by decide) rfl rfl rfl rfl rfl ?_
  refine g_icmp_eq (pc := 444) C 1995 (by decide) dL_law_444 (fun c_444 => ?_) (fun c_444 => ?_)
  · refine G.re [] (ws' := []) (by decide) rfl ?_
    refine G.loc [0, 5] (lv' := [(0, .ref b), (5, .int (nI 0))]) rfl ?_
    refine G.widen (k' := 400) (n' := 3000) (g' := 0) (by decide) (by decide) (Nat.zero_le _) ?_
    exact law_end C hr hlk hX hbl hbA
  · exact absurd c_444 (by decide)
set_option maxRecDepth 100000 in
set_option maxHeartbeats 1000000 in
theorem law_c5 {p : Program} {l : Launch} {e : Env} {s : State} {m : MethodId} {below : List Frame} {meth : Method} {c : Code} {D : va_G} {k : Nat → ClassId} {b : Nat} {xs : Nat → Int32} (C : Cx p l s m #[Value.ref b] c D k (va_A [] s.heap.size) cL_law RL 9) (hr : meth.sig.returnType = some .boolean) (hlk : meth.locks = false) (hX : va_X b 4 xs s s.heap) (hbl : b < s.heap.size) (hbA : ¬ va_A [] s.heap.size b) (c1 : Nat) (c2 : Nat) (c3 : Nat) (c4 : Nat) (c5 : Nat) (dd : Nat) (e0 : Nat) (h : Nat) (jj : Nat) (mo : Nat) (o : Nat) (o0 : Nat) (o1 : Nat) (o2 : Nat) (o4 : Nat) (o7 : Nat) (o9 : Nat) (od : Nat) (oo : Nat) (pp : Nat) (x2 : Nat) (x3 : Nat) (x4 : Nat)  : G p l e room_1 s m #[Value.ref b] below meth c D 9 (va_A [] s.heap.size) (lw_Z below #[Value.ref b] s) [(o, .inr (14, [.ref h, .ref pp, .ref x2, .ref x3, .ref x4, .ref o2, .ref o4, .ref o9, .ref o7, .ref o0, .ref o1])), (h, .inr (7, [.ref jj, .ref dd, .int (nI 0), .int (nI 0)])), (jj, aI k 36 (fun _ => 0)), (dd, aI k 6 (fun _ => 0)), (oo, aJ k 1 (fun _ => 0)), (mo, .inr (15, [.ref e0, .ref c1, .ref c2, .ref c3, .ref c4, .ref c5, .null, .int (nI 0), .int (nI 0), .int 0, .int 0, .int 0]))] [(0, .ref b), (1, .ref o), (2, .ref mo), (3, .ref oo), (4, .ref od), (5, .int (nI 0))] 300 2000 0 449 [] := by
  refine g_aload_n (pc := 449) C 1 rfl rfl dL_law_449 ?_
  refine g_aload_n (pc := 450) C 0 rfl rfl dL_law_450 ?_
  refine g_iload (pc := 451) C 5 rfl dL_law_451 ?_
  refine g_iconst (pc := 453) (v := 1) C (by decide) dL_law_453 ?_
  refine g_iadd (pc := 454) C dL_law_454 ?_
  refine G.eqs (st' := [.int (nI 1), .ref b, .ref o]) (congrArg (β := List Value) (fun z9 => [.int z9, .ref b, .ref o]) (show (((nI 0) + 1) : Int32) = (nI 1) from nI_add _ _)) ?_
  refine g_sld (pc := 455) C hX hbl hbA (j := 1) (by omega) (by omega) rfl dL_law_455 ?_
  refine g_aload_n (pc := 456) C 0 rfl rfl dL_law_456 ?_
  refine g_iload (pc := 457) C 5 rfl dL_law_457 ?_
  refine g_iconst (pc := 459) (v := 2) C (by decide) dL_law_459 ?_
  refine g_iadd (pc := 460) C dL_law_460 ?_
  refine G.eqs (st' := [.int (nI 2), .ref b, .int (xs 1), .ref o]) (congrArg (β := List Value) (fun z9 => [.int z9, .ref b, .int (xs 1), .ref o]) (show (((nI 0) + 2) : Int32) = (nI 2) from nI_add _ _)) ?_
  refine g_sld (pc := 461) C hX hbl hbA (j := 2) (by omega) (by omega) rfl dL_law_461 ?_
  refine g_aload_n (pc := 462) C 3 rfl rfl dL_law_462 ?_
  refine g_callSW (pc := 463) (cells := 300) (slots := 2000) (g := 0) (As := [.ref o, .int (xs 1), .int (xs 2), .ref oo]) (st := []) (b := 0) C (nA := 4) rfl (c_L_put_z o h pp x2 x3 x4 o2 o4 o9 o7 o0 o1 jj dd oo (fun _ => 0) (xs 1) (xs 2) ) q_500 q_501 q_459 q_499 (by decide +kernel) dL_law_463 ⟨Nat.le_of_ble_eq_true rfl, Nat.le_of_ble_eq_true rfl⟩ [0, 1, 2, 3, 4] [5] rfl (wr := [(mo, .inr (15, [.ref e0, .ref c1, .ref c2, .ref c3, .ref c4, .ref c5, .null, .int (nI 0), .int (nI 0), .int 0, .int 0, .int 0]))]) rfl (by decide) (by decide) (by decide) (Nat.le_of_ble_eq_true rfl) ⟨Nat.le_of_ble_eq_true rfl, Nat.le_of_ble_eq_true rfl⟩ (fun rv w1 h1 => ?_)
  obtain ⟨rfl, rfl⟩ := h1
  refine G.aft [1, 2, 3, 4, 5, 0] (ws' := [(o, .inr (14, [.ref h, .ref pp, .ref x2, .ref x3, .ref x4, .ref o2, .ref o4, .ref o9, .ref o7, .ref o0, .ref o1])), (h, .inr (7, [.ref jj, .ref dd, .int (nI 0), .int (nI 0)])), (jj, aI k 36 (fun _ => 0)), (dd, aI k 6 (fun _ => 0)), (oo, aJ k 1 (fun _ => 0)), (mo, .inr (15, [.ref e0, .ref c1, .ref c2, .ref c3, .ref c4, .ref c5, .null, .int (nI 0), .int (nI 0), .int 0, .int 0, .int 0]))]) (st' := [.int 1]) (cells' := 301) (slots' := 2006) (g' := 0) (by decide) rfl rfl rfl rfl rfl ?_
  refine g_istore (pc := 466) C [(6, .int 1), (0, .ref b), (1, .ref o), (2, .ref mo), (3, .ref oo), (4, .ref od), (5, .int (nI 0))] dL_law_466 (by decide) rfl ?_
  refine g_aload_n (pc := 468) C 3 rfl rfl dL_law_468 ?_
  refine g_aload_n (pc := 469) C 1 rfl rfl dL_law_469 ?_
  refine g_iload (pc := 470) C 6 rfl dL_law_470 ?_
  refine g_iconst (pc := 472) (v := 1) C (by decide) dL_law_472 ?_
  refine g_iadd (pc := 473) C dL_law_473 ?_
  refine G.eqs (st' := [.int (nI 1), .ref b, .ref mo]) (congrArg (β := List Value) (fun z9 => [.int z9, .ref b, .ref mo]) (show (((nI 0) + 1) : Int32) = (nI 1) from nI_add _ _)) ?_
  refine g_sld (pc := 474) C hX hbl hbA (j := 1) (by omega) (by omega) rfl dL_law_474 ?_
  refine g_aload_n (pc := 475) C 1 rfl rfl dL_law_475 ?_
  refine g_iload (pc := 476) C 6 rfl dL_law_476 ?_
  refine g_iconst (pc := 478) (v := 2) C (by decide) dL_law_478 ?_
  refine g_iadd (pc := 479) C dL_law_479 ?_
  refine G.eqs (st' := [.int (nI 2), .ref b, .int (xs 1), .ref mo]) (congrArg (β := List Value) (fun z9 => [.int z9, .ref b, .int (xs 1), .ref mo]) (show (((nI 0) + 2) : Int32) = (nI 2) from nI_add _ _)) ?_
  refine g_sld (pc := 480) C hX hbl hbA (j := 2) (by omega) (by omega) rfl dL_law_480 ?_
  refine g_callV (pc := 481) (cells := 301) (slots := 2006) (g := 0) (As := [.int (xs 1), .int (xs 2)]) (st := []) (T := TX11) (q0 := 5) C (nA := 2) rfl (c_X11_put_z mo e0 c1 c2 c3 c4 c5 0 (xs 1) (xs 2) ) q_504 q_505 q_503 q_265 q_502 (by decide +kernel) rfl rfl dL_law_481 ⟨Nat.le_of_ble_eq_true rfl, Nat.le_of_ble_eq_true rfl⟩ [5] [0, 1, 2, 3, 4] rfl (wr := [(o, .inr (14, [.ref h, .ref pp, .ref x2, .ref x3, .ref x4, .ref o2, .ref o4, .ref o9, .ref o7, .ref o0, .ref o1])), (h, .inr (7, [.ref jj, .ref dd, .int (nI 0), .int (nI 0)])), (jj, aI k 36 (fun _ => 0)), (dd, aI k 6 (fun _ => 0)), (oo, aJ k 1 (fun _ => 0))]) rfl (by decide) (by decide) (by decide) (Nat.le_of_ble_eq_true rfl) ⟨Nat.le_of_ble_eq_true rfl, Nat.le_of_ble_eq_true rfl⟩ (fun rv w1 h1 => ?_)
  obtain ⟨rfl, rfl⟩ := h1
  refine G.aft [0, 1, 2, 3, 4, 5] (ws' := [(o, .inr (14, [.ref h, .ref pp, .ref x2, .ref x3, .ref x4, .ref o2, .ref o4, .ref o9, .ref o7, .ref o0, .ref o1])), (h, .inr (7, [.ref jj, .ref dd, .int (nI 0), .int (nI 0)])), (jj, aI k 36 (fun _ => 0)), (dd, aI k 6 (fun _ => 0)), (oo, aJ k 1 (fun _ => 0)), (mo, .inr (15, [.ref e0, .ref c1, .ref c2, .ref c3, .ref c4, .ref c5, .null, .int (nI 0), .int (nI 0), .int 0, .int 0, .int 1]))]) (st' := [.int 0]) (cells' := 301) (slots' := 2006) (g' := 0) (by decide) rfl rfl rfl rfl rfl ?_
  refine g_istore (pc := 484) C [(7, .int 0), (6, .int 1), (0, .ref b), (1, .ref o), (2, .ref mo), (3, .ref oo), (4, .ref od), (5, .int (nI 0))] dL_law_484 (by decide) rfl ?_
  refine g_aload_n (pc := 486) C 4 rfl rfl dL_law_486 ?_
  refine g_callV (pc := 487) (cells := 301) (slots := 2006) (g := 0) (As := []) (st := []) (T := TX11) (q0 := 5) C (nA := 0) rfl (c_X11_thrown mo e0 c1 c2 c3 c4 c5 1 (nI 0) (nI 0) 0 0 ) q_468 q_469 q_467 q_265 q_466 (by decide +kernel) rfl rfl dL_law_487 ⟨Nat.le_of_ble_eq_true rfl, Nat.le_of_ble_eq_true rfl⟩ [5] [0, 1, 2, 3, 4] rfl (wr := [(o, .inr (14, [.ref h, .ref pp, .ref x2, .ref x3, .ref x4, .ref o2, .ref o4, .ref o9, .ref o7, .ref o0, .ref o1])), (h, .inr (7, [.ref jj, .ref dd, .int (nI 0), .int (nI 0)])), (jj, aI k 36 (fun _ => 0)), (dd, aI k 6 (fun _ => 0)), (oo, aJ k 1 (fun _ => 0))]) rfl (by decide) (by decide) (by decide) (Nat.le_of_ble_eq_true rfl) ⟨Nat.le_of_ble_eq_true rfl, Nat.le_of_ble_eq_true rfl⟩ (fun rv w1 h1 => ?_)
  obtain ⟨rfl, rfl⟩ := h1
  refine G.aft [0, 1, 2, 3, 4, 5] (ws' := [(o, .inr (14, [.ref h, .ref pp, .ref x2, .ref x3, .ref x4, .ref o2, .ref o4, .ref o9, .ref o7, .ref o0, .ref o1])), (h, .inr (7, [.ref jj, .ref dd, .int (nI 0), .int (nI 0)])), (jj, aI k 36 (fun _ => 0)), (dd, aI k 6 (fun _ => 0)), (oo, aJ k 1 (fun _ => 0)), (mo, .inr (15, [.ref e0, .ref c1, .ref c2, .ref c3, .ref c4, .ref c5, .null, .int (nI 0), .int (nI 0), .int 0, .int 0, .int 1]))]) (st' := [.int 1]) (cells' := 301) (slots' := 2006) (g' := 0) (by decide) rfl rfl rfl rfl rfl ?_
  refine g_iload (pc := 490) C 1 rfl dL_law_490 ?_
  refine g_icmp_eq (pc := 492) C 497 (by decide) dL_law_492 (fun c_492 => ?_) (fun c_492 => ?_)
  · refine g_iload (pc := 497) C 1 rfl dL_law_497 ?_
    refine g_if_ne (pc := 499) C 514 (by decide) dL_law_499 (fun c_499 => ?_) (fun c_499 => ?_)
    · refine g_goto (pc := 514) C 1995 (by decide) dL_law_514 ?_
      refine G.re [] (ws' := []) (by decide) rfl ?_
      refine G.loc [2, 7] (lv' := [(0, .ref b), (5, .int (nI 0))]) rfl ?_
      refine G.widen (k' := 400) (n' := 3000) (g' := 0) (by decide) (by decide) (Nat.zero_le _) ?_
      exact law_end C hr hlk hX hbl hbA
    · exact absurd c_499 (by decide)
  · exact absurd c_492 (by decide)
set_option maxRecDepth 100000 in
set_option maxHeartbeats 1000000 in
theorem law_c6 {p : Program} {l : Launch} {e : Env} {s : State} {m : MethodId} {below : List Frame} {meth : Method} {c : Code} {D : va_G} {k : Nat → ClassId} {b : Nat} {xs : Nat → Int32} (C : Cx p l s m #[Value.ref b] c D k (va_A [] s.heap.size) cL_law RL 9) (hr : meth.sig.returnType = some .boolean) (hlk : meth.locks = false) (hX : va_X b 4 xs s s.heap) (hbl : b < s.heap.size) (hbA : ¬ va_A [] s.heap.size b) (c1 : Nat) (c2 : Nat) (c3 : Nat) (c4 : Nat) (c5 : Nat) (dd : Nat) (e0 : Nat) (h : Nat) (jj : Nat) (mo : Nat) (o : Nat) (o0 : Nat) (o1 : Nat) (o2 : Nat) (o4 : Nat) (o7 : Nat) (o9 : Nat) (od : Nat) (oo : Nat) (pp : Nat) (x2 : Nat) (x3 : Nat) (x4 : Nat)  : G p l e room_1 s m #[Value.ref b] below meth c D 9 (va_A [] s.heap.size) (lw_Z below #[Value.ref b] s) [(o, .inr (14, [.ref h, .ref pp, .ref x2, .ref x3, .ref x4, .ref o2, .ref o4, .ref o9, .ref o7, .ref o0, .ref o1])), (h, .inr (7, [.ref jj, .ref dd, .int (nI 0), .int (nI 0)])), (jj, aI k 36 (fun _ => 0)), (dd, aI k 6 (fun _ => 0)), (oo, aJ k 1 (fun _ => 0)), (mo, .inr (15, [.ref e0, .ref c1, .ref c2, .ref c3, .ref c4, .ref c5, .null, .int (nI 0), .int (nI 0), .int 0, .int 0, .int 0]))] [(0, .ref b), (1, .ref o), (2, .ref mo), (3, .ref oo), (4, .ref od), (5, .int (nI 0))] 300 2000 0 517 [] := by
  refine g_aload_n (pc := 517) C 1 rfl rfl dL_law_517 ?_
  refine g_aload_n (pc := 518) C 0 rfl rfl dL_law_518 ?_
  refine g_iload (pc := 519) C 5 rfl dL_law_519 ?_
  refine g_iconst (pc := 521) (v := 1) C (by decide) dL_law_521 ?_
  refine g_iadd (pc := 522) C dL_law_522 ?_
  refine G.eqs (st' := [.int (nI 1), .ref b, .ref o]) (congrArg (β := List Value) (fun z9 => [.int z9, .ref b, .ref o]) (show (((nI 0) + 1) : Int32) = (nI 1) from nI_add _ _)) ?_
  refine g_sld (pc := 523) C hX hbl hbA (j := 1) (by omega) (by omega) rfl dL_law_523 ?_
  refine g_aload_n (pc := 524) C 3 rfl rfl dL_law_524 ?_
  refine g_callSW (pc := 525) (cells := 300) (slots := 2000) (g := 0) (As := [.ref o, .int (xs 1), .ref oo]) (st := []) (b := 0) C (nA := 3) rfl (c_L_chips_z o h pp x2 x3 x4 o2 o4 o9 o7 o0 o1 jj dd oo (fun _ => 0) (xs 1) ) q_507 q_508 q_459 q_506 (by decide +kernel) dL_law_525 ⟨Nat.le_of_ble_eq_true rfl, Nat.le_of_ble_eq_true rfl⟩ [0, 1, 2, 3, 4] [5] rfl (wr := [(mo, .inr (15, [.ref e0, .ref c1, .ref c2, .ref c3, .ref c4, .ref c5, .null, .int (nI 0), .int (nI 0), .int 0, .int 0, .int 0]))]) rfl (by decide) (by decide) (by decide) (Nat.le_of_ble_eq_true rfl) ⟨Nat.le_of_ble_eq_true rfl, Nat.le_of_ble_eq_true rfl⟩ (fun rv w1 h1 => ?_)
  obtain ⟨rfl, rfl⟩ := h1
  refine G.aft [1, 2, 3, 4, 5, 0] (ws' := [(o, .inr (14, [.ref h, .ref pp, .ref x2, .ref x3, .ref x4, .ref o2, .ref o4, .ref o9, .ref o7, .ref o0, .ref o1])), (h, .inr (7, [.ref jj, .ref dd, .int (nI 0), .int (nI 0)])), (jj, aI k 36 (fun _ => 0)), (dd, aI k 6 (fun _ => 0)), (oo, aJ k 1 (fun _ => 0)), (mo, .inr (15, [.ref e0, .ref c1, .ref c2, .ref c3, .ref c4, .ref c5, .null, .int (nI 0), .int (nI 0), .int 0, .int 0, .int 0]))]) (st' := [.int 1]) (cells' := 301) (slots' := 2006) (g' := 0) (by decide) rfl rfl rfl rfl rfl ?_
  refine g_istore (pc := 528) C [(6, .int 1), (0, .ref b), (1, .ref o), (2, .ref mo), (3, .ref oo), (4, .ref od), (5, .int (nI 0))] dL_law_528 (by decide) rfl ?_
  refine g_aload_n (pc := 530) C 3 rfl rfl dL_law_530 ?_
  refine g_aload_n (pc := 531) C 1 rfl rfl dL_law_531 ?_
  refine g_iload (pc := 532) C 6 rfl dL_law_532 ?_
  refine g_iconst (pc := 534) (v := 1) C (by decide) dL_law_534 ?_
  refine g_iadd (pc := 535) C dL_law_535 ?_
  refine G.eqs (st' := [.int (nI 1), .ref b, .ref mo]) (congrArg (β := List Value) (fun z9 => [.int z9, .ref b, .ref mo]) (show (((nI 0) + 1) : Int32) = (nI 1) from nI_add _ _)) ?_
  refine g_sld (pc := 536) C hX hbl hbA (j := 1) (by omega) (by omega) rfl dL_law_536 ?_
  refine g_callV (pc := 537) (cells := 301) (slots := 2006) (g := 0) (As := [.int (xs 1)]) (st := []) (T := TX11) (q0 := 5) C (nA := 1) rfl (c_X11_chips_z mo e0 c1 c2 c3 c4 c5 0 (xs 1) ) q_511 q_512 q_510 q_265 q_509 (by decide +kernel) rfl rfl dL_law_537 ⟨Nat.le_of_ble_eq_true rfl, Nat.le_of_ble_eq_true rfl⟩ [5] [0, 1, 2, 3, 4] rfl (wr := [(o, .inr (14, [.ref h, .ref pp, .ref x2, .ref x3, .ref x4, .ref o2, .ref o4, .ref o9, .ref o7, .ref o0, .ref o1])), (h, .inr (7, [.ref jj, .ref dd, .int (nI 0), .int (nI 0)])), (jj, aI k 36 (fun _ => 0)), (dd, aI k 6 (fun _ => 0)), (oo, aJ k 1 (fun _ => 0))]) rfl (by decide) (by decide) (by decide) (Nat.le_of_ble_eq_true rfl) ⟨Nat.le_of_ble_eq_true rfl, Nat.le_of_ble_eq_true rfl⟩ (fun rv w1 h1 => ?_)
  obtain ⟨rfl, rfl⟩ := h1
  refine G.aft [0, 1, 2, 3, 4, 5] (ws' := [(o, .inr (14, [.ref h, .ref pp, .ref x2, .ref x3, .ref x4, .ref o2, .ref o4, .ref o9, .ref o7, .ref o0, .ref o1])), (h, .inr (7, [.ref jj, .ref dd, .int (nI 0), .int (nI 0)])), (jj, aI k 36 (fun _ => 0)), (dd, aI k 6 (fun _ => 0)), (oo, aJ k 1 (fun _ => 0)), (mo, .inr (15, [.ref e0, .ref c1, .ref c2, .ref c3, .ref c4, .ref c5, .null, .int (nI 0), .int (nI 0), .int 0, .int 0, .int 1]))]) (st' := [.int 0]) (cells' := 301) (slots' := 2006) (g' := 0) (by decide) rfl rfl rfl rfl rfl ?_
  refine g_istore (pc := 540) C [(7, .int 0), (6, .int 1), (0, .ref b), (1, .ref o), (2, .ref mo), (3, .ref oo), (4, .ref od), (5, .int (nI 0))] dL_law_540 (by decide) rfl ?_
  refine g_aload_n (pc := 542) C 4 rfl rfl dL_law_542 ?_
  refine g_callV (pc := 543) (cells := 301) (slots := 2006) (g := 0) (As := []) (st := []) (T := TX11) (q0 := 5) C (nA := 0) rfl (c_X11_thrown mo e0 c1 c2 c3 c4 c5 1 (nI 0) (nI 0) 0 0 ) q_468 q_469 q_467 q_265 q_466 (by decide +kernel) rfl rfl dL_law_543 ⟨Nat.le_of_ble_eq_true rfl, Nat.le_of_ble_eq_true rfl⟩ [5] [0, 1, 2, 3, 4] rfl (wr := [(o, .inr (14, [.ref h, .ref pp, .ref x2, .ref x3, .ref x4, .ref o2, .ref o4, .ref o9, .ref o7, .ref o0, .ref o1])), (h, .inr (7, [.ref jj, .ref dd, .int (nI 0), .int (nI 0)])), (jj, aI k 36 (fun _ => 0)), (dd, aI k 6 (fun _ => 0)), (oo, aJ k 1 (fun _ => 0))]) rfl (by decide) (by decide) (by decide) (Nat.le_of_ble_eq_true rfl) ⟨Nat.le_of_ble_eq_true rfl, Nat.le_of_ble_eq_true rfl⟩ (fun rv w1 h1 => ?_)
  obtain ⟨rfl, rfl⟩ := h1
  refine G.aft [0, 1, 2, 3, 4, 5] (ws' := [(o, .inr (14, [.ref h, .ref pp, .ref x2, .ref x3, .ref x4, .ref o2, .ref o4, .ref o9, .ref o7, .ref o0, .ref o1])), (h, .inr (7, [.ref jj, .ref dd, .int (nI 0), .int (nI 0)])), (jj, aI k 36 (fun _ => 0)), (dd, aI k 6 (fun _ => 0)), (oo, aJ k 1 (fun _ => 0)), (mo, .inr (15, [.ref e0, .ref c1, .ref c2, .ref c3, .ref c4, .ref c5, .null, .int (nI 0), .int (nI 0), .int 0, .int 0, .int 1]))]) (st' := [.int 1]) (cells' := 301) (slots' := 2006) (g' := 0) (by decide) rfl rfl rfl rfl rfl ?_
  refine g_iload (pc := 546) C 1 rfl dL_law_546 ?_
  refine g_icmp_eq (pc := 548) C 553 (by decide) dL_law_548 (fun c_548 => ?_) (fun c_548 => ?_)
  · refine g_iload (pc := 553) C 1 rfl dL_law_553 ?_
    refine g_if_ne (pc := 555) C 570 (by decide) dL_law_555 (fun c_555 => ?_) (fun c_555 => ?_)
    · refine g_goto (pc := 570) C 1995 (by decide) dL_law_570 ?_
      refine G.re [] (ws' := []) (by decide) rfl ?_
      refine G.loc [2, 7] (lv' := [(0, .ref b), (5, .int (nI 0))]) rfl ?_
      refine G.widen (k' := 400) (n' := 3000) (g' := 0) (by decide) (by decide) (Nat.zero_le _) ?_
      exact law_end C hr hlk hX hbl hbA
    · exact absurd c_555 (by decide)
  · exact absurd c_548 (by decide)
set_option maxRecDepth 100000 in
set_option maxHeartbeats 1000000 in
theorem law_c7 {p : Program} {l : Launch} {e : Env} {s : State} {m : MethodId} {below : List Frame} {meth : Method} {c : Code} {D : va_G} {k : Nat → ClassId} {b : Nat} {xs : Nat → Int32} (C : Cx p l s m #[Value.ref b] c D k (va_A [] s.heap.size) cL_law RL 9) (hr : meth.sig.returnType = some .boolean) (hlk : meth.locks = false) (hX : va_X b 4 xs s s.heap) (hbl : b < s.heap.size) (hbA : ¬ va_A [] s.heap.size b) (c1 : Nat) (c2 : Nat) (c3 : Nat) (c4 : Nat) (c5 : Nat) (dd : Nat) (e0 : Nat) (h : Nat) (jj : Nat) (mo : Nat) (o : Nat) (o0 : Nat) (o1 : Nat) (o2 : Nat) (o4 : Nat) (o7 : Nat) (o9 : Nat) (od : Nat) (oo : Nat) (pp : Nat) (x2 : Nat) (x3 : Nat) (x4 : Nat)  : G p l e room_1 s m #[Value.ref b] below meth c D 9 (va_A [] s.heap.size) (lw_Z below #[Value.ref b] s) [(o, .inr (14, [.ref h, .ref pp, .ref x2, .ref x3, .ref x4, .ref o2, .ref o4, .ref o9, .ref o7, .ref o0, .ref o1])), (h, .inr (7, [.ref jj, .ref dd, .int (nI 0), .int (nI 0)])), (jj, aI k 36 (fun _ => 0)), (dd, aI k 6 (fun _ => 0)), (oo, aJ k 1 (fun _ => 0)), (mo, .inr (15, [.ref e0, .ref c1, .ref c2, .ref c3, .ref c4, .ref c5, .null, .int (nI 0), .int (nI 0), .int 0, .int 0, .int 0]))] [(0, .ref b), (1, .ref o), (2, .ref mo), (3, .ref oo), (4, .ref od), (5, .int (nI 0))] 300 2000 0 573 [] := by
  refine g_aload_n (pc := 573) C 1 rfl rfl dL_law_573 ?_
  refine g_aload_n (pc := 574) C 0 rfl rfl dL_law_574 ?_
  refine g_iload (pc := 575) C 5 rfl dL_law_575 ?_
  refine g_iconst (pc := 577) (v := 1) C (by decide) dL_law_577 ?_
  refine g_iadd (pc := 578) C dL_law_578 ?_
  refine G.eqs (st' := [.int (nI 1), .ref b, .ref o]) (congrArg (β := List Value) (fun z9 => [.int z9, .ref b, .ref o]) (show (((nI 0) + 1) : Int32) = (nI 1) from nI_add _ _)) ?_
  refine g_sld (pc := 579) C hX hbl hbA (j := 1) (by omega) (by omega) rfl dL_law_579 ?_
  refine g_aload_n (pc := 580) C 3 rfl rfl dL_law_580 ?_
  refine g_callSW (pc := 581) (cells := 300) (slots := 2000) (g := 0) (As := [.ref o, .int (xs 1), .ref oo]) (st := []) (b := 0) C (nA := 3) rfl (c_L_topple_z o h pp x2 x3 x4 o2 o4 o9 o7 o0 o1 jj dd oo (fun _ => 0) (xs 1) ) q_514 q_515 q_459 q_513 (by decide +kernel) dL_law_581 ⟨Nat.le_of_ble_eq_true rfl, Nat.le_of_ble_eq_true rfl⟩ [0, 1, 2, 3, 4] [5] rfl (wr := [(mo, .inr (15, [.ref e0, .ref c1, .ref c2, .ref c3, .ref c4, .ref c5, .null, .int (nI 0), .int (nI 0), .int 0, .int 0, .int 0]))]) rfl (by decide) (by decide) (by decide) (Nat.le_of_ble_eq_true rfl) ⟨Nat.le_of_ble_eq_true rfl, Nat.le_of_ble_eq_true rfl⟩ (fun rv w1 h1 => ?_)
  obtain ⟨rfl, rfl⟩ := h1
  refine G.aft [1, 2, 3, 4, 5, 0] (ws' := [(o, .inr (14, [.ref h, .ref pp, .ref x2, .ref x3, .ref x4, .ref o2, .ref o4, .ref o9, .ref o7, .ref o0, .ref o1])), (h, .inr (7, [.ref jj, .ref dd, .int (nI 0), .int (nI 0)])), (jj, aI k 36 (fun _ => 0)), (dd, aI k 6 (fun _ => 0)), (oo, aJ k 1 (fun _ => 0)), (mo, .inr (15, [.ref e0, .ref c1, .ref c2, .ref c3, .ref c4, .ref c5, .null, .int (nI 0), .int (nI 0), .int 0, .int 0, .int 0]))]) (st' := [.int 1]) (cells' := 301) (slots' := 2006) (g' := 0) (by decide) rfl rfl rfl rfl rfl ?_
  refine g_istore (pc := 584) C [(6, .int 1), (0, .ref b), (1, .ref o), (2, .ref mo), (3, .ref oo), (4, .ref od), (5, .int (nI 0))] dL_law_584 (by decide) rfl ?_
  refine g_aload_n (pc := 586) C 3 rfl rfl dL_law_586 ?_
  refine g_aload_n (pc := 587) C 1 rfl rfl dL_law_587 ?_
  refine g_iload (pc := 588) C 6 rfl dL_law_588 ?_
  refine g_iconst (pc := 590) (v := 1) C (by decide) dL_law_590 ?_
  refine g_iadd (pc := 591) C dL_law_591 ?_
  refine G.eqs (st' := [.int (nI 1), .ref b, .ref mo]) (congrArg (β := List Value) (fun z9 => [.int z9, .ref b, .ref mo]) (show (((nI 0) + 1) : Int32) = (nI 1) from nI_add _ _)) ?_
  refine g_sld (pc := 592) C hX hbl hbA (j := 1) (by omega) (by omega) rfl dL_law_592 ?_
  refine g_callV (pc := 593) (cells := 301) (slots := 2006) (g := 0) (As := [.int (xs 1)]) (st := []) (T := TX11) (q0 := 5) C (nA := 1) rfl (c_X11_topple_z mo e0 c1 c2 c3 c4 c5 0 (xs 1) ) q_518 q_519 q_517 q_265 q_516 (by decide +kernel) rfl rfl dL_law_593 ⟨Nat.le_of_ble_eq_true rfl, Nat.le_of_ble_eq_true rfl⟩ [5] [0, 1, 2, 3, 4] rfl (wr := [(o, .inr (14, [.ref h, .ref pp, .ref x2, .ref x3, .ref x4, .ref o2, .ref o4, .ref o9, .ref o7, .ref o0, .ref o1])), (h, .inr (7, [.ref jj, .ref dd, .int (nI 0), .int (nI 0)])), (jj, aI k 36 (fun _ => 0)), (dd, aI k 6 (fun _ => 0)), (oo, aJ k 1 (fun _ => 0))]) rfl (by decide) (by decide) (by decide) (Nat.le_of_ble_eq_true rfl) ⟨Nat.le_of_ble_eq_true rfl, Nat.le_of_ble_eq_true rfl⟩ (fun rv w1 h1 => ?_)
  obtain ⟨rfl, rfl⟩ := h1
  refine G.aft [0, 1, 2, 3, 4, 5] (ws' := [(o, .inr (14, [.ref h, .ref pp, .ref x2, .ref x3, .ref x4, .ref o2, .ref o4, .ref o9, .ref o7, .ref o0, .ref o1])), (h, .inr (7, [.ref jj, .ref dd, .int (nI 0), .int (nI 0)])), (jj, aI k 36 (fun _ => 0)), (dd, aI k 6 (fun _ => 0)), (oo, aJ k 1 (fun _ => 0)), (mo, .inr (15, [.ref e0, .ref c1, .ref c2, .ref c3, .ref c4, .ref c5, .null, .int (nI 0), .int (nI 0), .int 0, .int 0, .int 1]))]) (st' := [.int 0]) (cells' := 301) (slots' := 2006) (g' := 0) (by decide) rfl rfl rfl rfl rfl ?_
  refine g_istore (pc := 596) C [(7, .int 0), (6, .int 1), (0, .ref b), (1, .ref o), (2, .ref mo), (3, .ref oo), (4, .ref od), (5, .int (nI 0))] dL_law_596 (by decide) rfl ?_
  refine g_aload_n (pc := 598) C 4 rfl rfl dL_law_598 ?_
  refine g_callV (pc := 599) (cells := 301) (slots := 2006) (g := 0) (As := []) (st := []) (T := TX11) (q0 := 5) C (nA := 0) rfl (c_X11_thrown mo e0 c1 c2 c3 c4 c5 1 (nI 0) (nI 0) 0 0 ) q_468 q_469 q_467 q_265 q_466 (by decide +kernel) rfl rfl dL_law_599 ⟨Nat.le_of_ble_eq_true rfl, Nat.le_of_ble_eq_true rfl⟩ [5] [0, 1, 2, 3, 4] rfl (wr := [(o, .inr (14, [.ref h, .ref pp, .ref x2, .ref x3, .ref x4, .ref o2, .ref o4, .ref o9, .ref o7, .ref o0, .ref o1])), (h, .inr (7, [.ref jj, .ref dd, .int (nI 0), .int (nI 0)])), (jj, aI k 36 (fun _ => 0)), (dd, aI k 6 (fun _ => 0)), (oo, aJ k 1 (fun _ => 0))]) rfl (by decide) (by decide) (by decide) (Nat.le_of_ble_eq_true rfl) ⟨Nat.le_of_ble_eq_true rfl, Nat.le_of_ble_eq_true rfl⟩ (fun rv w1 h1 => ?_)
  obtain ⟨rfl, rfl⟩ := h1
  refine G.aft [0, 1, 2, 3, 4, 5] (ws' := [(o, .inr (14, [.ref h, .ref pp, .ref x2, .ref x3, .ref x4, .ref o2, .ref o4, .ref o9, .ref o7, .ref o0, .ref o1])), (h, .inr (7, [.ref jj, .ref dd, .int (nI 0), .int (nI 0)])), (jj, aI k 36 (fun _ => 0)), (dd, aI k 6 (fun _ => 0)), (oo, aJ k 1 (fun _ => 0)), (mo, .inr (15, [.ref e0, .ref c1, .ref c2, .ref c3, .ref c4, .ref c5, .null, .int (nI 0), .int (nI 0), .int 0, .int 0, .int 1]))]) (st' := [.int 1]) (cells' := 301) (slots' := 2006) (g' := 0) (by decide) rfl rfl rfl rfl rfl ?_
  refine g_iload (pc := 602) C 1 rfl dL_law_602 ?_
  refine g_icmp_eq (pc := 604) C 609 (by decide) dL_law_604 (fun c_604 => ?_) (fun c_604 => ?_)
  · refine g_iload (pc := 609) C 1 rfl dL_law_609 ?_
    refine g_if_ne (pc := 611) C 626 (by decide) dL_law_611 (fun c_611 => ?_) (fun c_611 => ?_)
    · refine g_goto (pc := 626) C 1995 (by decide) dL_law_626 ?_
      refine G.re [] (ws' := []) (by decide) rfl ?_
      refine G.loc [2, 7] (lv' := [(0, .ref b), (5, .int (nI 0))]) rfl ?_
      refine G.widen (k' := 400) (n' := 3000) (g' := 0) (by decide) (by decide) (Nat.zero_le _) ?_
      exact law_end C hr hlk hX hbl hbA
    · exact absurd c_611 (by decide)
  · exact absurd c_604 (by decide)
set_option maxRecDepth 100000 in
set_option maxHeartbeats 1000000 in
theorem law_c8 {p : Program} {l : Launch} {e : Env} {s : State} {m : MethodId} {below : List Frame} {meth : Method} {c : Code} {D : va_G} {k : Nat → ClassId} {b : Nat} {xs : Nat → Int32} (C : Cx p l s m #[Value.ref b] c D k (va_A [] s.heap.size) cL_law RL 9) (hr : meth.sig.returnType = some .boolean) (hlk : meth.locks = false) (hX : va_X b 4 xs s s.heap) (hbl : b < s.heap.size) (hbA : ¬ va_A [] s.heap.size b) (c1 : Nat) (c2 : Nat) (c3 : Nat) (c4 : Nat) (c5 : Nat) (dd : Nat) (e0 : Nat) (h : Nat) (jj : Nat) (mo : Nat) (o : Nat) (o0 : Nat) (o1 : Nat) (o2 : Nat) (o4 : Nat) (o7 : Nat) (o9 : Nat) (od : Nat) (oo : Nat) (pp : Nat) (x2 : Nat) (x3 : Nat) (x4 : Nat)  : G p l e room_1 s m #[Value.ref b] below meth c D 9 (va_A [] s.heap.size) (lw_Z below #[Value.ref b] s) [(o, .inr (14, [.ref h, .ref pp, .ref x2, .ref x3, .ref x4, .ref o2, .ref o4, .ref o9, .ref o7, .ref o0, .ref o1])), (h, .inr (7, [.ref jj, .ref dd, .int (nI 0), .int (nI 0)])), (jj, aI k 36 (fun _ => 0)), (dd, aI k 6 (fun _ => 0)), (oo, aJ k 1 (fun _ => 0)), (mo, .inr (15, [.ref e0, .ref c1, .ref c2, .ref c3, .ref c4, .ref c5, .null, .int (nI 0), .int (nI 0), .int 0, .int 0, .int 0]))] [(0, .ref b), (1, .ref o), (2, .ref mo), (3, .ref oo), (4, .ref od), (5, .int (nI 0))] 300 2000 0 629 [] := by
  refine g_aload_n (pc := 629) C 1 rfl rfl dL_law_629 ?_
  refine g_aload_n (pc := 630) C 3 rfl rfl dL_law_630 ?_
  refine g_callSW (pc := 631) (cells := 300) (slots := 2000) (g := 0) (As := [.ref o, .ref oo]) (st := []) (b := 0) C (nA := 2) rfl (c_L_settle_z o h pp x2 x3 x4 o2 o4 o9 o7 o0 o1 jj dd oo (fun _ => 0) ) q_521 q_522 q_459 q_520 (by decide +kernel) dL_law_631 ⟨Nat.le_of_ble_eq_true rfl, Nat.le_of_ble_eq_true rfl⟩ [0, 1, 2, 3, 4] [5] rfl (wr := [(mo, .inr (15, [.ref e0, .ref c1, .ref c2, .ref c3, .ref c4, .ref c5, .null, .int (nI 0), .int (nI 0), .int 0, .int 0, .int 0]))]) rfl (by decide) (by decide) (by decide) (Nat.le_of_ble_eq_true rfl) ⟨Nat.le_of_ble_eq_true rfl, Nat.le_of_ble_eq_true rfl⟩ (fun rv w1 h1 => ?_)
  obtain ⟨rfl, rfl⟩ := h1
  refine G.aft [1, 2, 3, 4, 5, 0] (ws' := [(o, .inr (14, [.ref h, .ref pp, .ref x2, .ref x3, .ref x4, .ref o2, .ref o4, .ref o9, .ref o7, .ref o0, .ref o1])), (h, .inr (7, [.ref jj, .ref dd, .int (nI 0), .int (nI 0)])), (jj, aI k 36 (fun _ => 0)), (dd, aI k 6 (fun _ => 0)), (oo, aJ k 1 (fun _ => 0)), (mo, .inr (15, [.ref e0, .ref c1, .ref c2, .ref c3, .ref c4, .ref c5, .null, .int (nI 0), .int (nI 0), .int 0, .int 0, .int 0]))]) (st' := [.int 1]) (cells' := 301) (slots' := 2006) (g' := 0) (by decide) rfl rfl rfl rfl rfl ?_
  refine g_istore (pc := 634) C [(6, .int 1), (0, .ref b), (1, .ref o), (2, .ref mo), (3, .ref oo), (4, .ref od), (5, .int (nI 0))] dL_law_634 (by decide) rfl ?_
  refine g_aload_n (pc := 636) C 3 rfl rfl dL_law_636 ?_
  refine g_callV (pc := 637) (cells := 301) (slots := 2006) (g := 0) (As := []) (st := []) (T := TX11) (q0 := 5) C (nA := 0) rfl (c_X11_settle_z mo e0 c1 c2 c3 c4 c5 0 ) q_525 q_526 q_524 q_265 q_523 (by decide +kernel) rfl rfl dL_law_637 ⟨Nat.le_of_ble_eq_true rfl, Nat.le_of_ble_eq_true rfl⟩ [5] [0, 1, 2, 3, 4] rfl (wr := [(o, .inr (14, [.ref h, .ref pp, .ref x2, .ref x3, .ref x4, .ref o2, .ref o4, .ref o9, .ref o7, .ref o0, .ref o1])), (h, .inr (7, [.ref jj, .ref dd, .int (nI 0), .int (nI 0)])), (jj, aI k 36 (fun _ => 0)), (dd, aI k 6 (fun _ => 0)), (oo, aJ k 1 (fun _ => 0))]) rfl (by decide) (by decide) (by decide) (Nat.le_of_ble_eq_true rfl) ⟨Nat.le_of_ble_eq_true rfl, Nat.le_of_ble_eq_true rfl⟩ (fun rv w1 h1 => ?_)
  obtain ⟨rfl, rfl⟩ := h1
  refine G.aft [0, 1, 2, 3, 4, 5] (ws' := [(o, .inr (14, [.ref h, .ref pp, .ref x2, .ref x3, .ref x4, .ref o2, .ref o4, .ref o9, .ref o7, .ref o0, .ref o1])), (h, .inr (7, [.ref jj, .ref dd, .int (nI 0), .int (nI 0)])), (jj, aI k 36 (fun _ => 0)), (dd, aI k 6 (fun _ => 0)), (oo, aJ k 1 (fun _ => 0)), (mo, .inr (15, [.ref e0, .ref c1, .ref c2, .ref c3, .ref c4, .ref c5, .null, .int (nI 0), .int (nI 0), .int 0, .int 0, .int 1]))]) (st' := [.int 0]) (cells' := 301) (slots' := 2006) (g' := 0) (by decide) rfl rfl rfl rfl rfl ?_
  refine g_istore (pc := 640) C [(7, .int 0), (6, .int 1), (0, .ref b), (1, .ref o), (2, .ref mo), (3, .ref oo), (4, .ref od), (5, .int (nI 0))] dL_law_640 (by decide) rfl ?_
  refine g_aload_n (pc := 642) C 4 rfl rfl dL_law_642 ?_
  refine g_callV (pc := 643) (cells := 301) (slots := 2006) (g := 0) (As := []) (st := []) (T := TX11) (q0 := 5) C (nA := 0) rfl (c_X11_thrown mo e0 c1 c2 c3 c4 c5 1 (nI 0) (nI 0) 0 0 ) q_468 q_469 q_467 q_265 q_466 (by decide +kernel) rfl rfl dL_law_643 ⟨Nat.le_of_ble_eq_true rfl, Nat.le_of_ble_eq_true rfl⟩ [5] [0, 1, 2, 3, 4] rfl (wr := [(o, .inr (14, [.ref h, .ref pp, .ref x2, .ref x3, .ref x4, .ref o2, .ref o4, .ref o9, .ref o7, .ref o0, .ref o1])), (h, .inr (7, [.ref jj, .ref dd, .int (nI 0), .int (nI 0)])), (jj, aI k 36 (fun _ => 0)), (dd, aI k 6 (fun _ => 0)), (oo, aJ k 1 (fun _ => 0))]) rfl (by decide) (by decide) (by decide) (Nat.le_of_ble_eq_true rfl) ⟨Nat.le_of_ble_eq_true rfl, Nat.le_of_ble_eq_true rfl⟩ (fun rv w1 h1 => ?_)
  obtain ⟨rfl, rfl⟩ := h1
  refine G.aft [0, 1, 2, 3, 4, 5] (ws' := [(o, .inr (14, [.ref h, .ref pp, .ref x2, .ref x3, .ref x4, .ref o2, .ref o4, .ref o9, .ref o7, .ref o0, .ref o1])), (h, .inr (7, [.ref jj, .ref dd, .int (nI 0), .int (nI 0)])), (jj, aI k 36 (fun _ => 0)), (dd, aI k 6 (fun _ => 0)), (oo, aJ k 1 (fun _ => 0)), (mo, .inr (15, [.ref e0, .ref c1, .ref c2, .ref c3, .ref c4, .ref c5, .null, .int (nI 0), .int (nI 0), .int 0, .int 0, .int 1]))]) (st' := [.int 1]) (cells' := 301) (slots' := 2006) (g' := 0) (by decide) rfl rfl rfl rfl rfl ?_
  refine g_iload (pc := 646) C 1 rfl dL_law_646 ?_
  refine g_icmp_eq (pc := 648) C 653 (by decide) dL_law_648 (fun c_648 => ?_) (fun c_648 => ?_)
  · refine g_iload (pc := 653) C 1 rfl dL_law_653 ?_
    refine g_if_ne (pc := 655) C 670 (by decide) dL_law_655 (fun c_655 => ?_) (fun c_655 => ?_)
    · refine g_goto (pc := 670) C 1995 (by decide) dL_law_670 ?_
      refine G.re [] (ws' := []) (by decide) rfl ?_
      refine G.loc [2, 7] (lv' := [(0, .ref b), (5, .int (nI 0))]) rfl ?_
      refine G.widen (k' := 400) (n' := 3000) (g' := 0) (by decide) (by decide) (Nat.zero_le _) ?_
      exact law_end C hr hlk hX hbl hbA
    · exact absurd c_655 (by decide)
  · exact absurd c_648 (by decide)
set_option maxRecDepth 100000 in
set_option maxHeartbeats 1000000 in
theorem law_c9 {p : Program} {l : Launch} {e : Env} {s : State} {m : MethodId} {below : List Frame} {meth : Method} {c : Code} {D : va_G} {k : Nat → ClassId} {b : Nat} {xs : Nat → Int32} (C : Cx p l s m #[Value.ref b] c D k (va_A [] s.heap.size) cL_law RL 9) (hr : meth.sig.returnType = some .boolean) (hlk : meth.locks = false) (hX : va_X b 4 xs s s.heap) (hbl : b < s.heap.size) (hbA : ¬ va_A [] s.heap.size b) (c1 : Nat) (c2 : Nat) (c3 : Nat) (c4 : Nat) (c5 : Nat) (dd : Nat) (e0 : Nat) (h : Nat) (jj : Nat) (mo : Nat) (o : Nat) (o0 : Nat) (o1 : Nat) (o2 : Nat) (o4 : Nat) (o7 : Nat) (o9 : Nat) (od : Nat) (oo : Nat) (pp : Nat) (x2 : Nat) (x3 : Nat) (x4 : Nat)  : G p l e room_1 s m #[Value.ref b] below meth c D 9 (va_A [] s.heap.size) (lw_Z below #[Value.ref b] s) [(o, .inr (14, [.ref h, .ref pp, .ref x2, .ref x3, .ref x4, .ref o2, .ref o4, .ref o9, .ref o7, .ref o0, .ref o1])), (h, .inr (7, [.ref jj, .ref dd, .int (nI 0), .int (nI 0)])), (jj, aI k 36 (fun _ => 0)), (dd, aI k 6 (fun _ => 0)), (oo, aJ k 1 (fun _ => 0)), (mo, .inr (15, [.ref e0, .ref c1, .ref c2, .ref c3, .ref c4, .ref c5, .null, .int (nI 0), .int (nI 0), .int 0, .int 0, .int 0]))] [(0, .ref b), (1, .ref o), (2, .ref mo), (3, .ref oo), (4, .ref od), (5, .int (nI 0))] 300 2000 0 673 [] := by
  refine g_aload_n (pc := 673) C 1 rfl rfl dL_law_673 ?_
  refine g_aload_n (pc := 674) C 3 rfl rfl dL_law_674 ?_
  refine g_callSW (pc := 675) (cells := 300) (slots := 2000) (g := 0) (As := [.ref o, .ref oo]) (st := []) (b := 0) C (nA := 2) rfl (c_L_waves_z o h pp x2 x3 x4 o2 o4 o9 o7 o0 o1 jj dd oo (fun _ => 0) ) q_528 q_529 q_459 q_527 (by decide +kernel) dL_law_675 ⟨Nat.le_of_ble_eq_true rfl, Nat.le_of_ble_eq_true rfl⟩ [0, 1, 2, 3, 4] [5] rfl (wr := [(mo, .inr (15, [.ref e0, .ref c1, .ref c2, .ref c3, .ref c4, .ref c5, .null, .int (nI 0), .int (nI 0), .int 0, .int 0, .int 0]))]) rfl (by decide) (by decide) (by decide) (Nat.le_of_ble_eq_true rfl) ⟨Nat.le_of_ble_eq_true rfl, Nat.le_of_ble_eq_true rfl⟩ (fun rv w1 h1 => ?_)
  obtain ⟨rfl, rfl⟩ := h1
  refine G.aft [1, 2, 3, 4, 5, 0] (ws' := [(o, .inr (14, [.ref h, .ref pp, .ref x2, .ref x3, .ref x4, .ref o2, .ref o4, .ref o9, .ref o7, .ref o0, .ref o1])), (h, .inr (7, [.ref jj, .ref dd, .int (nI 0), .int (nI 0)])), (jj, aI k 36 (fun _ => 0)), (dd, aI k 6 (fun _ => 0)), (oo, aJ k 1 (fun _ => 0)), (mo, .inr (15, [.ref e0, .ref c1, .ref c2, .ref c3, .ref c4, .ref c5, .null, .int (nI 0), .int (nI 0), .int 0, .int 0, .int 0]))]) (st' := [.int 1]) (cells' := 301) (slots' := 2006) (g' := 0) (by decide) rfl rfl rfl rfl rfl ?_
  refine g_istore (pc := 678) C [(6, .int 1), (0, .ref b), (1, .ref o), (2, .ref mo), (3, .ref oo), (4, .ref od), (5, .int (nI 0))] dL_law_678 (by decide) rfl ?_
  refine g_aload_n (pc := 680) C 3 rfl rfl dL_law_680 ?_
  refine g_callV (pc := 681) (cells := 301) (slots := 2006) (g := 0) (As := []) (st := []) (T := TX11) (q0 := 5) C (nA := 0) rfl (c_X11_waves_z mo e0 c1 c2 c3 c4 c5 0 ) q_532 q_533 q_531 q_265 q_530 (by decide +kernel) rfl rfl dL_law_681 ⟨Nat.le_of_ble_eq_true rfl, Nat.le_of_ble_eq_true rfl⟩ [5] [0, 1, 2, 3, 4] rfl (wr := [(o, .inr (14, [.ref h, .ref pp, .ref x2, .ref x3, .ref x4, .ref o2, .ref o4, .ref o9, .ref o7, .ref o0, .ref o1])), (h, .inr (7, [.ref jj, .ref dd, .int (nI 0), .int (nI 0)])), (jj, aI k 36 (fun _ => 0)), (dd, aI k 6 (fun _ => 0)), (oo, aJ k 1 (fun _ => 0))]) rfl (by decide) (by decide) (by decide) (Nat.le_of_ble_eq_true rfl) ⟨Nat.le_of_ble_eq_true rfl, Nat.le_of_ble_eq_true rfl⟩ (fun rv w1 h1 => ?_)
  obtain ⟨rfl, rfl⟩ := h1
  refine G.aft [0, 1, 2, 3, 4, 5] (ws' := [(o, .inr (14, [.ref h, .ref pp, .ref x2, .ref x3, .ref x4, .ref o2, .ref o4, .ref o9, .ref o7, .ref o0, .ref o1])), (h, .inr (7, [.ref jj, .ref dd, .int (nI 0), .int (nI 0)])), (jj, aI k 36 (fun _ => 0)), (dd, aI k 6 (fun _ => 0)), (oo, aJ k 1 (fun _ => 0)), (mo, .inr (15, [.ref e0, .ref c1, .ref c2, .ref c3, .ref c4, .ref c5, .null, .int (nI 0), .int (nI 0), .int 0, .int 0, .int 1]))]) (st' := [.int 0]) (cells' := 301) (slots' := 2006) (g' := 0) (by decide) rfl rfl rfl rfl rfl ?_
  refine g_istore (pc := 684) C [(7, .int 0), (6, .int 1), (0, .ref b), (1, .ref o), (2, .ref mo), (3, .ref oo), (4, .ref od), (5, .int (nI 0))] dL_law_684 (by decide) rfl ?_
  refine g_aload_n (pc := 686) C 4 rfl rfl dL_law_686 ?_
  refine g_callV (pc := 687) (cells := 301) (slots := 2006) (g := 0) (As := []) (st := []) (T := TX11) (q0 := 5) C (nA := 0) rfl (c_X11_thrown mo e0 c1 c2 c3 c4 c5 1 (nI 0) (nI 0) 0 0 ) q_468 q_469 q_467 q_265 q_466 (by decide +kernel) rfl rfl dL_law_687 ⟨Nat.le_of_ble_eq_true rfl, Nat.le_of_ble_eq_true rfl⟩ [5] [0, 1, 2, 3, 4] rfl (wr := [(o, .inr (14, [.ref h, .ref pp, .ref x2, .ref x3, .ref x4, .ref o2, .ref o4, .ref o9, .ref o7, .ref o0, .ref o1])), (h, .inr (7, [.ref jj, .ref dd, .int (nI 0), .int (nI 0)])), (jj, aI k 36 (fun _ => 0)), (dd, aI k 6 (fun _ => 0)), (oo, aJ k 1 (fun _ => 0))]) rfl (by decide) (by decide) (by decide) (Nat.le_of_ble_eq_true rfl) ⟨Nat.le_of_ble_eq_true rfl, Nat.le_of_ble_eq_true rfl⟩ (fun rv w1 h1 => ?_)
  obtain ⟨rfl, rfl⟩ := h1
  refine G.aft [0, 1, 2, 3, 4, 5] (ws' := [(o, .inr (14, [.ref h, .ref pp, .ref x2, .ref x3, .ref x4, .ref o2, .ref o4, .ref o9, .ref o7, .ref o0, .ref o1])), (h, .inr (7, [.ref jj, .ref dd, .int (nI 0), .int (nI 0)])), (jj, aI k 36 (fun _ => 0)), (dd, aI k 6 (fun _ => 0)), (oo, aJ k 1 (fun _ => 0)), (mo, .inr (15, [.ref e0, .ref c1, .ref c2, .ref c3, .ref c4, .ref c5, .null, .int (nI 0), .int (nI 0), .int 0, .int 0, .int 1]))]) (st' := [.int 1]) (cells' := 301) (slots' := 2006) (g' := 0) (by decide) rfl rfl rfl rfl rfl ?_
  refine g_iload (pc := 690) C 1 rfl dL_law_690 ?_
  refine g_icmp_eq (pc := 692) C 697 (by decide) dL_law_692 (fun c_692 => ?_) (fun c_692 => ?_)
  · refine g_iload (pc := 697) C 1 rfl dL_law_697 ?_
    refine g_if_ne (pc := 699) C 714 (by decide) dL_law_699 (fun c_699 => ?_) (fun c_699 => ?_)
    · refine g_goto (pc := 714) C 1995 (by decide) dL_law_714 ?_
      refine G.re [] (ws' := []) (by decide) rfl ?_
      refine G.loc [2, 7] (lv' := [(0, .ref b), (5, .int (nI 0))]) rfl ?_
      refine G.widen (k' := 400) (n' := 3000) (g' := 0) (by decide) (by decide) (Nat.zero_le _) ?_
      exact law_end C hr hlk hX hbl hbA
    · exact absurd c_699 (by decide)
  · exact absurd c_692 (by decide)
set_option maxRecDepth 100000 in
set_option maxHeartbeats 1000000 in
theorem law_c10 {p : Program} {l : Launch} {e : Env} {s : State} {m : MethodId} {below : List Frame} {meth : Method} {c : Code} {D : va_G} {k : Nat → ClassId} {b : Nat} {xs : Nat → Int32} (C : Cx p l s m #[Value.ref b] c D k (va_A [] s.heap.size) cL_law RL 9) (hr : meth.sig.returnType = some .boolean) (hlk : meth.locks = false) (hX : va_X b 4 xs s s.heap) (hbl : b < s.heap.size) (hbA : ¬ va_A [] s.heap.size b) (c1 : Nat) (c2 : Nat) (c3 : Nat) (c4 : Nat) (c5 : Nat) (dd : Nat) (e0 : Nat) (h : Nat) (jj : Nat) (mo : Nat) (o : Nat) (o0 : Nat) (o1 : Nat) (o2 : Nat) (o4 : Nat) (o7 : Nat) (o9 : Nat) (od : Nat) (oo : Nat) (pp : Nat) (x2 : Nat) (x3 : Nat) (x4 : Nat)  : G p l e room_1 s m #[Value.ref b] below meth c D 9 (va_A [] s.heap.size) (lw_Z below #[Value.ref b] s) [(o, .inr (14, [.ref h, .ref pp, .ref x2, .ref x3, .ref x4, .ref o2, .ref o4, .ref o9, .ref o7, .ref o0, .ref o1])), (h, .inr (7, [.ref jj, .ref dd, .int (nI 0), .int (nI 0)])), (jj, aI k 36 (fun _ => 0)), (dd, aI k 6 (fun _ => 0)), (oo, aJ k 1 (fun _ => 0)), (mo, .inr (15, [.ref e0, .ref c1, .ref c2, .ref c3, .ref c4, .ref c5, .null, .int (nI 0), .int (nI 0), .int 0, .int 0, .int 0]))] [(0, .ref b), (1, .ref o), (2, .ref mo), (3, .ref oo), (4, .ref od), (5, .int (nI 0))] 300 2000 0 717 [] := by
  refine g_aload_n (pc := 717) C 1 rfl rfl dL_law_717 ?_
  refine g_aload_n (pc := 718) C 0 rfl rfl dL_law_718 ?_
  refine g_iload (pc := 719) C 5 rfl dL_law_719 ?_
  refine g_iconst (pc := 721) (v := 1) C (by decide) dL_law_721 ?_
  refine g_iadd (pc := 722) C dL_law_722 ?_
  refine G.eqs (st' := [.int (nI 1), .ref b, .ref o]) (congrArg (β := List Value) (fun z9 => [.int z9, .ref b, .ref o]) (show (((nI 0) + 1) : Int32) = (nI 1) from nI_add _ _)) ?_
  refine g_sld (pc := 723) C hX hbl hbA (j := 1) (by omega) (by omega) rfl dL_law_723 ?_
  refine g_aload_n (pc := 724) C 3 rfl rfl dL_law_724 ?_
  refine g_callSW (pc := 725) (cells := 300) (slots := 2000) (g := 0) (As := [.ref o, .int (xs 1), .ref oo]) (st := []) (b := 0) C (nA := 3) rfl (c_L_count_z o h pp x2 x3 x4 o2 o4 o9 o7 o0 o1 jj dd oo (fun _ => 0) (xs 1) ) q_535 q_536 q_459 q_534 (by decide +kernel) dL_law_725 ⟨Nat.le_of_ble_eq_true rfl, Nat.le_of_ble_eq_true rfl⟩ [0, 1, 2, 3, 4] [5] rfl (wr := [(mo, .inr (15, [.ref e0, .ref c1, .ref c2, .ref c3, .ref c4, .ref c5, .null, .int (nI 0), .int (nI 0), .int 0, .int 0, .int 0]))]) rfl (by decide) (by decide) (by decide) (Nat.le_of_ble_eq_true rfl) ⟨Nat.le_of_ble_eq_true rfl, Nat.le_of_ble_eq_true rfl⟩ (fun rv w1 h1 => ?_)
  obtain ⟨rfl, rfl⟩ := h1
  refine G.aft [1, 2, 3, 4, 5, 0] (ws' := [(o, .inr (14, [.ref h, .ref pp, .ref x2, .ref x3, .ref x4, .ref o2, .ref o4, .ref o9, .ref o7, .ref o0, .ref o1])), (h, .inr (7, [.ref jj, .ref dd, .int (nI 0), .int (nI 0)])), (jj, aI k 36 (fun _ => 0)), (dd, aI k 6 (fun _ => 0)), (oo, aJ k 1 (fun _ => 0)), (mo, .inr (15, [.ref e0, .ref c1, .ref c2, .ref c3, .ref c4, .ref c5, .null, .int (nI 0), .int (nI 0), .int 0, .int 0, .int 0]))]) (st' := [.int 1]) (cells' := 301) (slots' := 2006) (g' := 0) (by decide) rfl rfl rfl rfl rfl ?_
  refine g_istore (pc := 728) C [(6, .int 1), (0, .ref b), (1, .ref o), (2, .ref mo), (3, .ref oo), (4, .ref od), (5, .int (nI 0))] dL_law_728 (by decide) rfl ?_
  refine g_aload_n (pc := 730) C 3 rfl rfl dL_law_730 ?_
  refine g_aload_n (pc := 731) C 1 rfl rfl dL_law_731 ?_
  refine g_iload (pc := 732) C 6 rfl dL_law_732 ?_
  refine g_iconst (pc := 734) (v := 1) C (by decide) dL_law_734 ?_
  refine g_iadd (pc := 735) C dL_law_735 ?_
  refine G.eqs (st' := [.int (nI 1), .ref b, .ref mo]) (congrArg (β := List Value) (fun z9 => [.int z9, .ref b, .ref mo]) (show (((nI 0) + 1) : Int32) = (nI 1) from nI_add _ _)) ?_
  refine g_sld (pc := 736) C hX hbl hbA (j := 1) (by omega) (by omega) rfl dL_law_736 ?_
  refine g_callV (pc := 737) (cells := 301) (slots := 2006) (g := 0) (As := [.int (xs 1)]) (st := []) (T := TX11) (q0 := 5) C (nA := 1) rfl (c_X11_count_z mo e0 c1 c2 c3 c4 c5 0 (xs 1) ) q_539 q_540 q_538 q_265 q_537 (by decide +kernel) rfl rfl dL_law_737 ⟨Nat.le_of_ble_eq_true rfl, Nat.le_of_ble_eq_true rfl⟩ [5] [0, 1, 2, 3, 4] rfl (wr := [(o, .inr (14, [.ref h, .ref pp, .ref x2, .ref x3, .ref x4, .ref o2, .ref o4, .ref o9, .ref o7, .ref o0, .ref o1])), (h, .inr (7, [.ref jj, .ref dd, .int (nI 0), .int (nI 0)])), (jj, aI k 36 (fun _ => 0)), (dd, aI k 6 (fun _ => 0)), (oo, aJ k 1 (fun _ => 0))]) rfl (by decide) (by decide) (by decide) (Nat.le_of_ble_eq_true rfl) ⟨Nat.le_of_ble_eq_true rfl, Nat.le_of_ble_eq_true rfl⟩ (fun rv w1 h1 => ?_)
  obtain ⟨rfl, rfl⟩ := h1
  refine G.aft [0, 1, 2, 3, 4, 5] (ws' := [(o, .inr (14, [.ref h, .ref pp, .ref x2, .ref x3, .ref x4, .ref o2, .ref o4, .ref o9, .ref o7, .ref o0, .ref o1])), (h, .inr (7, [.ref jj, .ref dd, .int (nI 0), .int (nI 0)])), (jj, aI k 36 (fun _ => 0)), (dd, aI k 6 (fun _ => 0)), (oo, aJ k 1 (fun _ => 0)), (mo, .inr (15, [.ref e0, .ref c1, .ref c2, .ref c3, .ref c4, .ref c5, .null, .int (nI 0), .int (nI 0), .int 0, .int 0, .int 1]))]) (st' := [.int 0]) (cells' := 301) (slots' := 2006) (g' := 0) (by decide) rfl rfl rfl rfl rfl ?_
  refine g_istore (pc := 740) C [(7, .int 0), (6, .int 1), (0, .ref b), (1, .ref o), (2, .ref mo), (3, .ref oo), (4, .ref od), (5, .int (nI 0))] dL_law_740 (by decide) rfl ?_
  refine g_aload_n (pc := 742) C 4 rfl rfl dL_law_742 ?_
  refine g_callV (pc := 743) (cells := 301) (slots := 2006) (g := 0) (As := []) (st := []) (T := TX11) (q0 := 5) C (nA := 0) rfl (c_X11_thrown mo e0 c1 c2 c3 c4 c5 1 (nI 0) (nI 0) 0 0 ) q_468 q_469 q_467 q_265 q_466 (by decide +kernel) rfl rfl dL_law_743 ⟨Nat.le_of_ble_eq_true rfl, Nat.le_of_ble_eq_true rfl⟩ [5] [0, 1, 2, 3, 4] rfl (wr := [(o, .inr (14, [.ref h, .ref pp, .ref x2, .ref x3, .ref x4, .ref o2, .ref o4, .ref o9, .ref o7, .ref o0, .ref o1])), (h, .inr (7, [.ref jj, .ref dd, .int (nI 0), .int (nI 0)])), (jj, aI k 36 (fun _ => 0)), (dd, aI k 6 (fun _ => 0)), (oo, aJ k 1 (fun _ => 0))]) rfl (by decide) (by decide) (by decide) (Nat.le_of_ble_eq_true rfl) ⟨Nat.le_of_ble_eq_true rfl, Nat.le_of_ble_eq_true rfl⟩ (fun rv w1 h1 => ?_)
  obtain ⟨rfl, rfl⟩ := h1
  refine G.aft [0, 1, 2, 3, 4, 5] (ws' := [(o, .inr (14, [.ref h, .ref pp, .ref x2, .ref x3, .ref x4, .ref o2, .ref o4, .ref o9, .ref o7, .ref o0, .ref o1])), (h, .inr (7, [.ref jj, .ref dd, .int (nI 0), .int (nI 0)])), (jj, aI k 36 (fun _ => 0)), (dd, aI k 6 (fun _ => 0)), (oo, aJ k 1 (fun _ => 0)), (mo, .inr (15, [.ref e0, .ref c1, .ref c2, .ref c3, .ref c4, .ref c5, .null, .int (nI 0), .int (nI 0), .int 0, .int 0, .int 1]))]) (st' := [.int 1]) (cells' := 301) (slots' := 2006) (g' := 0) (by decide) rfl rfl rfl rfl rfl ?_
  refine g_iload (pc := 746) C 1 rfl dL_law_746 ?_
  refine g_icmp_eq (pc := 748) C 753 (by decide) dL_law_748 (fun c_748 => ?_) (fun c_748 => ?_)
  · refine g_iload (pc := 753) C 1 rfl dL_law_753 ?_
    refine g_if_ne (pc := 755) C 770 (by decide) dL_law_755 (fun c_755 => ?_) (fun c_755 => ?_)
    · refine g_goto (pc := 770) C 1995 (by decide) dL_law_770 ?_
      refine G.re [] (ws' := []) (by decide) rfl ?_
      refine G.loc [2, 7] (lv' := [(0, .ref b), (5, .int (nI 0))]) rfl ?_
      refine G.widen (k' := 400) (n' := 3000) (g' := 0) (by decide) (by decide) (Nat.zero_le _) ?_
      exact law_end C hr hlk hX hbl hbA
    · exact absurd c_755 (by decide)
  · exact absurd c_748 (by decide)
set_option maxRecDepth 100000 in
set_option maxHeartbeats 1000000 in
theorem law_c11 {p : Program} {l : Launch} {e : Env} {s : State} {m : MethodId} {below : List Frame} {meth : Method} {c : Code} {D : va_G} {k : Nat → ClassId} {b : Nat} {xs : Nat → Int32} (C : Cx p l s m #[Value.ref b] c D k (va_A [] s.heap.size) cL_law RL 9) (hr : meth.sig.returnType = some .boolean) (hlk : meth.locks = false) (hX : va_X b 4 xs s s.heap) (hbl : b < s.heap.size) (hbA : ¬ va_A [] s.heap.size b) (a1 : Nat) (a2 : Nat) (c1 : Nat) (c2 : Nat) (c3 : Nat) (c4 : Nat) (c5 : Nat) (e0 : Nat) (h : Nat) (mo : Nat) (o : Nat) (o0 : Nat) (o1 : Nat) (o2 : Nat) (o4 : Nat) (o7 : Nat) (o9 : Nat) (od : Nat) (oo : Nat) (pp : Nat) (r1 : Nat) (r2 : Nat) (x2 : Nat) (x3 : Nat) (x4 : Nat)  : G p l e room_1 s m #[Value.ref b] below meth c D 9 (va_A [] s.heap.size) (lw_Z below #[Value.ref b] s) [(o, .inr (14, [.ref h, .ref pp, .ref x2, .ref x3, .ref x4, .ref o2, .ref o4, .ref o9, .ref o7, .ref o0, .ref o1])), (pp, .inr (10, [.ref h, .ref r1, .ref r2, .int 0])), (r1, .inr (12, [.ref a1])), (a1, aI k 6 (fun _ => 0)), (r2, .inr (12, [.ref a2])), (a2, aI k 6 (fun _ => 0)), (mo, .inr (15, [.ref e0, .ref c1, .ref c2, .ref c3, .ref c4, .ref c5, .null, .int (nI 0), .int (nI 0), .int 0, .int 0, .int 0]))] [(0, .ref b), (1, .ref o), (2, .ref mo), (3, .ref oo), (4, .ref od), (5, .int (nI 0))] 300 2000 0 773 [] := by
  refine g_aload_n (pc := 773) C 1 rfl rfl dL_law_773 ?_
  refine g_callV (pc := 774) (cells := 300) (slots := 2000) (g := 0) (As := []) (st := []) (T := TX10) (q0 := 0) C (nA := 0) rfl (c_X10_swallowed_z o h pp x2 x3 x4 o2 o4 o9 o7 o0 o1 r1 a1 r2 a2 ) q_543 q_544 q_542 q_203 q_541 (by decide +kernel) rfl rfl dL_law_774 ⟨Nat.le_of_ble_eq_true rfl, Nat.le_of_ble_eq_true rfl⟩ [0, 1, 2, 3, 4, 5] [6] rfl (wr := [(mo, .inr (15, [.ref e0, .ref c1, .ref c2, .ref c3, .ref c4, .ref c5, .null, .int (nI 0), .int (nI 0), .int 0, .int 0, .int 0]))]) rfl (by decide) (by decide) (by decide) (Nat.le_of_ble_eq_true rfl) ⟨Nat.le_of_ble_eq_true rfl, Nat.le_of_ble_eq_true rfl⟩ (fun rv w1 h1 => ?_)
  obtain ⟨rfl, rfl⟩ := h1
  refine G.aft [1, 2, 3, 4, 5, 6, 0] (ws' := [(o, .inr (14, [.ref h, .ref pp, .ref x2, .ref x3, .ref x4, .ref o2, .ref o4, .ref o9, .ref o7, .ref o0, .ref o1])), (pp, .inr (10, [.ref h, .ref r1, .ref r2, .int 0])), (r1, .inr (12, [.ref a1])), (a1, aI k 6 (fun _ => 0)), (r2, .inr (12, [.ref a2])), (a2, aI k 6 (fun _ => 0)), (mo, .inr (15, [.ref e0, .ref c1, .ref c2, .ref c3, .ref c4, .ref c5, .null, .int (nI 0), .int (nI 0), .int 0, .int 0, .int 0]))]) (st' := [.int 0]) (cells' := 300) (slots' := 2000) (g' := 0) (by decide) rfl rfl rfl rfl rfl ?_
  refine g_aload_n (pc := 777) C 2 rfl rfl dL_law_777 ?_
  refine g_callV (pc := 778) (cells := 300) (slots := 2000) (g := 0) (As := []) (st := [.int 0]) (T := TX11) (q0 := 6) C (nA := 0) rfl (c_X11_swallowed_z mo e0 c1 c2 c3 c4 c5 0 ) q_547 q_548 q_546 q_265 q_545 (by decide +kernel) rfl rfl dL_law_778 ⟨Nat.le_of_ble_eq_true rfl, Nat.le_of_ble_eq_true rfl⟩ [6] [0, 1, 2, 3, 4, 5] rfl (wr := [(o, .inr (14, [.ref h, .ref pp, .ref x2, .ref x3, .ref x4, .ref o2, .ref o4, .ref o9, .ref o7, .ref o0, .ref o1])), (pp, .inr (10, [.ref h, .ref r1, .ref r2, .int 0])), (r1, .inr (12, [.ref a1])), (a1, aI k 6 (fun _ => 0)), (r2, .inr (12, [.ref a2])), (a2, aI k 6 (fun _ => 0))]) rfl (by decide) (by decide) (by decide) (Nat.le_of_ble_eq_true rfl) ⟨Nat.le_of_ble_eq_true rfl, Nat.le_of_ble_eq_true rfl⟩ (fun rv w1 h1 => ?_)
  obtain ⟨rfl, rfl⟩ := h1
  refine G.aft [0, 1, 2, 3, 4, 5, 6] (ws' := [(o, .inr (14, [.ref h, .ref pp, .ref x2, .ref x3, .ref x4, .ref o2, .ref o4, .ref o9, .ref o7, .ref o0, .ref o1])), (pp, .inr (10, [.ref h, .ref r1, .ref r2, .int 0])), (r1, .inr (12, [.ref a1])), (a1, aI k 6 (fun _ => 0)), (r2, .inr (12, [.ref a2])), (a2, aI k 6 (fun _ => 0)), (mo, .inr (15, [.ref e0, .ref c1, .ref c2, .ref c3, .ref c4, .ref c5, .null, .int (nI 0), .int (nI 0), .int 0, .int 0, .int 0]))]) (st' := [.int 0, .int 0]) (cells' := 300) (slots' := 2000) (g' := 0) (by decide) rfl rfl rfl rfl rfl ?_
  refine g_icmp_eq (pc := 781) C 1995 (by decide) dL_law_781 (fun c_781 => ?_) (fun c_781 => ?_)
  · refine G.re [] (ws' := []) (by decide) rfl ?_
    refine G.loc [0, 5] (lv' := [(0, .ref b), (5, .int (nI 0))]) rfl ?_
    refine G.widen (k' := 400) (n' := 3000) (g' := 0) (by decide) (by decide) (Nat.zero_le _) ?_
    exact law_end C hr hlk hX hbl hbA
  · exact absurd c_781 (by decide)
set_option maxRecDepth 100000 in
set_option maxHeartbeats 1000000 in
theorem law_c12 {p : Program} {l : Launch} {e : Env} {s : State} {m : MethodId} {below : List Frame} {meth : Method} {c : Code} {D : va_G} {k : Nat → ClassId} {b : Nat} {xs : Nat → Int32} (C : Cx p l s m #[Value.ref b] c D k (va_A [] s.heap.size) cL_law RL 9) (hr : meth.sig.returnType = some .boolean) (hlk : meth.locks = false) (hX : va_X b 4 xs s s.heap) (hbl : b < s.heap.size) (hbA : ¬ va_A [] s.heap.size b) (c1 : Nat) (c2 : Nat) (c3 : Nat) (c4 : Nat) (c5 : Nat) (dd : Nat) (e0 : Nat) (h : Nat) (jj : Nat) (mo : Nat) (o : Nat) (o0 : Nat) (o1 : Nat) (o2 : Nat) (o4 : Nat) (o7 : Nat) (o9 : Nat) (od : Nat) (oo : Nat) (pp : Nat) (x2 : Nat) (x3 : Nat) (x4 : Nat)  : G p l e room_1 s m #[Value.ref b] below meth c D 9 (va_A [] s.heap.size) (lw_Z below #[Value.ref b] s) [(o, .inr (14, [.ref h, .ref pp, .ref x2, .ref x3, .ref x4, .ref o2, .ref o4, .ref o9, .ref o7, .ref o0, .ref o1])), (h, .inr (7, [.ref jj, .ref dd, .int (nI 0), .int (nI 0)])), (jj, aI k 36 (fun _ => 0)), (dd, aI k 6 (fun _ => 0)), (oo, aJ k 1 (fun _ => 0)), (mo, .inr (15, [.ref e0, .ref c1, .ref c2, .ref c3, .ref c4, .ref c5, .null, .int (nI 0), .int (nI 0), .int 0, .int 0, .int 0]))] [(0, .ref b), (1, .ref o), (2, .ref mo), (3, .ref oo), (4, .ref od), (5, .int (nI 0))] 300 2000 0 786 [] := by
  refine g_aload_n (pc := 786) C 1 rfl rfl dL_law_786 ?_
  refine g_aload_n (pc := 787) C 3 rfl rfl dL_law_787 ?_
  refine g_callSW (pc := 788) (cells := 300) (slots := 2000) (g := 0) (As := [.ref o, .ref oo]) (st := []) (b := 0) C (nA := 2) rfl (c_L_isAgain_z o h pp x2 x3 x4 o2 o4 o9 o7 o0 o1 jj dd oo (fun _ => 0) ) q_550 q_551 q_459 q_549 (by decide +kernel) dL_law_788 ⟨Nat.le_of_ble_eq_true rfl, Nat.le_of_ble_eq_true rfl⟩ [0, 1, 2, 3, 4] [5] rfl (wr := [(mo, .inr (15, [.ref e0, .ref c1, .ref c2, .ref c3, .ref c4, .ref c5, .null, .int (nI 0), .int (nI 0), .int 0, .int 0, .int 0]))]) rfl (by decide) (by decide) (by decide) (Nat.le_of_ble_eq_true rfl) ⟨Nat.le_of_ble_eq_true rfl, Nat.le_of_ble_eq_true rfl⟩ (fun rv w1 h1 => ?_)
  obtain ⟨rfl, rfl⟩ := h1
  refine G.aft [1, 2, 3, 4, 5, 0] (ws' := [(o, .inr (14, [.ref h, .ref pp, .ref x2, .ref x3, .ref x4, .ref o2, .ref o4, .ref o9, .ref o7, .ref o0, .ref o1])), (h, .inr (7, [.ref jj, .ref dd, .int (nI 0), .int (nI 0)])), (jj, aI k 36 (fun _ => 0)), (dd, aI k 6 (fun _ => 0)), (oo, aJ k 1 (fun _ => 0)), (mo, .inr (15, [.ref e0, .ref c1, .ref c2, .ref c3, .ref c4, .ref c5, .null, .int (nI 0), .int (nI 0), .int 0, .int 0, .int 0]))]) (st' := [.int 1]) (cells' := 301) (slots' := 2006) (g' := 0) (by decide) rfl rfl rfl rfl rfl ?_
  refine g_istore (pc := 791) C [(6, .int 1), (0, .ref b), (1, .ref o), (2, .ref mo), (3, .ref oo), (4, .ref od), (5, .int (nI 0))] dL_law_791 (by decide) rfl ?_
  refine g_aload_n (pc := 793) C 3 rfl rfl dL_law_793 ?_
  refine g_callV (pc := 794) (cells := 301) (slots := 2006) (g := 0) (As := []) (st := []) (T := TX11) (q0 := 5) C (nA := 0) rfl (c_X11_isAgain_z mo e0 c1 c2 c3 c4 c5 0 ) q_554 q_555 q_553 q_265 q_552 (by decide +kernel) rfl rfl dL_law_794 ⟨Nat.le_of_ble_eq_true rfl, Nat.le_of_ble_eq_true rfl⟩ [5] [0, 1, 2, 3, 4] rfl (wr := [(o, .inr (14, [.ref h, .ref pp, .ref x2, .ref x3, .ref x4, .ref o2, .ref o4, .ref o9, .ref o7, .ref o0, .ref o1])), (h, .inr (7, [.ref jj, .ref dd, .int (nI 0), .int (nI 0)])), (jj, aI k 36 (fun _ => 0)), (dd, aI k 6 (fun _ => 0)), (oo, aJ k 1 (fun _ => 0))]) rfl (by decide) (by decide) (by decide) (Nat.le_of_ble_eq_true rfl) ⟨Nat.le_of_ble_eq_true rfl, Nat.le_of_ble_eq_true rfl⟩ (fun rv w1 h1 => ?_)
  obtain ⟨rfl, rfl⟩ := h1
  refine G.aft [0, 1, 2, 3, 4, 5] (ws' := [(o, .inr (14, [.ref h, .ref pp, .ref x2, .ref x3, .ref x4, .ref o2, .ref o4, .ref o9, .ref o7, .ref o0, .ref o1])), (h, .inr (7, [.ref jj, .ref dd, .int (nI 0), .int (nI 0)])), (jj, aI k 36 (fun _ => 0)), (dd, aI k 6 (fun _ => 0)), (oo, aJ k 1 (fun _ => 0)), (mo, .inr (15, [.ref e0, .ref c1, .ref c2, .ref c3, .ref c4, .ref c5, .null, .int (nI 0), .int (nI 0), .int 0, .int 0, .int 1]))]) (st' := [.int 0]) (cells' := 301) (slots' := 2006) (g' := 0) (by decide) rfl rfl rfl rfl rfl ?_
  refine g_istore (pc := 797) C [(7, .int 0), (6, .int 1), (0, .ref b), (1, .ref o), (2, .ref mo), (3, .ref oo), (4, .ref od), (5, .int (nI 0))] dL_law_797 (by decide) rfl ?_
  refine g_aload_n (pc := 799) C 4 rfl rfl dL_law_799 ?_
  refine g_callV (pc := 800) (cells := 301) (slots := 2006) (g := 0) (As := []) (st := []) (T := TX11) (q0 := 5) C (nA := 0) rfl (c_X11_thrown mo e0 c1 c2 c3 c4 c5 1 (nI 0) (nI 0) 0 0 ) q_468 q_469 q_467 q_265 q_466 (by decide +kernel) rfl rfl dL_law_800 ⟨Nat.le_of_ble_eq_true rfl, Nat.le_of_ble_eq_true rfl⟩ [5] [0, 1, 2, 3, 4] rfl (wr := [(o, .inr (14, [.ref h, .ref pp, .ref x2, .ref x3, .ref x4, .ref o2, .ref o4, .ref o9, .ref o7, .ref o0, .ref o1])), (h, .inr (7, [.ref jj, .ref dd, .int (nI 0), .int (nI 0)])), (jj, aI k 36 (fun _ => 0)), (dd, aI k 6 (fun _ => 0)), (oo, aJ k 1 (fun _ => 0))]) rfl (by decide) (by decide) (by decide) (Nat.le_of_ble_eq_true rfl) ⟨Nat.le_of_ble_eq_true rfl, Nat.le_of_ble_eq_true rfl⟩ (fun rv w1 h1 => ?_)
  obtain ⟨rfl, rfl⟩ := h1
  refine G.aft [0, 1, 2, 3, 4, 5] (ws' := [(o, .inr (14, [.ref h, .ref pp, .ref x2, .ref x3, .ref x4, .ref o2, .ref o4, .ref o9, .ref o7, .ref o0, .ref o1])), (h, .inr (7, [.ref jj, .ref dd, .int (nI 0), .int (nI 0)])), (jj, aI k 36 (fun _ => 0)), (dd, aI k 6 (fun _ => 0)), (oo, aJ k 1 (fun _ => 0)), (mo, .inr (15, [.ref e0, .ref c1, .ref c2, .ref c3, .ref c4, .ref c5, .null, .int (nI 0), .int (nI 0), .int 0, .int 0, .int 1]))]) (st' := [.int 1]) (cells' := 301) (slots' := 2006) (g' := 0) (by decide) rfl rfl rfl rfl rfl ?_
  refine g_iload (pc := 803) C 1 rfl dL_law_803 ?_
  refine g_icmp_eq (pc := 805) C 810 (by decide) dL_law_805 (fun c_805 => ?_) (fun c_805 => ?_)
  · refine g_iload (pc := 810) C 1 rfl dL_law_810 ?_
    refine g_if_ne (pc := 812) C 834 (by decide) dL_law_812 (fun c_812 => ?_) (fun c_812 => ?_)
    · refine g_goto (pc := 834) C 1995 (by decide) dL_law_834 ?_
      refine G.re [] (ws' := []) (by decide) rfl ?_
      refine G.loc [2, 7] (lv' := [(0, .ref b), (5, .int (nI 0))]) rfl ?_
      refine G.widen (k' := 400) (n' := 3000) (g' := 0) (by decide) (by decide) (Nat.zero_le _) ?_
      exact law_end C hr hlk hX hbl hbA
    · exact absurd c_812 (by decide)
  · exact absurd c_805 (by decide)
set_option maxRecDepth 100000 in
set_option maxHeartbeats 1000000 in
theorem law_c13 {p : Program} {l : Launch} {e : Env} {s : State} {m : MethodId} {below : List Frame} {meth : Method} {c : Code} {D : va_G} {k : Nat → ClassId} {b : Nat} {xs : Nat → Int32} (C : Cx p l s m #[Value.ref b] c D k (va_A [] s.heap.size) cL_law RL 9) (hr : meth.sig.returnType = some .boolean) (hlk : meth.locks = false) (hX : va_X b 4 xs s s.heap) (hbl : b < s.heap.size) (hbA : ¬ va_A [] s.heap.size b) (c1 : Nat) (c2 : Nat) (c3 : Nat) (c4 : Nat) (c5 : Nat) (dd : Nat) (e0 : Nat) (h : Nat) (jj : Nat) (mo : Nat) (o : Nat) (o0 : Nat) (o1 : Nat) (o2 : Nat) (o4 : Nat) (o7 : Nat) (o9 : Nat) (od : Nat) (oo : Nat) (pp : Nat) (x2 : Nat) (x3 : Nat) (x4 : Nat)  : G p l e room_1 s m #[Value.ref b] below meth c D 9 (va_A [] s.heap.size) (lw_Z below #[Value.ref b] s) [(o, .inr (14, [.ref h, .ref pp, .ref x2, .ref x3, .ref x4, .ref o2, .ref o4, .ref o9, .ref o7, .ref o0, .ref o1])), (h, .inr (7, [.ref jj, .ref dd, .int (nI 0), .int (nI 0)])), (jj, aI k 36 (fun _ => 0)), (dd, aI k 6 (fun _ => 0)), (oo, aJ k 1 (fun _ => 0)), (mo, .inr (15, [.ref e0, .ref c1, .ref c2, .ref c3, .ref c4, .ref c5, .null, .int (nI 0), .int (nI 0), .int 0, .int 0, .int 0]))] [(0, .ref b), (1, .ref o), (2, .ref mo), (3, .ref oo), (4, .ref od), (5, .int (nI 0))] 300 2000 0 837 [] := by
  refine g_aload_n (pc := 837) C 1 rfl rfl dL_law_837 ?_
  refine g_aload_n (pc := 838) C 0 rfl rfl dL_law_838 ?_
  refine g_iload (pc := 839) C 5 rfl dL_law_839 ?_
  refine g_iconst (pc := 841) (v := 1) C (by decide) dL_law_841 ?_
  refine g_iadd (pc := 842) C dL_law_842 ?_
  refine G.eqs (st' := [.int (nI 1), .ref b, .ref o]) (congrArg (β := List Value) (fun z9 => [.int z9, .ref b, .ref o]) (show (((nI 0) + 1) : Int32) = (nI 1) from nI_add _ _)) ?_
  refine g_sld (pc := 843) C hX hbl hbA (j := 1) (by omega) (by omega) rfl dL_law_843 ?_
  refine g_aload_n (pc := 844) C 3 rfl rfl dL_law_844 ?_
  refine g_callSW (pc := 845) (cells := 300) (slots := 2000) (g := 0) (As := [.ref o, .int (xs 1), .ref oo]) (st := []) (b := 0) C (nA := 3) rfl (c_L_burns_z o h pp x2 x3 x4 o2 o4 o9 o7 o0 o1 jj dd oo (fun _ => 0) (xs 1) ) q_557 q_558 q_459 q_556 (by decide +kernel) dL_law_845 ⟨Nat.le_of_ble_eq_true rfl, Nat.le_of_ble_eq_true rfl⟩ [0, 1, 2, 3, 4] [5] rfl (wr := [(mo, .inr (15, [.ref e0, .ref c1, .ref c2, .ref c3, .ref c4, .ref c5, .null, .int (nI 0), .int (nI 0), .int 0, .int 0, .int 0]))]) rfl (by decide) (by decide) (by decide) (Nat.le_of_ble_eq_true rfl) ⟨Nat.le_of_ble_eq_true rfl, Nat.le_of_ble_eq_true rfl⟩ (fun rv w1 h1 => ?_)
  obtain ⟨rfl, rfl⟩ := h1
  refine G.aft [1, 2, 3, 4, 5, 0] (ws' := [(o, .inr (14, [.ref h, .ref pp, .ref x2, .ref x3, .ref x4, .ref o2, .ref o4, .ref o9, .ref o7, .ref o0, .ref o1])), (h, .inr (7, [.ref jj, .ref dd, .int (nI 0), .int (nI 0)])), (jj, aI k 36 (fun _ => 0)), (dd, aI k 6 (fun _ => 0)), (oo, aJ k 1 (fun _ => 0)), (mo, .inr (15, [.ref e0, .ref c1, .ref c2, .ref c3, .ref c4, .ref c5, .null, .int (nI 0), .int (nI 0), .int 0, .int 0, .int 0]))]) (st' := [.int 1]) (cells' := 301) (slots' := 2006) (g' := 0) (by decide) rfl rfl rfl rfl rfl ?_
  refine g_istore (pc := 848) C [(6, .int 1), (0, .ref b), (1, .ref o), (2, .ref mo), (3, .ref oo), (4, .ref od), (5, .int (nI 0))] dL_law_848 (by decide) rfl ?_
  refine g_aload_n (pc := 850) C 3 rfl rfl dL_law_850 ?_
  refine g_aload_n (pc := 851) C 1 rfl rfl dL_law_851 ?_
  refine g_iload (pc := 852) C 6 rfl dL_law_852 ?_
  refine g_iconst (pc := 854) (v := 1) C (by decide) dL_law_854 ?_
  refine g_iadd (pc := 855) C dL_law_855 ?_
  refine G.eqs (st' := [.int (nI 1), .ref b, .ref mo]) (congrArg (β := List Value) (fun z9 => [.int z9, .ref b, .ref mo]) (show (((nI 0) + 1) : Int32) = (nI 1) from nI_add _ _)) ?_
  refine g_sld (pc := 856) C hX hbl hbA (j := 1) (by omega) (by omega) rfl dL_law_856 ?_
  refine g_callV (pc := 857) (cells := 301) (slots := 2006) (g := 0) (As := [.int (xs 1)]) (st := []) (T := TX11) (q0 := 5) C (nA := 1) rfl (c_X11_burns_z mo e0 c1 c2 c3 c4 c5 0 (xs 1) ) q_561 q_562 q_560 q_265 q_559 (by decide +kernel) rfl rfl dL_law_857 ⟨Nat.le_of_ble_eq_true rfl, Nat.le_of_ble_eq_true rfl⟩ [5] [0, 1, 2, 3, 4] rfl (wr := [(o, .inr (14, [.ref h, .ref pp, .ref x2, .ref x3, .ref x4, .ref o2, .ref o4, .ref o9, .ref o7, .ref o0, .ref o1])), (h, .inr (7, [.ref jj, .ref dd, .int (nI 0), .int (nI 0)])), (jj, aI k 36 (fun _ => 0)), (dd, aI k 6 (fun _ => 0)), (oo, aJ k 1 (fun _ => 0))]) rfl (by decide) (by decide) (by decide) (Nat.le_of_ble_eq_true rfl) ⟨Nat.le_of_ble_eq_true rfl, Nat.le_of_ble_eq_true rfl⟩ (fun rv w1 h1 => ?_)
  obtain ⟨rfl, rfl⟩ := h1
  refine G.aft [0, 1, 2, 3, 4, 5] (ws' := [(o, .inr (14, [.ref h, .ref pp, .ref x2, .ref x3, .ref x4, .ref o2, .ref o4, .ref o9, .ref o7, .ref o0, .ref o1])), (h, .inr (7, [.ref jj, .ref dd, .int (nI 0), .int (nI 0)])), (jj, aI k 36 (fun _ => 0)), (dd, aI k 6 (fun _ => 0)), (oo, aJ k 1 (fun _ => 0)), (mo, .inr (15, [.ref e0, .ref c1, .ref c2, .ref c3, .ref c4, .ref c5, .null, .int (nI 0), .int (nI 0), .int 0, .int 0, .int 1]))]) (st' := [.int 0]) (cells' := 301) (slots' := 2006) (g' := 0) (by decide) rfl rfl rfl rfl rfl ?_
  refine g_istore (pc := 860) C [(7, .int 0), (6, .int 1), (0, .ref b), (1, .ref o), (2, .ref mo), (3, .ref oo), (4, .ref od), (5, .int (nI 0))] dL_law_860 (by decide) rfl ?_
  refine g_aload_n (pc := 862) C 4 rfl rfl dL_law_862 ?_
  refine g_callV (pc := 863) (cells := 301) (slots := 2006) (g := 0) (As := []) (st := []) (T := TX11) (q0 := 5) C (nA := 0) rfl (c_X11_thrown mo e0 c1 c2 c3 c4 c5 1 (nI 0) (nI 0) 0 0 ) q_468 q_469 q_467 q_265 q_466 (by decide +kernel) rfl rfl dL_law_863 ⟨Nat.le_of_ble_eq_true rfl, Nat.le_of_ble_eq_true rfl⟩ [5] [0, 1, 2, 3, 4] rfl (wr := [(o, .inr (14, [.ref h, .ref pp, .ref x2, .ref x3, .ref x4, .ref o2, .ref o4, .ref o9, .ref o7, .ref o0, .ref o1])), (h, .inr (7, [.ref jj, .ref dd, .int (nI 0), .int (nI 0)])), (jj, aI k 36 (fun _ => 0)), (dd, aI k 6 (fun _ => 0)), (oo, aJ k 1 (fun _ => 0))]) rfl (by decide) (by decide) (by decide) (Nat.le_of_ble_eq_true rfl) ⟨Nat.le_of_ble_eq_true rfl, Nat.le_of_ble_eq_true rfl⟩ (fun rv w1 h1 => ?_)
  obtain ⟨rfl, rfl⟩ := h1
  refine G.aft [0, 1, 2, 3, 4, 5] (ws' := [(o, .inr (14, [.ref h, .ref pp, .ref x2, .ref x3, .ref x4, .ref o2, .ref o4, .ref o9, .ref o7, .ref o0, .ref o1])), (h, .inr (7, [.ref jj, .ref dd, .int (nI 0), .int (nI 0)])), (jj, aI k 36 (fun _ => 0)), (dd, aI k 6 (fun _ => 0)), (oo, aJ k 1 (fun _ => 0)), (mo, .inr (15, [.ref e0, .ref c1, .ref c2, .ref c3, .ref c4, .ref c5, .null, .int (nI 0), .int (nI 0), .int 0, .int 0, .int 1]))]) (st' := [.int 1]) (cells' := 301) (slots' := 2006) (g' := 0) (by decide) rfl rfl rfl rfl rfl ?_
  refine g_iload (pc := 866) C 1 rfl dL_law_866 ?_
  refine g_icmp_eq (pc := 868) C 873 (by decide) dL_law_868 (fun c_868 => ?_) (fun c_868 => ?_)
  · refine g_iload (pc := 873) C 1 rfl dL_law_873 ?_
    refine g_if_ne (pc := 875) C 890 (by decide) dL_law_875 (fun c_875 => ?_) (fun c_875 => ?_)
    · refine g_goto (pc := 890) C 1995 (by decide) dL_law_890 ?_
      refine G.re [] (ws' := []) (by decide) rfl ?_
      refine G.loc [2, 7] (lv' := [(0, .ref b), (5, .int (nI 0))]) rfl ?_
      refine G.widen (k' := 400) (n' := 3000) (g' := 0) (by decide) (by decide) (Nat.zero_le _) ?_
      exact law_end C hr hlk hX hbl hbA
    · exact absurd c_875 (by decide)
  · exact absurd c_868 (by decide)
set_option maxRecDepth 100000 in
set_option maxHeartbeats 1000000 in
theorem law_c14 {p : Program} {l : Launch} {e : Env} {s : State} {m : MethodId} {below : List Frame} {meth : Method} {c : Code} {D : va_G} {k : Nat → ClassId} {b : Nat} {xs : Nat → Int32} (C : Cx p l s m #[Value.ref b] c D k (va_A [] s.heap.size) cL_law RL 9) (hr : meth.sig.returnType = some .boolean) (hlk : meth.locks = false) (hX : va_X b 4 xs s s.heap) (hbl : b < s.heap.size) (hbA : ¬ va_A [] s.heap.size b) (c1 : Nat) (c2 : Nat) (c3 : Nat) (c4 : Nat) (c5 : Nat) (dd : Nat) (e0 : Nat) (h : Nat) (jj : Nat) (mo : Nat) (o : Nat) (o0 : Nat) (o1 : Nat) (o2 : Nat) (o4 : Nat) (o7 : Nat) (o9 : Nat) (od : Nat) (oo : Nat) (pp : Nat) (x2 : Nat) (x3 : Nat) (x4 : Nat)  : G p l e room_1 s m #[Value.ref b] below meth c D 9 (va_A [] s.heap.size) (lw_Z below #[Value.ref b] s) [(o, .inr (14, [.ref h, .ref pp, .ref x2, .ref x3, .ref x4, .ref o2, .ref o4, .ref o9, .ref o7, .ref o0, .ref o1])), (h, .inr (7, [.ref jj, .ref dd, .int (nI 0), .int (nI 0)])), (jj, aI k 36 (fun _ => 0)), (dd, aI k 6 (fun _ => 0)), (oo, aJ k 1 (fun _ => 0)), (mo, .inr (15, [.ref e0, .ref c1, .ref c2, .ref c3, .ref c4, .ref c5, .null, .int (nI 0), .int (nI 0), .int 0, .int 0, .int 0]))] [(0, .ref b), (1, .ref o), (2, .ref mo), (3, .ref oo), (4, .ref od), (5, .int (nI 0))] 300 2000 0 893 [] := by
  refine g_aload_n (pc := 893) C 1 rfl rfl dL_law_893 ?_
  refine g_aload_n (pc := 894) C 0 rfl rfl dL_law_894 ?_
  refine g_iload (pc := 895) C 5 rfl dL_law_895 ?_
  refine g_iconst (pc := 897) (v := 1) C (by decide) dL_law_897 ?_
  refine g_iadd (pc := 898) C dL_law_898 ?_
  refine G.eqs (st' := [.int (nI 1), .ref b, .ref o]) (congrArg (β := List Value) (fun z9 => [.int z9, .ref b, .ref o]) (show (((nI 0) + 1) : Int32) = (nI 1) from nI_add _ _)) ?_
  refine g_sld (pc := 899) C hX hbl hbA (j := 1) (by omega) (by omega) rfl dL_law_899 ?_
  refine g_aload_n (pc := 900) C 3 rfl rfl dL_law_900 ?_
  refine g_callSW (pc := 901) (cells := 300) (slots := 2000) (g := 0) (As := [.ref o, .int (xs 1), .ref oo]) (st := []) (b := 0) C (nA := 3) rfl (c_L_unit_z o h pp x2 x3 x4 o2 o4 o9 o7 o0 o1 jj dd oo (fun _ => 0) (xs 1) ) q_564 q_565 q_459 q_563 (by decide +kernel) dL_law_901 ⟨Nat.le_of_ble_eq_true rfl, Nat.le_of_ble_eq_true rfl⟩ [0, 1, 2, 3, 4] [5] rfl (wr := [(mo, .inr (15, [.ref e0, .ref c1, .ref c2, .ref c3, .ref c4, .ref c5, .null, .int (nI 0), .int (nI 0), .int 0, .int 0, .int 0]))]) rfl (by decide) (by decide) (by decide) (Nat.le_of_ble_eq_true rfl) ⟨Nat.le_of_ble_eq_true rfl, Nat.le_of_ble_eq_true rfl⟩ (fun rv w1 h1 => ?_)
  obtain ⟨rfl, rfl⟩ := h1
  refine G.aft [1, 2, 3, 4, 5, 0] (ws' := [(o, .inr (14, [.ref h, .ref pp, .ref x2, .ref x3, .ref x4, .ref o2, .ref o4, .ref o9, .ref o7, .ref o0, .ref o1])), (h, .inr (7, [.ref jj, .ref dd, .int (nI 0), .int (nI 0)])), (jj, aI k 36 (fun _ => 0)), (dd, aI k 6 (fun _ => 0)), (oo, aJ k 1 (fun _ => 0)), (mo, .inr (15, [.ref e0, .ref c1, .ref c2, .ref c3, .ref c4, .ref c5, .null, .int (nI 0), .int (nI 0), .int 0, .int 0, .int 0]))]) (st' := [.int 1]) (cells' := 301) (slots' := 2006) (g' := 0) (by decide) rfl rfl rfl rfl rfl ?_
  refine g_istore (pc := 904) C [(6, .int 1), (0, .ref b), (1, .ref o), (2, .ref mo), (3, .ref oo), (4, .ref od), (5, .int (nI 0))] dL_law_904 (by decide) rfl ?_
  refine g_aload_n (pc := 906) C 3 rfl rfl dL_law_906 ?_
  refine g_aload_n (pc := 907) C 1 rfl rfl dL_law_907 ?_
  refine g_iload (pc := 908) C 6 rfl dL_law_908 ?_
  refine g_iconst (pc := 910) (v := 1) C (by decide) dL_law_910 ?_
  refine g_iadd (pc := 911) C dL_law_911 ?_
  refine G.eqs (st' := [.int (nI 1), .ref b, .ref mo]) (congrArg (β := List Value) (fun z9 => [.int z9, .ref b, .ref mo]) (show (((nI 0) + 1) : Int32) = (nI 1) from nI_add _ _)) ?_
  refine g_sld (pc := 912) C hX hbl hbA (j := 1) (by omega) (by omega) rfl dL_law_912 ?_
  refine g_callV (pc := 913) (cells := 301) (slots := 2006) (g := 0) (As := [.int (xs 1)]) (st := []) (T := TX11) (q0 := 5) C (nA := 1) rfl (c_X11_unit_z mo e0 c1 c2 c3 c4 c5 0 (xs 1) ) q_568 q_569 q_567 q_265 q_566 (by decide +kernel) rfl rfl dL_law_913 ⟨Nat.le_of_ble_eq_true rfl, Nat.le_of_ble_eq_true rfl⟩ [5] [0, 1, 2, 3, 4] rfl (wr := [(o, .inr (14, [.ref h, .ref pp, .ref x2, .ref x3, .ref x4, .ref o2, .ref o4, .ref o9, .ref o7, .ref o0, .ref o1])), (h, .inr (7, [.ref jj, .ref dd, .int (nI 0), .int (nI 0)])), (jj, aI k 36 (fun _ => 0)), (dd, aI k 6 (fun _ => 0)), (oo, aJ k 1 (fun _ => 0))]) rfl (by decide) (by decide) (by decide) (Nat.le_of_ble_eq_true rfl) ⟨Nat.le_of_ble_eq_true rfl, Nat.le_of_ble_eq_true rfl⟩ (fun rv w1 h1 => ?_)
  obtain ⟨rfl, rfl⟩ := h1
  refine G.aft [0, 1, 2, 3, 4, 5] (ws' := [(o, .inr (14, [.ref h, .ref pp, .ref x2, .ref x3, .ref x4, .ref o2, .ref o4, .ref o9, .ref o7, .ref o0, .ref o1])), (h, .inr (7, [.ref jj, .ref dd, .int (nI 0), .int (nI 0)])), (jj, aI k 36 (fun _ => 0)), (dd, aI k 6 (fun _ => 0)), (oo, aJ k 1 (fun _ => 0)), (mo, .inr (15, [.ref e0, .ref c1, .ref c2, .ref c3, .ref c4, .ref c5, .null, .int (nI 0), .int (nI 0), .int 0, .int 0, .int 1]))]) (st' := [.int 0]) (cells' := 301) (slots' := 2006) (g' := 0) (by decide) rfl rfl rfl rfl rfl ?_
  refine g_istore (pc := 916) C [(7, .int 0), (6, .int 1), (0, .ref b), (1, .ref o), (2, .ref mo), (3, .ref oo), (4, .ref od), (5, .int (nI 0))] dL_law_916 (by decide) rfl ?_
  refine g_aload_n (pc := 918) C 4 rfl rfl dL_law_918 ?_
  refine g_callV (pc := 919) (cells := 301) (slots := 2006) (g := 0) (As := []) (st := []) (T := TX11) (q0 := 5) C (nA := 0) rfl (c_X11_thrown mo e0 c1 c2 c3 c4 c5 1 (nI 0) (nI 0) 0 0 ) q_468 q_469 q_467 q_265 q_466 (by decide +kernel) rfl rfl dL_law_919 ⟨Nat.le_of_ble_eq_true rfl, Nat.le_of_ble_eq_true rfl⟩ [5] [0, 1, 2, 3, 4] rfl (wr := [(o, .inr (14, [.ref h, .ref pp, .ref x2, .ref x3, .ref x4, .ref o2, .ref o4, .ref o9, .ref o7, .ref o0, .ref o1])), (h, .inr (7, [.ref jj, .ref dd, .int (nI 0), .int (nI 0)])), (jj, aI k 36 (fun _ => 0)), (dd, aI k 6 (fun _ => 0)), (oo, aJ k 1 (fun _ => 0))]) rfl (by decide) (by decide) (by decide) (Nat.le_of_ble_eq_true rfl) ⟨Nat.le_of_ble_eq_true rfl, Nat.le_of_ble_eq_true rfl⟩ (fun rv w1 h1 => ?_)
  obtain ⟨rfl, rfl⟩ := h1
  refine G.aft [0, 1, 2, 3, 4, 5] (ws' := [(o, .inr (14, [.ref h, .ref pp, .ref x2, .ref x3, .ref x4, .ref o2, .ref o4, .ref o9, .ref o7, .ref o0, .ref o1])), (h, .inr (7, [.ref jj, .ref dd, .int (nI 0), .int (nI 0)])), (jj, aI k 36 (fun _ => 0)), (dd, aI k 6 (fun _ => 0)), (oo, aJ k 1 (fun _ => 0)), (mo, .inr (15, [.ref e0, .ref c1, .ref c2, .ref c3, .ref c4, .ref c5, .null, .int (nI 0), .int (nI 0), .int 0, .int 0, .int 1]))]) (st' := [.int 1]) (cells' := 301) (slots' := 2006) (g' := 0) (by decide) rfl rfl rfl rfl rfl ?_
  refine g_iload (pc := 922) C 1 rfl dL_law_922 ?_
  refine g_icmp_eq (pc := 924) C 929 (by decide) dL_law_924 (fun c_924 => ?_) (fun c_924 => ?_)
  · refine g_iload (pc := 929) C 1 rfl dL_law_929 ?_
    refine g_if_ne (pc := 931) C 946 (by decide) dL_law_931 (fun c_931 => ?_) (fun c_931 => ?_)
    · refine g_goto (pc := 946) C 1995 (by decide) dL_law_946 ?_
      refine G.re [] (ws' := []) (by decide) rfl ?_
      refine G.loc [2, 7] (lv' := [(0, .ref b), (5, .int (nI 0))]) rfl ?_
      refine G.widen (k' := 400) (n' := 3000) (g' := 0) (by decide) (by decide) (Nat.zero_le _) ?_
      exact law_end C hr hlk hX hbl hbA
    · exact absurd c_931 (by decide)
  · exact absurd c_924 (by decide)
set_option maxRecDepth 100000 in
set_option maxHeartbeats 1000000 in
theorem law_c15 {p : Program} {l : Launch} {e : Env} {s : State} {m : MethodId} {below : List Frame} {meth : Method} {c : Code} {D : va_G} {k : Nat → ClassId} {b : Nat} {xs : Nat → Int32} (C : Cx p l s m #[Value.ref b] c D k (va_A [] s.heap.size) cL_law RL 9) (hr : meth.sig.returnType = some .boolean) (hlk : meth.locks = false) (hX : va_X b 4 xs s s.heap) (hbl : b < s.heap.size) (hbA : ¬ va_A [] s.heap.size b) (c1 : Nat) (c2 : Nat) (c3 : Nat) (c4 : Nat) (c5 : Nat) (dd : Nat) (e0 : Nat) (h : Nat) (jj : Nat) (mo : Nat) (o : Nat) (o0 : Nat) (o1 : Nat) (o2 : Nat) (o4 : Nat) (o7 : Nat) (o9 : Nat) (od : Nat) (oo : Nat) (pp : Nat) (x2 : Nat) (x3 : Nat) (x4 : Nat)  : G p l e room_1 s m #[Value.ref b] below meth c D 9 (va_A [] s.heap.size) (lw_Z below #[Value.ref b] s) [(o, .inr (14, [.ref h, .ref pp, .ref x2, .ref x3, .ref x4, .ref o2, .ref o4, .ref o9, .ref o7, .ref o0, .ref o1])), (h, .inr (7, [.ref jj, .ref dd, .int (nI 0), .int (nI 0)])), (jj, aI k 36 (fun _ => 0)), (dd, aI k 6 (fun _ => 0)), (oo, aJ k 1 (fun _ => 0)), (mo, .inr (15, [.ref e0, .ref c1, .ref c2, .ref c3, .ref c4, .ref c5, .null, .int (nI 0), .int (nI 0), .int 0, .int 0, .int 0]))] [(0, .ref b), (1, .ref o), (2, .ref mo), (3, .ref oo), (4, .ref od), (5, .int (nI 0))] 300 2000 0 949 [] := by
  refine g_aload_n (pc := 949) C 1 rfl rfl dL_law_949 ?_
  refine g_aload_n (pc := 950) C 3 rfl rfl dL_law_950 ?_
  refine g_callSW (pc := 951) (cells := 300) (slots := 2000) (g := 0) (As := [.ref o, .ref oo]) (st := []) (b := 0) C (nA := 2) rfl (c_L_square_z o h pp x2 x3 x4 o2 o4 o9 o7 o0 o1 jj dd oo (fun _ => 0) ) q_571 q_572 q_459 q_570 (by decide +kernel) dL_law_951 ⟨Nat.le_of_ble_eq_true rfl, Nat.le_of_ble_eq_true rfl⟩ [0, 1, 2, 3, 4] [5] rfl (wr := [(mo, .inr (15, [.ref e0, .ref c1, .ref c2, .ref c3, .ref c4, .ref c5, .null, .int (nI 0), .int (nI 0), .int 0, .int 0, .int 0]))]) rfl (by decide) (by decide) (by decide) (Nat.le_of_ble_eq_true rfl) ⟨Nat.le_of_ble_eq_true rfl, Nat.le_of_ble_eq_true rfl⟩ (fun rv w1 h1 => ?_)
  obtain ⟨rfl, rfl⟩ := h1
  refine G.aft [1, 2, 3, 4, 5, 0] (ws' := [(o, .inr (14, [.ref h, .ref pp, .ref x2, .ref x3, .ref x4, .ref o2, .ref o4, .ref o9, .ref o7, .ref o0, .ref o1])), (h, .inr (7, [.ref jj, .ref dd, .int (nI 0), .int (nI 0)])), (jj, aI k 36 (fun _ => 0)), (dd, aI k 6 (fun _ => 0)), (oo, aJ k 1 (fun _ => 0)), (mo, .inr (15, [.ref e0, .ref c1, .ref c2, .ref c3, .ref c4, .ref c5, .null, .int (nI 0), .int (nI 0), .int 0, .int 0, .int 0]))]) (st' := [.int 1]) (cells' := 301) (slots' := 2006) (g' := 0) (by decide) rfl rfl rfl rfl rfl ?_
  refine g_istore (pc := 954) C [(6, .int 1), (0, .ref b), (1, .ref o), (2, .ref mo), (3, .ref oo), (4, .ref od), (5, .int (nI 0))] dL_law_954 (by decide) rfl ?_
  refine g_aload_n (pc := 956) C 3 rfl rfl dL_law_956 ?_
  refine g_callV (pc := 957) (cells := 301) (slots := 2006) (g := 0) (As := []) (st := []) (T := TX11) (q0 := 5) C (nA := 0) rfl (c_X11_square_z mo e0 c1 c2 c3 c4 c5 0 ) q_575 q_576 q_574 q_265 q_573 (by decide +kernel) rfl rfl dL_law_957 ⟨Nat.le_of_ble_eq_true rfl, Nat.le_of_ble_eq_true rfl⟩ [5] [0, 1, 2, 3, 4] rfl (wr := [(o, .inr (14, [.ref h, .ref pp, .ref x2, .ref x3, .ref x4, .ref o2, .ref o4, .ref o9, .ref o7, .ref o0, .ref o1])), (h, .inr (7, [.ref jj, .ref dd, .int (nI 0), .int (nI 0)])), (jj, aI k 36 (fun _ => 0)), (dd, aI k 6 (fun _ => 0)), (oo, aJ k 1 (fun _ => 0))]) rfl (by decide) (by decide) (by decide) (Nat.le_of_ble_eq_true rfl) ⟨Nat.le_of_ble_eq_true rfl, Nat.le_of_ble_eq_true rfl⟩ (fun rv w1 h1 => ?_)
  obtain ⟨rfl, rfl⟩ := h1
  refine G.aft [0, 1, 2, 3, 4, 5] (ws' := [(o, .inr (14, [.ref h, .ref pp, .ref x2, .ref x3, .ref x4, .ref o2, .ref o4, .ref o9, .ref o7, .ref o0, .ref o1])), (h, .inr (7, [.ref jj, .ref dd, .int (nI 0), .int (nI 0)])), (jj, aI k 36 (fun _ => 0)), (dd, aI k 6 (fun _ => 0)), (oo, aJ k 1 (fun _ => 0)), (mo, .inr (15, [.ref e0, .ref c1, .ref c2, .ref c3, .ref c4, .ref c5, .null, .int (nI 0), .int (nI 0), .int 0, .int 0, .int 1]))]) (st' := [.int 0]) (cells' := 301) (slots' := 2006) (g' := 0) (by decide) rfl rfl rfl rfl rfl ?_
  refine g_istore (pc := 960) C [(7, .int 0), (6, .int 1), (0, .ref b), (1, .ref o), (2, .ref mo), (3, .ref oo), (4, .ref od), (5, .int (nI 0))] dL_law_960 (by decide) rfl ?_
  refine g_aload_n (pc := 962) C 4 rfl rfl dL_law_962 ?_
  refine g_callV (pc := 963) (cells := 301) (slots := 2006) (g := 0) (As := []) (st := []) (T := TX11) (q0 := 5) C (nA := 0) rfl (c_X11_thrown mo e0 c1 c2 c3 c4 c5 1 (nI 0) (nI 0) 0 0 ) q_468 q_469 q_467 q_265 q_466 (by decide +kernel) rfl rfl dL_law_963 ⟨Nat.le_of_ble_eq_true rfl, Nat.le_of_ble_eq_true rfl⟩ [5] [0, 1, 2, 3, 4] rfl (wr := [(o, .inr (14, [.ref h, .ref pp, .ref x2, .ref x3, .ref x4, .ref o2, .ref o4, .ref o9, .ref o7, .ref o0, .ref o1])), (h, .inr (7, [.ref jj, .ref dd, .int (nI 0), .int (nI 0)])), (jj, aI k 36 (fun _ => 0)), (dd, aI k 6 (fun _ => 0)), (oo, aJ k 1 (fun _ => 0))]) rfl (by decide) (by decide) (by decide) (Nat.le_of_ble_eq_true rfl) ⟨Nat.le_of_ble_eq_true rfl, Nat.le_of_ble_eq_true rfl⟩ (fun rv w1 h1 => ?_)
  obtain ⟨rfl, rfl⟩ := h1
  refine G.aft [0, 1, 2, 3, 4, 5] (ws' := [(o, .inr (14, [.ref h, .ref pp, .ref x2, .ref x3, .ref x4, .ref o2, .ref o4, .ref o9, .ref o7, .ref o0, .ref o1])), (h, .inr (7, [.ref jj, .ref dd, .int (nI 0), .int (nI 0)])), (jj, aI k 36 (fun _ => 0)), (dd, aI k 6 (fun _ => 0)), (oo, aJ k 1 (fun _ => 0)), (mo, .inr (15, [.ref e0, .ref c1, .ref c2, .ref c3, .ref c4, .ref c5, .null, .int (nI 0), .int (nI 0), .int 0, .int 0, .int 1]))]) (st' := [.int 1]) (cells' := 301) (slots' := 2006) (g' := 0) (by decide) rfl rfl rfl rfl rfl ?_
  refine g_iload (pc := 966) C 1 rfl dL_law_966 ?_
  refine g_icmp_eq (pc := 968) C 973 (by decide) dL_law_968 (fun c_968 => ?_) (fun c_968 => ?_)
  · refine g_iload (pc := 973) C 1 rfl dL_law_973 ?_
    refine g_if_ne (pc := 975) C 990 (by decide) dL_law_975 (fun c_975 => ?_) (fun c_975 => ?_)
    · refine g_goto (pc := 990) C 1995 (by decide) dL_law_990 ?_
      refine G.re [] (ws' := []) (by decide) rfl ?_
      refine G.loc [2, 7] (lv' := [(0, .ref b), (5, .int (nI 0))]) rfl ?_
      refine G.widen (k' := 400) (n' := 3000) (g' := 0) (by decide) (by decide) (Nat.zero_le _) ?_
      exact law_end C hr hlk hX hbl hbA
    · exact absurd c_975 (by decide)
  · exact absurd c_968 (by decide)
set_option maxRecDepth 100000 in
set_option maxHeartbeats 1000000 in
theorem law_c16 {p : Program} {l : Launch} {e : Env} {s : State} {m : MethodId} {below : List Frame} {meth : Method} {c : Code} {D : va_G} {k : Nat → ClassId} {b : Nat} {xs : Nat → Int32} (C : Cx p l s m #[Value.ref b] c D k (va_A [] s.heap.size) cL_law RL 9) (hr : meth.sig.returnType = some .boolean) (hlk : meth.locks = false) (hX : va_X b 4 xs s s.heap) (hbl : b < s.heap.size) (hbA : ¬ va_A [] s.heap.size b) (c1 : Nat) (c2 : Nat) (c3 : Nat) (c4 : Nat) (c5 : Nat) (dd : Nat) (e0 : Nat) (h : Nat) (jj : Nat) (m1 : Nat) (m2 : Nat) (mo : Nat) (o : Nat) (o0 : Nat) (o1 : Nat) (o2 : Nat) (o4 : Nat) (o7 : Nat) (o9 : Nat) (od : Nat) (oo : Nat) (pp : Nat) (x2 : Nat) (x3 : Nat) (x4 : Nat)  : G p l e room_1 s m #[Value.ref b] below meth c D 9 (va_A [] s.heap.size) (lw_Z below #[Value.ref b] s) [(o, .inr (14, [.ref h, .ref pp, .ref x2, .ref x3, .ref x4, .ref o2, .ref o4, .ref o9, .ref o7, .ref o0, .ref o1])), (h, .inr (7, [.ref jj, .ref dd, .int (nI 0), .int (nI 0)])), (jj, aI k 36 (fun _ => 0)), (dd, aI k 6 (fun _ => 0)), (o4, .inr (8, [.ref h, .ref m1, .ref m2])), (mo, .inr (15, [.ref e0, .ref c1, .ref c2, .ref c3, .ref c4, .ref c5, .null, .int (nI 0), .int (nI 0), .int 0, .int 0, .int 0]))] [(0, .ref b), (1, .ref o), (2, .ref mo), (3, .ref oo), (4, .ref od), (5, .int (nI 0))] 300 2000 0 993 [] := by
  refine g_aload_n (pc := 993) C 1 rfl rfl dL_law_993 ?_
  refine g_callV (pc := 994) (cells := 300) (slots := 2000) (g := 0) (As := []) (st := []) (T := TX10) (q0 := 0) C (nA := 0) rfl (c_X10_trees_z o h pp x2 x3 x4 o2 o4 o9 o7 o0 o1 jj dd m1 m2 ) q_579 q_580 q_578 q_203 q_577 (by decide +kernel) rfl rfl dL_law_994 ⟨Nat.le_of_ble_eq_true rfl, Nat.le_of_ble_eq_true rfl⟩ [0, 1, 2, 3, 4] [5] rfl (wr := [(mo, .inr (15, [.ref e0, .ref c1, .ref c2, .ref c3, .ref c4, .ref c5, .null, .int (nI 0), .int (nI 0), .int 0, .int 0, .int 0]))]) rfl (by decide) (by decide) (by decide) (Nat.le_of_ble_eq_true rfl) ⟨Nat.le_of_ble_eq_true rfl, Nat.le_of_ble_eq_true rfl⟩ (fun rv w1 h1 => ?_)
  obtain ⟨rfl, rfl⟩ := h1
  refine G.aft [1, 2, 3, 4, 5, 0] (ws' := [(o, .inr (14, [.ref h, .ref pp, .ref x2, .ref x3, .ref x4, .ref o2, .ref o4, .ref o9, .ref o7, .ref o0, .ref o1])), (h, .inr (7, [.ref jj, .ref dd, .int (nI 0), .int (nI 0)])), (jj, aI k 36 (fun _ => 0)), (dd, aI k 6 (fun _ => 0)), (o4, .inr (8, [.ref h, .ref m1, .ref m2])), (mo, .inr (15, [.ref e0, .ref c1, .ref c2, .ref c3, .ref c4, .ref c5, .null, .int (nI 0), .int (nI 0), .int 0, .int 0, .int 0]))]) (st' := [.long 0]) (cells' := 300) (slots' := 2000) (g' := 0) (by decide) rfl rfl rfl rfl rfl ?_
  refine g_aload_n (pc := 997) C 2 rfl rfl dL_law_997 ?_
  refine g_callV (pc := 998) (cells := 300) (slots := 2000) (g := 0) (As := []) (st := [.long 0]) (T := TX11) (q0 := 5) C (nA := 0) rfl (c_X11_trees_z mo e0 c1 c2 c3 c4 c5 0 ) q_583 q_584 q_582 q_265 q_581 (by decide +kernel) rfl rfl dL_law_998 ⟨Nat.le_of_ble_eq_true rfl, Nat.le_of_ble_eq_true rfl⟩ [5] [0, 1, 2, 3, 4] rfl (wr := [(o, .inr (14, [.ref h, .ref pp, .ref x2, .ref x3, .ref x4, .ref o2, .ref o4, .ref o9, .ref o7, .ref o0, .ref o1])), (h, .inr (7, [.ref jj, .ref dd, .int (nI 0), .int (nI 0)])), (jj, aI k 36 (fun _ => 0)), (dd, aI k 6 (fun _ => 0)), (o4, .inr (8, [.ref h, .ref m1, .ref m2]))]) rfl (by decide) (by decide) (by decide) (Nat.le_of_ble_eq_true rfl) ⟨Nat.le_of_ble_eq_true rfl, Nat.le_of_ble_eq_true rfl⟩ (fun rv w1 h1 => ?_)
  obtain ⟨rfl, rfl⟩ := h1
  refine G.aft [0, 1, 2, 3, 4, 5] (ws' := [(o, .inr (14, [.ref h, .ref pp, .ref x2, .ref x3, .ref x4, .ref o2, .ref o4, .ref o9, .ref o7, .ref o0, .ref o1])), (h, .inr (7, [.ref jj, .ref dd, .int (nI 0), .int (nI 0)])), (jj, aI k 36 (fun _ => 0)), (dd, aI k 6 (fun _ => 0)), (o4, .inr (8, [.ref h, .ref m1, .ref m2])), (mo, .inr (15, [.ref e0, .ref c1, .ref c2, .ref c3, .ref c4, .ref c5, .null, .int (nI 0), .int (nI 0), .int 0, .int 0, .int 0]))]) (st' := [.long 0, .long 0]) (cells' := 300) (slots' := 2000) (g' := 0) (by decide) rfl rfl rfl rfl rfl ?_
  refine g_lcmp (pc := 1001) C dL_law_1001 ?_
  refine g_if_eq (pc := 1002) C 1995 (by decide) dL_law_1002 (fun c_1002 => ?_) (fun c_1002 => ?_)
  · refine G.re [] (ws' := []) (by decide) rfl ?_
    refine G.loc [0, 5] (lv' := [(0, .ref b), (5, .int (nI 0))]) rfl ?_
    refine G.widen (k' := 400) (n' := 3000) (g' := 0) (by decide) (by decide) (Nat.zero_le _) ?_
    exact law_end C hr hlk hX hbl hbA
  · exact absurd (lg_cmp_e _) c_1002
set_option maxRecDepth 100000 in
set_option maxHeartbeats 1000000 in
theorem law_c17 {p : Program} {l : Launch} {e : Env} {s : State} {m : MethodId} {below : List Frame} {meth : Method} {c : Code} {D : va_G} {k : Nat → ClassId} {b : Nat} {xs : Nat → Int32} (C : Cx p l s m #[Value.ref b] c D k (va_A [] s.heap.size) cL_law RL 9) (hr : meth.sig.returnType = some .boolean) (hlk : meth.locks = false) (hX : va_X b 4 xs s s.heap) (hbl : b < s.heap.size) (hbA : ¬ va_A [] s.heap.size b) (c1 : Nat) (c2 : Nat) (c3 : Nat) (c4 : Nat) (c5 : Nat) (dd : Nat) (e0 : Nat) (h : Nat) (jj : Nat) (mo : Nat) (o : Nat) (o0 : Nat) (o1 : Nat) (o2 : Nat) (o4 : Nat) (o7 : Nat) (o9 : Nat) (od : Nat) (oo : Nat) (pp : Nat) (x2 : Nat) (x3 : Nat) (x4 : Nat)  : G p l e room_1 s m #[Value.ref b] below meth c D 9 (va_A [] s.heap.size) (lw_Z below #[Value.ref b] s) [(o, .inr (14, [.ref h, .ref pp, .ref x2, .ref x3, .ref x4, .ref o2, .ref o4, .ref o9, .ref o7, .ref o0, .ref o1])), (h, .inr (7, [.ref jj, .ref dd, .int (nI 0), .int (nI 0)])), (jj, aI k 36 (fun _ => 0)), (dd, aI k 6 (fun _ => 0)), (oo, aJ k 1 (fun _ => 0)), (mo, .inr (15, [.ref e0, .ref c1, .ref c2, .ref c3, .ref c4, .ref c5, .null, .int (nI 0), .int (nI 0), .int 0, .int 0, .int 0]))] [(0, .ref b), (1, .ref o), (2, .ref mo), (3, .ref oo), (4, .ref od), (5, .int (nI 0))] 300 2000 0 1007 [] := by
  refine g_aload_n (pc := 1007) C 1 rfl rfl dL_law_1007 ?_
  refine g_aload_n (pc := 1008) C 3 rfl rfl dL_law_1008 ?_
  refine g_callSW (pc := 1009) (cells := 300) (slots := 2000) (g := 0) (As := [.ref o, .ref oo]) (st := []) (b := 0) C (nA := 2) rfl (c_L_factors_z o h pp x2 x3 x4 o2 o4 o9 o7 o0 o1 jj dd oo (fun _ => 0) ) q_586 q_587 q_459 q_585 (by decide +kernel) dL_law_1009 ⟨Nat.le_of_ble_eq_true rfl, Nat.le_of_ble_eq_true rfl⟩ [0, 1, 2, 3, 4] [5] rfl (wr := [(mo, .inr (15, [.ref e0, .ref c1, .ref c2, .ref c3, .ref c4, .ref c5, .null, .int (nI 0), .int (nI 0), .int 0, .int 0, .int 0]))]) rfl (by decide) (by decide) (by decide) (Nat.le_of_ble_eq_true rfl) ⟨Nat.le_of_ble_eq_true rfl, Nat.le_of_ble_eq_true rfl⟩ (fun rv w1 h1 => ?_)
  obtain ⟨rfl, rfl⟩ := h1
  refine G.aft [1, 2, 3, 4, 5, 0] (ws' := [(o, .inr (14, [.ref h, .ref pp, .ref x2, .ref x3, .ref x4, .ref o2, .ref o4, .ref o9, .ref o7, .ref o0, .ref o1])), (h, .inr (7, [.ref jj, .ref dd, .int (nI 0), .int (nI 0)])), (jj, aI k 36 (fun _ => 0)), (dd, aI k 6 (fun _ => 0)), (oo, aJ k 1 (fun _ => 0)), (mo, .inr (15, [.ref e0, .ref c1, .ref c2, .ref c3, .ref c4, .ref c5, .null, .int (nI 0), .int (nI 0), .int 0, .int 0, .int 0]))]) (st' := [.int 1]) (cells' := 301) (slots' := 2006) (g' := 0) (by decide) rfl rfl rfl rfl rfl ?_
  refine g_istore (pc := 1012) C [(6, .int 1), (0, .ref b), (1, .ref o), (2, .ref mo), (3, .ref oo), (4, .ref od), (5, .int (nI 0))] dL_law_1012 (by decide) rfl ?_
  refine g_aload_n (pc := 1014) C 3 rfl rfl dL_law_1014 ?_
  refine g_callV (pc := 1015) (cells := 301) (slots := 2006) (g := 0) (As := []) (st := []) (T := TX11) (q0 := 5) C (nA := 0) rfl (c_X11_factors_z mo e0 c1 c2 c3 c4 c5 0 ) q_590 q_591 q_589 q_265 q_588 (by decide +kernel) rfl rfl dL_law_1015 ⟨Nat.le_of_ble_eq_true rfl, Nat.le_of_ble_eq_true rfl⟩ [5] [0, 1, 2, 3, 4] rfl (wr := [(o, .inr (14, [.ref h, .ref pp, .ref x2, .ref x3, .ref x4, .ref o2, .ref o4, .ref o9, .ref o7, .ref o0, .ref o1])), (h, .inr (7, [.ref jj, .ref dd, .int (nI 0), .int (nI 0)])), (jj, aI k 36 (fun _ => 0)), (dd, aI k 6 (fun _ => 0)), (oo, aJ k 1 (fun _ => 0))]) rfl (by decide) (by decide) (by decide) (Nat.le_of_ble_eq_true rfl) ⟨Nat.le_of_ble_eq_true rfl, Nat.le_of_ble_eq_true rfl⟩ (fun rv w1 h1 => ?_)
  obtain ⟨rfl, rfl⟩ := h1
  refine G.aft [0, 1, 2, 3, 4, 5] (ws' := [(o, .inr (14, [.ref h, .ref pp, .ref x2, .ref x3, .ref x4, .ref o2, .ref o4, .ref o9, .ref o7, .ref o0, .ref o1])), (h, .inr (7, [.ref jj, .ref dd, .int (nI 0), .int (nI 0)])), (jj, aI k 36 (fun _ => 0)), (dd, aI k 6 (fun _ => 0)), (oo, aJ k 1 (fun _ => 0)), (mo, .inr (15, [.ref e0, .ref c1, .ref c2, .ref c3, .ref c4, .ref c5, .null, .int (nI 0), .int (nI 0), .int 0, .int 0, .int 1]))]) (st' := [.int 0]) (cells' := 301) (slots' := 2006) (g' := 0) (by decide) rfl rfl rfl rfl rfl ?_
  refine g_istore (pc := 1018) C [(7, .int 0), (6, .int 1), (0, .ref b), (1, .ref o), (2, .ref mo), (3, .ref oo), (4, .ref od), (5, .int (nI 0))] dL_law_1018 (by decide) rfl ?_
  refine g_aload_n (pc := 1020) C 4 rfl rfl dL_law_1020 ?_
  refine g_callV (pc := 1021) (cells := 301) (slots := 2006) (g := 0) (As := []) (st := []) (T := TX11) (q0 := 5) C (nA := 0) rfl (c_X11_thrown mo e0 c1 c2 c3 c4 c5 1 (nI 0) (nI 0) 0 0 ) q_468 q_469 q_467 q_265 q_466 (by decide +kernel) rfl rfl dL_law_1021 ⟨Nat.le_of_ble_eq_true rfl, Nat.le_of_ble_eq_true rfl⟩ [5] [0, 1, 2, 3, 4] rfl (wr := [(o, .inr (14, [.ref h, .ref pp, .ref x2, .ref x3, .ref x4, .ref o2, .ref o4, .ref o9, .ref o7, .ref o0, .ref o1])), (h, .inr (7, [.ref jj, .ref dd, .int (nI 0), .int (nI 0)])), (jj, aI k 36 (fun _ => 0)), (dd, aI k 6 (fun _ => 0)), (oo, aJ k 1 (fun _ => 0))]) rfl (by decide) (by decide) (by decide) (Nat.le_of_ble_eq_true rfl) ⟨Nat.le_of_ble_eq_true rfl, Nat.le_of_ble_eq_true rfl⟩ (fun rv w1 h1 => ?_)
  obtain ⟨rfl, rfl⟩ := h1
  refine G.aft [0, 1, 2, 3, 4, 5] (ws' := [(o, .inr (14, [.ref h, .ref pp, .ref x2, .ref x3, .ref x4, .ref o2, .ref o4, .ref o9, .ref o7, .ref o0, .ref o1])), (h, .inr (7, [.ref jj, .ref dd, .int (nI 0), .int (nI 0)])), (jj, aI k 36 (fun _ => 0)), (dd, aI k 6 (fun _ => 0)), (oo, aJ k 1 (fun _ => 0)), (mo, .inr (15, [.ref e0, .ref c1, .ref c2, .ref c3, .ref c4, .ref c5, .null, .int (nI 0), .int (nI 0), .int 0, .int 0, .int 1]))]) (st' := [.int 1]) (cells' := 301) (slots' := 2006) (g' := 0) (by decide) rfl rfl rfl rfl rfl ?_
  refine g_iload (pc := 1024) C 1 rfl dL_law_1024 ?_
  refine g_icmp_eq (pc := 1026) C 1031 (by decide) dL_law_1026 (fun c_1026 => ?_) (fun c_1026 => ?_)
  · refine g_iload (pc := 1031) C 1 rfl dL_law_1031 ?_
    refine g_if_ne (pc := 1033) C 1048 (by decide) dL_law_1033 (fun c_1033 => ?_) (fun c_1033 => ?_)
    · refine g_goto (pc := 1048) C 1995 (by decide) dL_law_1048 ?_
      refine G.re [] (ws' := []) (by decide) rfl ?_
      refine G.loc [2, 7] (lv' := [(0, .ref b), (5, .int (nI 0))]) rfl ?_
      refine G.widen (k' := 400) (n' := 3000) (g' := 0) (by decide) (by decide) (Nat.zero_le _) ?_
      exact law_end C hr hlk hX hbl hbA
    · exact absurd c_1033 (by decide)
  · exact absurd c_1026 (by decide)
set_option maxRecDepth 100000 in
set_option maxHeartbeats 1000000 in
theorem law_c18 {p : Program} {l : Launch} {e : Env} {s : State} {m : MethodId} {below : List Frame} {meth : Method} {c : Code} {D : va_G} {k : Nat → ClassId} {b : Nat} {xs : Nat → Int32} (C : Cx p l s m #[Value.ref b] c D k (va_A [] s.heap.size) cL_law RL 9) (hr : meth.sig.returnType = some .boolean) (hlk : meth.locks = false) (hX : va_X b 4 xs s s.heap) (hbl : b < s.heap.size) (hbA : ¬ va_A [] s.heap.size b) (c1 : Nat) (c2 : Nat) (c3 : Nat) (c4 : Nat) (c5 : Nat) (dd : Nat) (e0 : Nat) (h : Nat) (jj : Nat) (mo : Nat) (o : Nat) (o0 : Nat) (o1 : Nat) (o2 : Nat) (o4 : Nat) (o7 : Nat) (o9 : Nat) (od : Nat) (oo : Nat) (pp : Nat) (x2 : Nat) (x3 : Nat) (x4 : Nat)  : G p l e room_1 s m #[Value.ref b] below meth c D 9 (va_A [] s.heap.size) (lw_Z below #[Value.ref b] s) [(o, .inr (14, [.ref h, .ref pp, .ref x2, .ref x3, .ref x4, .ref o2, .ref o4, .ref o9, .ref o7, .ref o0, .ref o1])), (h, .inr (7, [.ref jj, .ref dd, .int (nI 0), .int (nI 0)])), (jj, aI k 36 (fun _ => 0)), (dd, aI k 6 (fun _ => 0)), (oo, aJ k 1 (fun _ => 0)), (mo, .inr (15, [.ref e0, .ref c1, .ref c2, .ref c3, .ref c4, .ref c5, .null, .int (nI 0), .int (nI 0), .int 0, .int 0, .int 0]))] [(0, .ref b), (1, .ref o), (2, .ref mo), (3, .ref oo), (4, .ref od), (5, .int (nI 0))] 300 2000 0 1051 [] := by
  refine g_aload_n (pc := 1051) C 1 rfl rfl dL_law_1051 ?_
  refine g_aload_n (pc := 1052) C 0 rfl rfl dL_law_1052 ?_
  refine g_iload (pc := 1053) C 5 rfl dL_law_1053 ?_
  refine g_iconst (pc := 1055) (v := 1) C (by decide) dL_law_1055 ?_
  refine g_iadd (pc := 1056) C dL_law_1056 ?_
  refine G.eqs (st' := [.int (nI 1), .ref b, .ref o]) (congrArg (β := List Value) (fun z9 => [.int z9, .ref b, .ref o]) (show (((nI 0) + 1) : Int32) = (nI 1) from nI_add _ _)) ?_
  refine g_sld (pc := 1057) C hX hbl hbA (j := 1) (by omega) (by omega) rfl dL_law_1057 ?_
  refine g_aload_n (pc := 1058) C 3 rfl rfl dL_law_1058 ?_
  refine g_callSW (pc := 1059) (cells := 300) (slots := 2000) (g := 0) (As := [.ref o, .int (xs 1), .ref oo]) (st := []) (b := 0) C (nA := 3) rfl (c_L_factorAt_z o h pp x2 x3 x4 o2 o4 o9 o7 o0 o1 jj dd oo (fun _ => 0) (xs 1) ) q_593 q_594 q_459 q_592 (by decide +kernel) dL_law_1059 ⟨Nat.le_of_ble_eq_true rfl, Nat.le_of_ble_eq_true rfl⟩ [0, 1, 2, 3, 4] [5] rfl (wr := [(mo, .inr (15, [.ref e0, .ref c1, .ref c2, .ref c3, .ref c4, .ref c5, .null, .int (nI 0), .int (nI 0), .int 0, .int 0, .int 0]))]) rfl (by decide) (by decide) (by decide) (Nat.le_of_ble_eq_true rfl) ⟨Nat.le_of_ble_eq_true rfl, Nat.le_of_ble_eq_true rfl⟩ (fun rv w1 h1 => ?_)
  obtain ⟨rfl, rfl⟩ := h1
  refine G.aft [1, 2, 3, 4, 5, 0] (ws' := [(o, .inr (14, [.ref h, .ref pp, .ref x2, .ref x3, .ref x4, .ref o2, .ref o4, .ref o9, .ref o7, .ref o0, .ref o1])), (h, .inr (7, [.ref jj, .ref dd, .int (nI 0), .int (nI 0)])), (jj, aI k 36 (fun _ => 0)), (dd, aI k 6 (fun _ => 0)), (oo, aJ k 1 (fun _ => 0)), (mo, .inr (15, [.ref e0, .ref c1, .ref c2, .ref c3, .ref c4, .ref c5, .null, .int (nI 0), .int (nI 0), .int 0, .int 0, .int 0]))]) (st' := [.int 1]) (cells' := 301) (slots' := 2006) (g' := 0) (by decide) rfl rfl rfl rfl rfl ?_
  refine g_istore (pc := 1062) C [(6, .int 1), (0, .ref b), (1, .ref o), (2, .ref mo), (3, .ref oo), (4, .ref od), (5, .int (nI 0))] dL_law_1062 (by decide) rfl ?_
  refine g_aload_n (pc := 1064) C 3 rfl rfl dL_law_1064 ?_
  refine g_aload_n (pc := 1065) C 1 rfl rfl dL_law_1065 ?_
  refine g_iload (pc := 1066) C 6 rfl dL_law_1066 ?_
  refine g_iconst (pc := 1068) (v := 1) C (by decide) dL_law_1068 ?_
  refine g_iadd (pc := 1069) C dL_law_1069 ?_
  refine G.eqs (st' := [.int (nI 1), .ref b, .ref mo]) (congrArg (β := List Value) (fun z9 => [.int z9, .ref b, .ref mo]) (show (((nI 0) + 1) : Int32) = (nI 1) from nI_add _ _)) ?_
  refine g_sld (pc := 1070) C hX hbl hbA (j := 1) (by omega) (by omega) rfl dL_law_1070 ?_
  refine g_callV (pc := 1071) (cells := 301) (slots := 2006) (g := 0) (As := [.int (xs 1)]) (st := []) (T := TX11) (q0 := 5) C (nA := 1) rfl (c_X11_factorAt_z mo e0 c1 c2 c3 c4 c5 0 (xs 1) ) q_597 q_598 q_596 q_265 q_595 (by decide +kernel) rfl rfl dL_law_1071 ⟨Nat.le_of_ble_eq_true rfl, Nat.le_of_ble_eq_true rfl⟩ [5] [0, 1, 2, 3, 4] rfl (wr := [(o, .inr (14, [.ref h, .ref pp, .ref x2, .ref x3, .ref x4, .ref o2, .ref o4, .ref o9, .ref o7, .ref o0, .ref o1])), (h, .inr (7, [.ref jj, .ref dd, .int (nI 0), .int (nI 0)])), (jj, aI k 36 (fun _ => 0)), (dd, aI k 6 (fun _ => 0)), (oo, aJ k 1 (fun _ => 0))]) rfl (by decide) (by decide) (by decide) (Nat.le_of_ble_eq_true rfl) ⟨Nat.le_of_ble_eq_true rfl, Nat.le_of_ble_eq_true rfl⟩ (fun rv w1 h1 => ?_)
  obtain ⟨rfl, rfl⟩ := h1
  refine G.aft [0, 1, 2, 3, 4, 5] (ws' := [(o, .inr (14, [.ref h, .ref pp, .ref x2, .ref x3, .ref x4, .ref o2, .ref o4, .ref o9, .ref o7, .ref o0, .ref o1])), (h, .inr (7, [.ref jj, .ref dd, .int (nI 0), .int (nI 0)])), (jj, aI k 36 (fun _ => 0)), (dd, aI k 6 (fun _ => 0)), (oo, aJ k 1 (fun _ => 0)), (mo, .inr (15, [.ref e0, .ref c1, .ref c2, .ref c3, .ref c4, .ref c5, .null, .int (nI 0), .int (nI 0), .int 0, .int 0, .int 1]))]) (st' := [.long 0]) (cells' := 301) (slots' := 2006) (g' := 0) (by decide) rfl rfl rfl rfl rfl ?_
  refine g_lstore (pc := 1074) C [(7, .long 0), (6, .int 1), (0, .ref b), (1, .ref o), (2, .ref mo), (3, .ref oo), (4, .ref od), (5, .int (nI 0))] dL_law_1074 (by decide) rfl ?_
  refine g_aload_n (pc := 1076) C 4 rfl rfl dL_law_1076 ?_
  refine g_callV (pc := 1077) (cells := 301) (slots := 2006) (g := 0) (As := []) (st := []) (T := TX11) (q0 := 5) C (nA := 0) rfl (c_X11_thrown mo e0 c1 c2 c3 c4 c5 1 (nI 0) (nI 0) 0 0 ) q_468 q_469 q_467 q_265 q_466 (by decide +kernel) rfl rfl dL_law_1077 ⟨Nat.le_of_ble_eq_true rfl, Nat.le_of_ble_eq_true rfl⟩ [5] [0, 1, 2, 3, 4] rfl (wr := [(o, .inr (14, [.ref h, .ref pp, .ref x2, .ref x3, .ref x4, .ref o2, .ref o4, .ref o9, .ref o7, .ref o0, .ref o1])), (h, .inr (7, [.ref jj, .ref dd, .int (nI 0), .int (nI 0)])), (jj, aI k 36 (fun _ => 0)), (dd, aI k 6 (fun _ => 0)), (oo, aJ k 1 (fun _ => 0))]) rfl (by decide) (by decide) (by decide) (Nat.le_of_ble_eq_true rfl) ⟨Nat.le_of_ble_eq_true rfl, Nat.le_of_ble_eq_true rfl⟩ (fun rv w1 h1 => ?_)
  obtain ⟨rfl, rfl⟩ := h1
  refine G.aft [0, 1, 2, 3, 4, 5] (ws' := [(o, .inr (14, [.ref h, .ref pp, .ref x2, .ref x3, .ref x4, .ref o2, .ref o4, .ref o9, .ref o7, .ref o0, .ref o1])), (h, .inr (7, [.ref jj, .ref dd, .int (nI 0), .int (nI 0)])), (jj, aI k 36 (fun _ => 0)), (dd, aI k 6 (fun _ => 0)), (oo, aJ k 1 (fun _ => 0)), (mo, .inr (15, [.ref e0, .ref c1, .ref c2, .ref c3, .ref c4, .ref c5, .null, .int (nI 0), .int (nI 0), .int 0, .int 0, .int 1]))]) (st' := [.int 1]) (cells' := 301) (slots' := 2006) (g' := 0) (by decide) rfl rfl rfl rfl rfl ?_
  refine g_iload (pc := 1080) C 1 rfl dL_law_1080 ?_
  refine g_icmp_eq (pc := 1082) C 1087 (by decide) dL_law_1082 (fun c_1082 => ?_) (fun c_1082 => ?_)
  · refine g_iload (pc := 1087) C 1 rfl dL_law_1087 ?_
    refine g_if_ne (pc := 1089) C 1103 (by decide) dL_law_1089 (fun c_1089 => ?_) (fun c_1089 => ?_)
    · refine g_goto (pc := 1103) C 1995 (by decide) dL_law_1103 ?_
      refine G.re [] (ws' := []) (by decide) rfl ?_
      refine G.loc [2, 7] (lv' := [(0, .ref b), (5, .int (nI 0))]) rfl ?_
      refine G.widen (k' := 400) (n' := 3000) (g' := 0) (by decide) (by decide) (Nat.zero_le _) ?_
      exact law_end C hr hlk hX hbl hbA
    · exact absurd c_1089 (by decide)
  · exact absurd c_1082 (by decide)
set_option maxRecDepth 100000 in
set_option maxHeartbeats 1000000 in
theorem law_c19 {p : Program} {l : Launch} {e : Env} {s : State} {m : MethodId} {below : List Frame} {meth : Method} {c : Code} {D : va_G} {k : Nat → ClassId} {b : Nat} {xs : Nat → Int32} (C : Cx p l s m #[Value.ref b] c D k (va_A [] s.heap.size) cL_law RL 9) (hr : meth.sig.returnType = some .boolean) (hlk : meth.locks = false) (hX : va_X b 4 xs s s.heap) (hbl : b < s.heap.size) (hbA : ¬ va_A [] s.heap.size b) (c1 : Nat) (c2 : Nat) (c3 : Nat) (c4 : Nat) (c5 : Nat) (dd : Nat) (e0 : Nat) (h : Nat) (jj : Nat) (mo : Nat) (o : Nat) (o0 : Nat) (o1 : Nat) (o2 : Nat) (o4 : Nat) (o7 : Nat) (o9 : Nat) (od : Nat) (oo : Nat) (pp : Nat) (x2 : Nat) (x3 : Nat) (x4 : Nat)  : G p l e room_1 s m #[Value.ref b] below meth c D 9 (va_A [] s.heap.size) (lw_Z below #[Value.ref b] s) [(o, .inr (14, [.ref h, .ref pp, .ref x2, .ref x3, .ref x4, .ref o2, .ref o4, .ref o9, .ref o7, .ref o0, .ref o1])), (h, .inr (7, [.ref jj, .ref dd, .int (nI 0), .int (nI 0)])), (jj, aI k 36 (fun _ => 0)), (dd, aI k 6 (fun _ => 0)), (oo, aJ k 1 (fun _ => 0)), (mo, .inr (15, [.ref e0, .ref c1, .ref c2, .ref c3, .ref c4, .ref c5, .null, .int (nI 0), .int (nI 0), .int 0, .int 0, .int 0]))] [(0, .ref b), (1, .ref o), (2, .ref mo), (3, .ref oo), (4, .ref od), (5, .int (nI 0))] 300 2000 0 1106 [] := by
  refine g_aload_n (pc := 1106) C 1 rfl rfl dL_law_1106 ?_
  refine g_aload_n (pc := 1107) C 3 rfl rfl dL_law_1107 ?_
  refine g_callSW (pc := 1108) (cells := 300) (slots := 2000) (g := 0) (As := [.ref o, .ref oo]) (st := []) (b := 0) C (nA := 2) rfl (c_L_order_z o h pp x2 x3 x4 o2 o4 o9 o7 o0 o1 jj dd oo (fun _ => 0) ) q_600 q_601 q_459 q_599 (by decide +kernel) dL_law_1108 ⟨Nat.le_of_ble_eq_true rfl, Nat.le_of_ble_eq_true rfl⟩ [0, 1, 2, 3, 4] [5] rfl (wr := [(mo, .inr (15, [.ref e0, .ref c1, .ref c2, .ref c3, .ref c4, .ref c5, .null, .int (nI 0), .int (nI 0), .int 0, .int 0, .int 0]))]) rfl (by decide) (by decide) (by decide) (Nat.le_of_ble_eq_true rfl) ⟨Nat.le_of_ble_eq_true rfl, Nat.le_of_ble_eq_true rfl⟩ (fun rv w1 h1 => ?_)
  obtain ⟨rfl, rfl⟩ := h1
  refine G.aft [1, 2, 3, 4, 5, 0] (ws' := [(o, .inr (14, [.ref h, .ref pp, .ref x2, .ref x3, .ref x4, .ref o2, .ref o4, .ref o9, .ref o7, .ref o0, .ref o1])), (h, .inr (7, [.ref jj, .ref dd, .int (nI 0), .int (nI 0)])), (jj, aI k 36 (fun _ => 0)), (dd, aI k 6 (fun _ => 0)), (oo, aJ k 1 (fun _ => 0)), (mo, .inr (15, [.ref e0, .ref c1, .ref c2, .ref c3, .ref c4, .ref c5, .null, .int (nI 0), .int (nI 0), .int 0, .int 0, .int 0]))]) (st' := [.int 1]) (cells' := 301) (slots' := 2006) (g' := 0) (by decide) rfl rfl rfl rfl rfl ?_
  refine g_istore (pc := 1111) C [(6, .int 1), (0, .ref b), (1, .ref o), (2, .ref mo), (3, .ref oo), (4, .ref od), (5, .int (nI 0))] dL_law_1111 (by decide) rfl ?_
  refine g_aload_n (pc := 1113) C 3 rfl rfl dL_law_1113 ?_
  refine g_callV (pc := 1114) (cells := 301) (slots := 2006) (g := 0) (As := []) (st := []) (T := TX11) (q0 := 5) C (nA := 0) rfl (c_X11_order_z mo e0 c1 c2 c3 c4 c5 0 ) q_604 q_605 q_603 q_265 q_602 (by decide +kernel) rfl rfl dL_law_1114 ⟨Nat.le_of_ble_eq_true rfl, Nat.le_of_ble_eq_true rfl⟩ [5] [0, 1, 2, 3, 4] rfl (wr := [(o, .inr (14, [.ref h, .ref pp, .ref x2, .ref x3, .ref x4, .ref o2, .ref o4, .ref o9, .ref o7, .ref o0, .ref o1])), (h, .inr (7, [.ref jj, .ref dd, .int (nI 0), .int (nI 0)])), (jj, aI k 36 (fun _ => 0)), (dd, aI k 6 (fun _ => 0)), (oo, aJ k 1 (fun _ => 0))]) rfl (by decide) (by decide) (by decide) (Nat.le_of_ble_eq_true rfl) ⟨Nat.le_of_ble_eq_true rfl, Nat.le_of_ble_eq_true rfl⟩ (fun rv w1 h1 => ?_)
  obtain ⟨rfl, rfl⟩ := h1
  refine G.aft [0, 1, 2, 3, 4, 5] (ws' := [(o, .inr (14, [.ref h, .ref pp, .ref x2, .ref x3, .ref x4, .ref o2, .ref o4, .ref o9, .ref o7, .ref o0, .ref o1])), (h, .inr (7, [.ref jj, .ref dd, .int (nI 0), .int (nI 0)])), (jj, aI k 36 (fun _ => 0)), (dd, aI k 6 (fun _ => 0)), (oo, aJ k 1 (fun _ => 0)), (mo, .inr (15, [.ref e0, .ref c1, .ref c2, .ref c3, .ref c4, .ref c5, .null, .int (nI 0), .int (nI 0), .int 0, .int 0, .int 1]))]) (st' := [.long 0]) (cells' := 301) (slots' := 2006) (g' := 0) (by decide) rfl rfl rfl rfl rfl ?_
  refine g_lstore (pc := 1117) C [(7, .long 0), (6, .int 1), (0, .ref b), (1, .ref o), (2, .ref mo), (3, .ref oo), (4, .ref od), (5, .int (nI 0))] dL_law_1117 (by decide) rfl ?_
  refine g_aload_n (pc := 1119) C 4 rfl rfl dL_law_1119 ?_
  refine g_callV (pc := 1120) (cells := 301) (slots := 2006) (g := 0) (As := []) (st := []) (T := TX11) (q0 := 5) C (nA := 0) rfl (c_X11_thrown mo e0 c1 c2 c3 c4 c5 1 (nI 0) (nI 0) 0 0 ) q_468 q_469 q_467 q_265 q_466 (by decide +kernel) rfl rfl dL_law_1120 ⟨Nat.le_of_ble_eq_true rfl, Nat.le_of_ble_eq_true rfl⟩ [5] [0, 1, 2, 3, 4] rfl (wr := [(o, .inr (14, [.ref h, .ref pp, .ref x2, .ref x3, .ref x4, .ref o2, .ref o4, .ref o9, .ref o7, .ref o0, .ref o1])), (h, .inr (7, [.ref jj, .ref dd, .int (nI 0), .int (nI 0)])), (jj, aI k 36 (fun _ => 0)), (dd, aI k 6 (fun _ => 0)), (oo, aJ k 1 (fun _ => 0))]) rfl (by decide) (by decide) (by decide) (Nat.le_of_ble_eq_true rfl) ⟨Nat.le_of_ble_eq_true rfl, Nat.le_of_ble_eq_true rfl⟩ (fun rv w1 h1 => ?_)
  obtain ⟨rfl, rfl⟩ := h1
  refine G.aft [0, 1, 2, 3, 4, 5] (ws' := [(o, .inr (14, [.ref h, .ref pp, .ref x2, .ref x3, .ref x4, .ref o2, .ref o4, .ref o9, .ref o7, .ref o0, .ref o1])), (h, .inr (7, [.ref jj, .ref dd, .int (nI 0), .int (nI 0)])), (jj, aI k 36 (fun _ => 0)), (dd, aI k 6 (fun _ => 0)), (oo, aJ k 1 (fun _ => 0)), (mo, .inr (15, [.ref e0, .ref c1, .ref c2, .ref c3, .ref c4, .ref c5, .null, .int (nI 0), .int (nI 0), .int 0, .int 0, .int 1]))]) (st' := [.int 1]) (cells' := 301) (slots' := 2006) (g' := 0) (by decide) rfl rfl rfl rfl rfl ?_
  refine g_iload (pc := 1123) C 1 rfl dL_law_1123 ?_
  refine g_icmp_eq (pc := 1125) C 1130 (by decide) dL_law_1125 (fun c_1125 => ?_) (fun c_1125 => ?_)
  · refine g_iload (pc := 1130) C 1 rfl dL_law_1130 ?_
    refine g_if_ne (pc := 1132) C 1146 (by decide) dL_law_1132 (fun c_1132 => ?_) (fun c_1132 => ?_)
    · refine g_goto (pc := 1146) C 1995 (by decide) dL_law_1146 ?_
      refine G.re [] (ws' := []) (by decide) rfl ?_
      refine G.loc [2, 7] (lv' := [(0, .ref b), (5, .int (nI 0))]) rfl ?_
      refine G.widen (k' := 400) (n' := 3000) (g' := 0) (by decide) (by decide) (Nat.zero_le _) ?_
      exact law_end C hr hlk hX hbl hbA
    · exact absurd c_1132 (by decide)
  · exact absurd c_1125 (by decide)
set_option maxRecDepth 100000 in
set_option maxHeartbeats 1000000 in
theorem law_c20 {p : Program} {l : Launch} {e : Env} {s : State} {m : MethodId} {below : List Frame} {meth : Method} {c : Code} {D : va_G} {k : Nat → ClassId} {b : Nat} {xs : Nat → Int32} (C : Cx p l s m #[Value.ref b] c D k (va_A [] s.heap.size) cL_law RL 9) (hr : meth.sig.returnType = some .boolean) (hlk : meth.locks = false) (hX : va_X b 4 xs s s.heap) (hbl : b < s.heap.size) (hbA : ¬ va_A [] s.heap.size b) (c1 : Nat) (c2 : Nat) (c3 : Nat) (c4 : Nat) (c5 : Nat) (dd : Nat) (e0 : Nat) (h : Nat) (jj : Nat) (mo : Nat) (o : Nat) (o0 : Nat) (o1 : Nat) (o2 : Nat) (o4 : Nat) (o7 : Nat) (o9 : Nat) (od : Nat) (oo : Nat) (pp : Nat) (x2 : Nat) (x3 : Nat) (x4 : Nat)  : G p l e room_1 s m #[Value.ref b] below meth c D 9 (va_A [] s.heap.size) (lw_Z below #[Value.ref b] s) [(o, .inr (14, [.ref h, .ref pp, .ref x2, .ref x3, .ref x4, .ref o2, .ref o4, .ref o9, .ref o7, .ref o0, .ref o1])), (h, .inr (7, [.ref jj, .ref dd, .int (nI 0), .int (nI 0)])), (jj, aI k 36 (fun _ => 0)), (dd, aI k 6 (fun _ => 0)), (oo, aJ k 1 (fun _ => 0)), (mo, .inr (15, [.ref e0, .ref c1, .ref c2, .ref c3, .ref c4, .ref c5, .null, .int (nI 0), .int (nI 0), .int 0, .int 0, .int 0]))] [(0, .ref b), (1, .ref o), (2, .ref mo), (3, .ref oo), (4, .ref od), (5, .int (nI 0))] 300 2000 0 1149 [] := by
  refine g_aload_n (pc := 1149) C 1 rfl rfl dL_law_1149 ?_
  refine g_aload_n (pc := 1150) C 0 rfl rfl dL_law_1150 ?_
  refine g_iload (pc := 1151) C 5 rfl dL_law_1151 ?_
  refine g_iconst (pc := 1153) (v := 1) C (by decide) dL_law_1153 ?_
  refine g_iadd (pc := 1154) C dL_law_1154 ?_
  refine G.eqs (st' := [.int (nI 1), .ref b, .ref o]) (congrArg (β := List Value) (fun z9 => [.int z9, .ref b, .ref o]) (show (((nI 0) + 1) : Int32) = (nI 1) from nI_add _ _)) ?_
  refine g_sld (pc := 1155) C hX hbl hbA (j := 1) (by omega) (by omega) rfl dL_law_1155 ?_
  refine g_aload_n (pc := 1156) C 3 rfl rfl dL_law_1156 ?_
  refine g_callSW (pc := 1157) (cells := 300) (slots := 2000) (g := 0) (As := [.ref o, .int (xs 1), .ref oo]) (st := []) (b := 0) C (nA := 3) rfl (c_L_walk_z o h pp x2 x3 x4 o2 o4 o9 o7 o0 o1 jj dd oo (fun _ => 0) (xs 1) ) q_607 q_608 q_459 q_606 (by decide +kernel) dL_law_1157 ⟨Nat.le_of_ble_eq_true rfl, Nat.le_of_ble_eq_true rfl⟩ [0, 1, 2, 3, 4] [5] rfl (wr := [(mo, .inr (15, [.ref e0, .ref c1, .ref c2, .ref c3, .ref c4, .ref c5, .null, .int (nI 0), .int (nI 0), .int 0, .int 0, .int 0]))]) rfl (by decide) (by decide) (by decide) (Nat.le_of_ble_eq_true rfl) ⟨Nat.le_of_ble_eq_true rfl, Nat.le_of_ble_eq_true rfl⟩ (fun rv w1 h1 => ?_)
  obtain ⟨rfl, rfl⟩ := h1
  refine G.aft [1, 2, 3, 4, 5, 0] (ws' := [(o, .inr (14, [.ref h, .ref pp, .ref x2, .ref x3, .ref x4, .ref o2, .ref o4, .ref o9, .ref o7, .ref o0, .ref o1])), (h, .inr (7, [.ref jj, .ref dd, .int (nI 0), .int (nI 0)])), (jj, aI k 36 (fun _ => 0)), (dd, aI k 6 (fun _ => 0)), (oo, aJ k 1 (fun _ => 0)), (mo, .inr (15, [.ref e0, .ref c1, .ref c2, .ref c3, .ref c4, .ref c5, .null, .int (nI 0), .int (nI 0), .int 0, .int 0, .int 0]))]) (st' := [.int 1]) (cells' := 301) (slots' := 2006) (g' := 0) (by decide) rfl rfl rfl rfl rfl ?_
  refine g_istore (pc := 1160) C [(6, .int 1), (0, .ref b), (1, .ref o), (2, .ref mo), (3, .ref oo), (4, .ref od), (5, .int (nI 0))] dL_law_1160 (by decide) rfl ?_
  refine g_aload_n (pc := 1162) C 3 rfl rfl dL_law_1162 ?_
  refine g_aload_n (pc := 1163) C 1 rfl rfl dL_law_1163 ?_
  refine g_iload (pc := 1164) C 6 rfl dL_law_1164 ?_
  refine g_iconst (pc := 1166) (v := 1) C (by decide) dL_law_1166 ?_
  refine g_iadd (pc := 1167) C dL_law_1167 ?_
  refine G.eqs (st' := [.int (nI 1), .ref b, .ref mo]) (congrArg (β := List Value) (fun z9 => [.int z9, .ref b, .ref mo]) (show (((nI 0) + 1) : Int32) = (nI 1) from nI_add _ _)) ?_
  refine g_sld (pc := 1168) C hX hbl hbA (j := 1) (by omega) (by omega) rfl dL_law_1168 ?_
  refine g_callV (pc := 1169) (cells := 301) (slots := 2006) (g := 0) (As := [.int (xs 1)]) (st := []) (T := TX11) (q0 := 5) C (nA := 1) rfl (c_X11_walk_z mo e0 c1 c2 c3 c4 c5 0 (xs 1) ) q_611 q_612 q_610 q_265 q_609 (by decide +kernel) rfl rfl dL_law_1169 ⟨Nat.le_of_ble_eq_true rfl, Nat.le_of_ble_eq_true rfl⟩ [5] [0, 1, 2, 3, 4] rfl (wr := [(o, .inr (14, [.ref h, .ref pp, .ref x2, .ref x3, .ref x4, .ref o2, .ref o4, .ref o9, .ref o7, .ref o0, .ref o1])), (h, .inr (7, [.ref jj, .ref dd, .int (nI 0), .int (nI 0)])), (jj, aI k 36 (fun _ => 0)), (dd, aI k 6 (fun _ => 0)), (oo, aJ k 1 (fun _ => 0))]) rfl (by decide) (by decide) (by decide) (Nat.le_of_ble_eq_true rfl) ⟨Nat.le_of_ble_eq_true rfl, Nat.le_of_ble_eq_true rfl⟩ (fun rv w1 h1 => ?_)
  obtain ⟨rfl, rfl⟩ := h1
  refine G.aft [0, 1, 2, 3, 4, 5] (ws' := [(o, .inr (14, [.ref h, .ref pp, .ref x2, .ref x3, .ref x4, .ref o2, .ref o4, .ref o9, .ref o7, .ref o0, .ref o1])), (h, .inr (7, [.ref jj, .ref dd, .int (nI 0), .int (nI 0)])), (jj, aI k 36 (fun _ => 0)), (dd, aI k 6 (fun _ => 0)), (oo, aJ k 1 (fun _ => 0)), (mo, .inr (15, [.ref e0, .ref c1, .ref c2, .ref c3, .ref c4, .ref c5, .null, .int (nI 0), .int (nI 0), .int 0, .int 0, .int 1]))]) (st' := [.int 0]) (cells' := 301) (slots' := 2006) (g' := 0) (by decide) rfl rfl rfl rfl rfl ?_
  refine g_istore (pc := 1172) C [(7, .int 0), (6, .int 1), (0, .ref b), (1, .ref o), (2, .ref mo), (3, .ref oo), (4, .ref od), (5, .int (nI 0))] dL_law_1172 (by decide) rfl ?_
  refine g_aload_n (pc := 1174) C 4 rfl rfl dL_law_1174 ?_
  refine g_callV (pc := 1175) (cells := 301) (slots := 2006) (g := 0) (As := []) (st := []) (T := TX11) (q0 := 5) C (nA := 0) rfl (c_X11_thrown mo e0 c1 c2 c3 c4 c5 1 (nI 0) (nI 0) 0 0 ) q_468 q_469 q_467 q_265 q_466 (by decide +kernel) rfl rfl dL_law_1175 ⟨Nat.le_of_ble_eq_true rfl, Nat.le_of_ble_eq_true rfl⟩ [5] [0, 1, 2, 3, 4] rfl (wr := [(o, .inr (14, [.ref h, .ref pp, .ref x2, .ref x3, .ref x4, .ref o2, .ref o4, .ref o9, .ref o7, .ref o0, .ref o1])), (h, .inr (7, [.ref jj, .ref dd, .int (nI 0), .int (nI 0)])), (jj, aI k 36 (fun _ => 0)), (dd, aI k 6 (fun _ => 0)), (oo, aJ k 1 (fun _ => 0))]) rfl (by decide) (by decide) (by decide) (Nat.le_of_ble_eq_true rfl) ⟨Nat.le_of_ble_eq_true rfl, Nat.le_of_ble_eq_true rfl⟩ (fun rv w1 h1 => ?_)
  obtain ⟨rfl, rfl⟩ := h1
  refine G.aft [0, 1, 2, 3, 4, 5] (ws' := [(o, .inr (14, [.ref h, .ref pp, .ref x2, .ref x3, .ref x4, .ref o2, .ref o4, .ref o9, .ref o7, .ref o0, .ref o1])), (h, .inr (7, [.ref jj, .ref dd, .int (nI 0), .int (nI 0)])), (jj, aI k 36 (fun _ => 0)), (dd, aI k 6 (fun _ => 0)), (oo, aJ k 1 (fun _ => 0)), (mo, .inr (15, [.ref e0, .ref c1, .ref c2, .ref c3, .ref c4, .ref c5, .null, .int (nI 0), .int (nI 0), .int 0, .int 0, .int 1]))]) (st' := [.int 1]) (cells' := 301) (slots' := 2006) (g' := 0) (by decide) rfl rfl rfl rfl rfl ?_
  refine g_iload (pc := 1178) C 1 rfl dL_law_1178 ?_
  refine g_icmp_eq (pc := 1180) C 1185 (by decide) dL_law_1180 (fun c_1180 => ?_) (fun c_1180 => ?_)
  · refine g_iload (pc := 1185) C 1 rfl dL_law_1185 ?_
    refine g_if_ne (pc := 1187) C 1202 (by decide) dL_law_1187 (fun c_1187 => ?_) (fun c_1187 => ?_)
    · refine g_goto (pc := 1202) C 1995 (by decide) dL_law_1202 ?_
      refine G.re [] (ws' := []) (by decide) rfl ?_
      refine G.loc [2, 7] (lv' := [(0, .ref b), (5, .int (nI 0))]) rfl ?_
      refine G.widen (k' := 400) (n' := 3000) (g' := 0) (by decide) (by decide) (Nat.zero_le _) ?_
      exact law_end C hr hlk hX hbl hbA
    · exact absurd c_1187 (by decide)
  · exact absurd c_1180 (by decide)
set_option maxRecDepth 100000 in
set_option maxHeartbeats 1000000 in
theorem law_c21 {p : Program} {l : Launch} {e : Env} {s : State} {m : MethodId} {below : List Frame} {meth : Method} {c : Code} {D : va_G} {k : Nat → ClassId} {b : Nat} {xs : Nat → Int32} (C : Cx p l s m #[Value.ref b] c D k (va_A [] s.heap.size) cL_law RL 9) (hr : meth.sig.returnType = some .boolean) (hlk : meth.locks = false) (hX : va_X b 4 xs s s.heap) (hbl : b < s.heap.size) (hbA : ¬ va_A [] s.heap.size b) (c1 : Nat) (c2 : Nat) (c3 : Nat) (c4 : Nat) (c5 : Nat) (dd : Nat) (e0 : Nat) (h : Nat) (jj : Nat) (mo : Nat) (o : Nat) (o0 : Nat) (o1 : Nat) (o2 : Nat) (o4 : Nat) (o7 : Nat) (o9 : Nat) (od : Nat) (oo : Nat) (pp : Nat) (x2 : Nat) (x3 : Nat) (x4 : Nat)  : G p l e room_1 s m #[Value.ref b] below meth c D 9 (va_A [] s.heap.size) (lw_Z below #[Value.ref b] s) [(o, .inr (14, [.ref h, .ref pp, .ref x2, .ref x3, .ref x4, .ref o2, .ref o4, .ref o9, .ref o7, .ref o0, .ref o1])), (h, .inr (7, [.ref jj, .ref dd, .int (nI 0), .int (nI 0)])), (jj, aI k 36 (fun _ => 0)), (dd, aI k 6 (fun _ => 0)), (oo, aJ k 1 (fun _ => 0)), (mo, .inr (15, [.ref e0, .ref c1, .ref c2, .ref c3, .ref c4, .ref c5, .null, .int (nI 0), .int (nI 0), .int 0, .int 0, .int 0]))] [(0, .ref b), (1, .ref o), (2, .ref mo), (3, .ref oo), (4, .ref od), (5, .int (nI 0))] 300 2000 0 1205 [] := by
  refine g_aload_n (pc := 1205) C 1 rfl rfl dL_law_1205 ?_
  refine g_aload_n (pc := 1206) C 0 rfl rfl dL_law_1206 ?_
  refine g_iload (pc := 1207) C 5 rfl dL_law_1207 ?_
  refine g_iconst (pc := 1209) (v := 1) C (by decide) dL_law_1209 ?_
  refine g_iadd (pc := 1210) C dL_law_1210 ?_
  refine G.eqs (st' := [.int (nI 1), .ref b, .ref o]) (congrArg (β := List Value) (fun z9 => [.int z9, .ref b, .ref o]) (show (((nI 0) + 1) : Int32) = (nI 1) from nI_add _ _)) ?_
  refine g_sld (pc := 1211) C hX hbl hbA (j := 1) (by omega) (by omega) rfl dL_law_1211 ?_
  refine g_aload_n (pc := 1212) C 3 rfl rfl dL_law_1212 ?_
  refine g_callSW (pc := 1213) (cells := 300) (slots := 2000) (g := 0) (As := [.ref o, .int (xs 1), .ref oo]) (st := []) (b := 0) C (nA := 3) rfl (c_L_rotor_z o h pp x2 x3 x4 o2 o4 o9 o7 o0 o1 jj dd oo (fun _ => 0) (xs 1) ) q_614 q_615 q_459 q_613 (by decide +kernel) dL_law_1213 ⟨Nat.le_of_ble_eq_true rfl, Nat.le_of_ble_eq_true rfl⟩ [0, 1, 2, 3, 4] [5] rfl (wr := [(mo, .inr (15, [.ref e0, .ref c1, .ref c2, .ref c3, .ref c4, .ref c5, .null, .int (nI 0), .int (nI 0), .int 0, .int 0, .int 0]))]) rfl (by decide) (by decide) (by decide) (Nat.le_of_ble_eq_true rfl) ⟨Nat.le_of_ble_eq_true rfl, Nat.le_of_ble_eq_true rfl⟩ (fun rv w1 h1 => ?_)
  obtain ⟨rfl, rfl⟩ := h1
  refine G.aft [1, 2, 3, 4, 5, 0] (ws' := [(o, .inr (14, [.ref h, .ref pp, .ref x2, .ref x3, .ref x4, .ref o2, .ref o4, .ref o9, .ref o7, .ref o0, .ref o1])), (h, .inr (7, [.ref jj, .ref dd, .int (nI 0), .int (nI 0)])), (jj, aI k 36 (fun _ => 0)), (dd, aI k 6 (fun _ => 0)), (oo, aJ k 1 (fun _ => 0)), (mo, .inr (15, [.ref e0, .ref c1, .ref c2, .ref c3, .ref c4, .ref c5, .null, .int (nI 0), .int (nI 0), .int 0, .int 0, .int 0]))]) (st' := [.int 1]) (cells' := 301) (slots' := 2006) (g' := 0) (by decide) rfl rfl rfl rfl rfl ?_
  refine g_istore (pc := 1216) C [(6, .int 1), (0, .ref b), (1, .ref o), (2, .ref mo), (3, .ref oo), (4, .ref od), (5, .int (nI 0))] dL_law_1216 (by decide) rfl ?_
  refine g_aload_n (pc := 1218) C 3 rfl rfl dL_law_1218 ?_
  refine g_aload_n (pc := 1219) C 1 rfl rfl dL_law_1219 ?_
  refine g_iload (pc := 1220) C 6 rfl dL_law_1220 ?_
  refine g_iconst (pc := 1222) (v := 1) C (by decide) dL_law_1222 ?_
  refine g_iadd (pc := 1223) C dL_law_1223 ?_
  refine G.eqs (st' := [.int (nI 1), .ref b, .ref mo]) (congrArg (β := List Value) (fun z9 => [.int z9, .ref b, .ref mo]) (show (((nI 0) + 1) : Int32) = (nI 1) from nI_add _ _)) ?_
  refine g_sld (pc := 1224) C hX hbl hbA (j := 1) (by omega) (by omega) rfl dL_law_1224 ?_
  refine g_callV (pc := 1225) (cells := 301) (slots := 2006) (g := 0) (As := [.int (xs 1)]) (st := []) (T := TX11) (q0 := 5) C (nA := 1) rfl (c_X11_rotor_z mo e0 c1 c2 c3 c4 c5 0 (xs 1) ) q_618 q_619 q_617 q_265 q_616 (by decide +kernel) rfl rfl dL_law_1225 ⟨Nat.le_of_ble_eq_true rfl, Nat.le_of_ble_eq_true rfl⟩ [5] [0, 1, 2, 3, 4] rfl (wr := [(o, .inr (14, [.ref h, .ref pp, .ref x2, .ref x3, .ref x4, .ref o2, .ref o4, .ref o9, .ref o7, .ref o0, .ref o1])), (h, .inr (7, [.ref jj, .ref dd, .int (nI 0), .int (nI 0)])), (jj, aI k 36 (fun _ => 0)), (dd, aI k 6 (fun _ => 0)), (oo, aJ k 1 (fun _ => 0))]) rfl (by decide) (by decide) (by decide) (Nat.le_of_ble_eq_true rfl) ⟨Nat.le_of_ble_eq_true rfl, Nat.le_of_ble_eq_true rfl⟩ (fun rv w1 h1 => ?_)
  obtain ⟨rfl, rfl⟩ := h1
  refine G.aft [0, 1, 2, 3, 4, 5] (ws' := [(o, .inr (14, [.ref h, .ref pp, .ref x2, .ref x3, .ref x4, .ref o2, .ref o4, .ref o9, .ref o7, .ref o0, .ref o1])), (h, .inr (7, [.ref jj, .ref dd, .int (nI 0), .int (nI 0)])), (jj, aI k 36 (fun _ => 0)), (dd, aI k 6 (fun _ => 0)), (oo, aJ k 1 (fun _ => 0)), (mo, .inr (15, [.ref e0, .ref c1, .ref c2, .ref c3, .ref c4, .ref c5, .null, .int (nI 0), .int (nI 0), .int 0, .int 0, .int 1]))]) (st' := [.int 0]) (cells' := 301) (slots' := 2006) (g' := 0) (by decide) rfl rfl rfl rfl rfl ?_
  refine g_istore (pc := 1228) C [(7, .int 0), (6, .int 1), (0, .ref b), (1, .ref o), (2, .ref mo), (3, .ref oo), (4, .ref od), (5, .int (nI 0))] dL_law_1228 (by decide) rfl ?_
  refine g_aload_n (pc := 1230) C 4 rfl rfl dL_law_1230 ?_
  refine g_callV (pc := 1231) (cells := 301) (slots := 2006) (g := 0) (As := []) (st := []) (T := TX11) (q0 := 5) C (nA := 0) rfl (c_X11_thrown mo e0 c1 c2 c3 c4 c5 1 (nI 0) (nI 0) 0 0 ) q_468 q_469 q_467 q_265 q_466 (by decide +kernel) rfl rfl dL_law_1231 ⟨Nat.le_of_ble_eq_true rfl, Nat.le_of_ble_eq_true rfl⟩ [5] [0, 1, 2, 3, 4] rfl (wr := [(o, .inr (14, [.ref h, .ref pp, .ref x2, .ref x3, .ref x4, .ref o2, .ref o4, .ref o9, .ref o7, .ref o0, .ref o1])), (h, .inr (7, [.ref jj, .ref dd, .int (nI 0), .int (nI 0)])), (jj, aI k 36 (fun _ => 0)), (dd, aI k 6 (fun _ => 0)), (oo, aJ k 1 (fun _ => 0))]) rfl (by decide) (by decide) (by decide) (Nat.le_of_ble_eq_true rfl) ⟨Nat.le_of_ble_eq_true rfl, Nat.le_of_ble_eq_true rfl⟩ (fun rv w1 h1 => ?_)
  obtain ⟨rfl, rfl⟩ := h1
  refine G.aft [0, 1, 2, 3, 4, 5] (ws' := [(o, .inr (14, [.ref h, .ref pp, .ref x2, .ref x3, .ref x4, .ref o2, .ref o4, .ref o9, .ref o7, .ref o0, .ref o1])), (h, .inr (7, [.ref jj, .ref dd, .int (nI 0), .int (nI 0)])), (jj, aI k 36 (fun _ => 0)), (dd, aI k 6 (fun _ => 0)), (oo, aJ k 1 (fun _ => 0)), (mo, .inr (15, [.ref e0, .ref c1, .ref c2, .ref c3, .ref c4, .ref c5, .null, .int (nI 0), .int (nI 0), .int 0, .int 0, .int 1]))]) (st' := [.int 1]) (cells' := 301) (slots' := 2006) (g' := 0) (by decide) rfl rfl rfl rfl rfl ?_
  refine g_iload (pc := 1234) C 1 rfl dL_law_1234 ?_
  refine g_icmp_eq (pc := 1236) C 1241 (by decide) dL_law_1236 (fun c_1236 => ?_) (fun c_1236 => ?_)
  · refine g_iload (pc := 1241) C 1 rfl dL_law_1241 ?_
    refine g_if_ne (pc := 1243) C 1258 (by decide) dL_law_1243 (fun c_1243 => ?_) (fun c_1243 => ?_)
    · refine g_goto (pc := 1258) C 1995 (by decide) dL_law_1258 ?_
      refine G.re [] (ws' := []) (by decide) rfl ?_
      refine G.loc [2, 7] (lv' := [(0, .ref b), (5, .int (nI 0))]) rfl ?_
      refine G.widen (k' := 400) (n' := 3000) (g' := 0) (by decide) (by decide) (Nat.zero_le _) ?_
      exact law_end C hr hlk hX hbl hbA
    · exact absurd c_1243 (by decide)
  · exact absurd c_1236 (by decide)
set_option maxRecDepth 100000 in
set_option maxHeartbeats 1000000 in
theorem law_c22 {p : Program} {l : Launch} {e : Env} {s : State} {m : MethodId} {below : List Frame} {meth : Method} {c : Code} {D : va_G} {k : Nat → ClassId} {b : Nat} {xs : Nat → Int32} (C : Cx p l s m #[Value.ref b] c D k (va_A [] s.heap.size) cL_law RL 9) (hr : meth.sig.returnType = some .boolean) (hlk : meth.locks = false) (hX : va_X b 4 xs s s.heap) (hbl : b < s.heap.size) (hbA : ¬ va_A [] s.heap.size b) (c1 : Nat) (c2 : Nat) (c3 : Nat) (c4 : Nat) (c5 : Nat) (dd : Nat) (e0 : Nat) (h : Nat) (jj : Nat) (mo : Nat) (o : Nat) (o0 : Nat) (o1 : Nat) (o2 : Nat) (o4 : Nat) (o7 : Nat) (o9 : Nat) (od : Nat) (oo : Nat) (pp : Nat) (x2 : Nat) (x3 : Nat) (x4 : Nat)  : G p l e room_1 s m #[Value.ref b] below meth c D 9 (va_A [] s.heap.size) (lw_Z below #[Value.ref b] s) [(o, .inr (14, [.ref h, .ref pp, .ref x2, .ref x3, .ref x4, .ref o2, .ref o4, .ref o9, .ref o7, .ref o0, .ref o1])), (h, .inr (7, [.ref jj, .ref dd, .int (nI 0), .int (nI 0)])), (jj, aI k 36 (fun _ => 0)), (dd, aI k 6 (fun _ => 0)), (oo, aJ k 1 (fun _ => 0)), (mo, .inr (15, [.ref e0, .ref c1, .ref c2, .ref c3, .ref c4, .ref c5, .null, .int (nI 0), .int (nI 0), .int 0, .int 0, .int 0]))] [(0, .ref b), (1, .ref o), (2, .ref mo), (3, .ref oo), (4, .ref od), (5, .int (nI 0))] 300 2000 0 1261 [] := by
  refine g_aload_n (pc := 1261) C 1 rfl rfl dL_law_1261 ?_
  refine g_aload_n (pc := 1262) C 0 rfl rfl dL_law_1262 ?_
  refine g_iload (pc := 1263) C 5 rfl dL_law_1263 ?_
  refine g_iconst (pc := 1265) (v := 1) C (by decide) dL_law_1265 ?_
  refine g_iadd (pc := 1266) C dL_law_1266 ?_
  refine G.eqs (st' := [.int (nI 1), .ref b, .ref o]) (congrArg (β := List Value) (fun z9 => [.int z9, .ref b, .ref o]) (show (((nI 0) + 1) : Int32) = (nI 1) from nI_add _ _)) ?_
  refine g_sld (pc := 1267) C hX hbl hbA (j := 1) (by omega) (by omega) rfl dL_law_1267 ?_
  refine g_aload_n (pc := 1268) C 3 rfl rfl dL_law_1268 ?_
  refine g_callSW (pc := 1269) (cells := 300) (slots := 2000) (g := 0) (As := [.ref o, .int (xs 1), .ref oo]) (st := []) (b := 0) C (nA := 3) rfl (c_L_visits_z o h pp x2 x3 x4 o2 o4 o9 o7 o0 o1 jj dd oo (fun _ => 0) (xs 1) ) q_621 q_622 q_459 q_620 (by decide +kernel) dL_law_1269 ⟨Nat.le_of_ble_eq_true rfl, Nat.le_of_ble_eq_true rfl⟩ [0, 1, 2, 3, 4] [5] rfl (wr := [(mo, .inr (15, [.ref e0, .ref c1, .ref c2, .ref c3, .ref c4, .ref c5, .null, .int (nI 0), .int (nI 0), .int 0, .int 0, .int 0]))]) rfl (by decide) (by decide) (by decide) (Nat.le_of_ble_eq_true rfl) ⟨Nat.le_of_ble_eq_true rfl, Nat.le_of_ble_eq_true rfl⟩ (fun rv w1 h1 => ?_)
  obtain ⟨rfl, rfl⟩ := h1
  refine G.aft [1, 2, 3, 4, 5, 0] (ws' := [(o, .inr (14, [.ref h, .ref pp, .ref x2, .ref x3, .ref x4, .ref o2, .ref o4, .ref o9, .ref o7, .ref o0, .ref o1])), (h, .inr (7, [.ref jj, .ref dd, .int (nI 0), .int (nI 0)])), (jj, aI k 36 (fun _ => 0)), (dd, aI k 6 (fun _ => 0)), (oo, aJ k 1 (fun _ => 0)), (mo, .inr (15, [.ref e0, .ref c1, .ref c2, .ref c3, .ref c4, .ref c5, .null, .int (nI 0), .int (nI 0), .int 0, .int 0, .int 0]))]) (st' := [.int 1]) (cells' := 301) (slots' := 2006) (g' := 0) (by decide) rfl rfl rfl rfl rfl ?_
  refine g_istore (pc := 1272) C [(6, .int 1), (0, .ref b), (1, .ref o), (2, .ref mo), (3, .ref oo), (4, .ref od), (5, .int (nI 0))] dL_law_1272 (by decide) rfl ?_
  refine g_aload_n (pc := 1274) C 3 rfl rfl dL_law_1274 ?_
  refine g_aload_n (pc := 1275) C 1 rfl rfl dL_law_1275 ?_
  refine g_iload (pc := 1276) C 6 rfl dL_law_1276 ?_
  refine g_iconst (pc := 1278) (v := 1) C (by decide) dL_law_1278 ?_
  refine g_iadd (pc := 1279) C dL_law_1279 ?_
  refine G.eqs (st' := [.int (nI 1), .ref b, .ref mo]) (congrArg (β := List Value) (fun z9 => [.int z9, .ref b, .ref mo]) (show (((nI 0) + 1) : Int32) = (nI 1) from nI_add _ _)) ?_
  refine g_sld (pc := 1280) C hX hbl hbA (j := 1) (by omega) (by omega) rfl dL_law_1280 ?_
  refine g_callV (pc := 1281) (cells := 301) (slots := 2006) (g := 0) (As := [.int (xs 1)]) (st := []) (T := TX11) (q0 := 5) C (nA := 1) rfl (c_X11_visits_z mo e0 c1 c2 c3 c4 c5 0 (xs 1) ) q_625 q_626 q_624 q_265 q_623 (by decide +kernel) rfl rfl dL_law_1281 ⟨Nat.le_of_ble_eq_true rfl, Nat.le_of_ble_eq_true rfl⟩ [5] [0, 1, 2, 3, 4] rfl (wr := [(o, .inr (14, [.ref h, .ref pp, .ref x2, .ref x3, .ref x4, .ref o2, .ref o4, .ref o9, .ref o7, .ref o0, .ref o1])), (h, .inr (7, [.ref jj, .ref dd, .int (nI 0), .int (nI 0)])), (jj, aI k 36 (fun _ => 0)), (dd, aI k 6 (fun _ => 0)), (oo, aJ k 1 (fun _ => 0))]) rfl (by decide) (by decide) (by decide) (Nat.le_of_ble_eq_true rfl) ⟨Nat.le_of_ble_eq_true rfl, Nat.le_of_ble_eq_true rfl⟩ (fun rv w1 h1 => ?_)
  obtain ⟨rfl, rfl⟩ := h1
  refine G.aft [0, 1, 2, 3, 4, 5] (ws' := [(o, .inr (14, [.ref h, .ref pp, .ref x2, .ref x3, .ref x4, .ref o2, .ref o4, .ref o9, .ref o7, .ref o0, .ref o1])), (h, .inr (7, [.ref jj, .ref dd, .int (nI 0), .int (nI 0)])), (jj, aI k 36 (fun _ => 0)), (dd, aI k 6 (fun _ => 0)), (oo, aJ k 1 (fun _ => 0)), (mo, .inr (15, [.ref e0, .ref c1, .ref c2, .ref c3, .ref c4, .ref c5, .null, .int (nI 0), .int (nI 0), .int 0, .int 0, .int 1]))]) (st' := [.int 0]) (cells' := 301) (slots' := 2006) (g' := 0) (by decide) rfl rfl rfl rfl rfl ?_
  refine g_istore (pc := 1284) C [(7, .int 0), (6, .int 1), (0, .ref b), (1, .ref o), (2, .ref mo), (3, .ref oo), (4, .ref od), (5, .int (nI 0))] dL_law_1284 (by decide) rfl ?_
  refine g_aload_n (pc := 1286) C 4 rfl rfl dL_law_1286 ?_
  refine g_callV (pc := 1287) (cells := 301) (slots := 2006) (g := 0) (As := []) (st := []) (T := TX11) (q0 := 5) C (nA := 0) rfl (c_X11_thrown mo e0 c1 c2 c3 c4 c5 1 (nI 0) (nI 0) 0 0 ) q_468 q_469 q_467 q_265 q_466 (by decide +kernel) rfl rfl dL_law_1287 ⟨Nat.le_of_ble_eq_true rfl, Nat.le_of_ble_eq_true rfl⟩ [5] [0, 1, 2, 3, 4] rfl (wr := [(o, .inr (14, [.ref h, .ref pp, .ref x2, .ref x3, .ref x4, .ref o2, .ref o4, .ref o9, .ref o7, .ref o0, .ref o1])), (h, .inr (7, [.ref jj, .ref dd, .int (nI 0), .int (nI 0)])), (jj, aI k 36 (fun _ => 0)), (dd, aI k 6 (fun _ => 0)), (oo, aJ k 1 (fun _ => 0))]) rfl (by decide) (by decide) (by decide) (Nat.le_of_ble_eq_true rfl) ⟨Nat.le_of_ble_eq_true rfl, Nat.le_of_ble_eq_true rfl⟩ (fun rv w1 h1 => ?_)
  obtain ⟨rfl, rfl⟩ := h1
  refine G.aft [0, 1, 2, 3, 4, 5] (ws' := [(o, .inr (14, [.ref h, .ref pp, .ref x2, .ref x3, .ref x4, .ref o2, .ref o4, .ref o9, .ref o7, .ref o0, .ref o1])), (h, .inr (7, [.ref jj, .ref dd, .int (nI 0), .int (nI 0)])), (jj, aI k 36 (fun _ => 0)), (dd, aI k 6 (fun _ => 0)), (oo, aJ k 1 (fun _ => 0)), (mo, .inr (15, [.ref e0, .ref c1, .ref c2, .ref c3, .ref c4, .ref c5, .null, .int (nI 0), .int (nI 0), .int 0, .int 0, .int 1]))]) (st' := [.int 1]) (cells' := 301) (slots' := 2006) (g' := 0) (by decide) rfl rfl rfl rfl rfl ?_
  refine g_iload (pc := 1290) C 1 rfl dL_law_1290 ?_
  refine g_icmp_eq (pc := 1292) C 1297 (by decide) dL_law_1292 (fun c_1292 => ?_) (fun c_1292 => ?_)
  · refine g_iload (pc := 1297) C 1 rfl dL_law_1297 ?_
    refine g_if_ne (pc := 1299) C 1314 (by decide) dL_law_1299 (fun c_1299 => ?_) (fun c_1299 => ?_)
    · refine g_goto (pc := 1314) C 1995 (by decide) dL_law_1314 ?_
      refine G.re [] (ws' := []) (by decide) rfl ?_
      refine G.loc [2, 7] (lv' := [(0, .ref b), (5, .int (nI 0))]) rfl ?_
      refine G.widen (k' := 400) (n' := 3000) (g' := 0) (by decide) (by decide) (Nat.zero_le _) ?_
      exact law_end C hr hlk hX hbl hbA
    · exact absurd c_1299 (by decide)
  · exact absurd c_1292 (by decide)
set_option maxRecDepth 100000 in
set_option maxHeartbeats 1000000 in
theorem law_c23 {p : Program} {l : Launch} {e : Env} {s : State} {m : MethodId} {below : List Frame} {meth : Method} {c : Code} {D : va_G} {k : Nat → ClassId} {b : Nat} {xs : Nat → Int32} (C : Cx p l s m #[Value.ref b] c D k (va_A [] s.heap.size) cL_law RL 9) (hr : meth.sig.returnType = some .boolean) (hlk : meth.locks = false) (hX : va_X b 4 xs s s.heap) (hbl : b < s.heap.size) (hbA : ¬ va_A [] s.heap.size b) (c1 : Nat) (c2 : Nat) (c3 : Nat) (c4 : Nat) (c5 : Nat) (dd : Nat) (e0 : Nat) (h : Nat) (jj : Nat) (mo : Nat) (o : Nat) (o0 : Nat) (o1 : Nat) (o2 : Nat) (o4 : Nat) (o7 : Nat) (o9 : Nat) (od : Nat) (oo : Nat) (pp : Nat) (x2 : Nat) (x3 : Nat) (x4 : Nat)  : G p l e room_1 s m #[Value.ref b] below meth c D 9 (va_A [] s.heap.size) (lw_Z below #[Value.ref b] s) [(o, .inr (14, [.ref h, .ref pp, .ref x2, .ref x3, .ref x4, .ref o2, .ref o4, .ref o9, .ref o7, .ref o0, .ref o1])), (h, .inr (7, [.ref jj, .ref dd, .int (nI 0), .int (nI 0)])), (jj, aI k 36 (fun _ => 0)), (dd, aI k 6 (fun _ => 0)), (oo, aJ k 1 (fun _ => 0)), (mo, .inr (15, [.ref e0, .ref c1, .ref c2, .ref c3, .ref c4, .ref c5, .null, .int (nI 0), .int (nI 0), .int 0, .int 0, .int 0]))] [(0, .ref b), (1, .ref o), (2, .ref mo), (3, .ref oo), (4, .ref od), (5, .int (nI 0))] 300 2000 0 1317 [] := by
  refine g_aload_n (pc := 1317) C 1 rfl rfl dL_law_1317 ?_
  refine g_aload_n (pc := 1318) C 3 rfl rfl dL_law_1318 ?_
  refine g_callSW (pc := 1319) (cells := 300) (slots := 2000) (g := 0) (As := [.ref o, .ref oo]) (st := []) (b := 0) C (nA := 2) rfl (c_L_areTree_z o h pp x2 x3 x4 o2 o4 o9 o7 o0 o1 jj dd oo (fun _ => 0) ) q_628 q_629 q_459 q_627 (by decide +kernel) dL_law_1319 ⟨Nat.le_of_ble_eq_true rfl, Nat.le_of_ble_eq_true rfl⟩ [0, 1, 2, 3, 4] [5] rfl (wr := [(mo, .inr (15, [.ref e0, .ref c1, .ref c2, .ref c3, .ref c4, .ref c5, .null, .int (nI 0), .int (nI 0), .int 0, .int 0, .int 0]))]) rfl (by decide) (by decide) (by decide) (Nat.le_of_ble_eq_true rfl) ⟨Nat.le_of_ble_eq_true rfl, Nat.le_of_ble_eq_true rfl⟩ (fun rv w1 h1 => ?_)
  obtain ⟨rfl, rfl⟩ := h1
  refine G.aft [1, 2, 3, 4, 5, 0] (ws' := [(o, .inr (14, [.ref h, .ref pp, .ref x2, .ref x3, .ref x4, .ref o2, .ref o4, .ref o9, .ref o7, .ref o0, .ref o1])), (h, .inr (7, [.ref jj, .ref dd, .int (nI 0), .int (nI 0)])), (jj, aI k 36 (fun _ => 0)), (dd, aI k 6 (fun _ => 0)), (oo, aJ k 1 (fun _ => 0)), (mo, .inr (15, [.ref e0, .ref c1, .ref c2, .ref c3, .ref c4, .ref c5, .null, .int (nI 0), .int (nI 0), .int 0, .int 0, .int 0]))]) (st' := [.int 1]) (cells' := 301) (slots' := 2006) (g' := 0) (by decide) rfl rfl rfl rfl rfl ?_
  refine g_istore (pc := 1322) C [(6, .int 1), (0, .ref b), (1, .ref o), (2, .ref mo), (3, .ref oo), (4, .ref od), (5, .int (nI 0))] dL_law_1322 (by decide) rfl ?_
  refine g_aload_n (pc := 1324) C 3 rfl rfl dL_law_1324 ?_
  refine g_callV (pc := 1325) (cells := 301) (slots := 2006) (g := 0) (As := []) (st := []) (T := TX11) (q0 := 5) C (nA := 0) rfl (c_X11_areTree_z mo e0 c1 c2 c3 c4 c5 0 ) q_632 q_633 q_631 q_265 q_630 (by decide +kernel) rfl rfl dL_law_1325 ⟨Nat.le_of_ble_eq_true rfl, Nat.le_of_ble_eq_true rfl⟩ [5] [0, 1, 2, 3, 4] rfl (wr := [(o, .inr (14, [.ref h, .ref pp, .ref x2, .ref x3, .ref x4, .ref o2, .ref o4, .ref o9, .ref o7, .ref o0, .ref o1])), (h, .inr (7, [.ref jj, .ref dd, .int (nI 0), .int (nI 0)])), (jj, aI k 36 (fun _ => 0)), (dd, aI k 6 (fun _ => 0)), (oo, aJ k 1 (fun _ => 0))]) rfl (by decide) (by decide) (by decide) (Nat.le_of_ble_eq_true rfl) ⟨Nat.le_of_ble_eq_true rfl, Nat.le_of_ble_eq_true rfl⟩ (fun rv w1 h1 => ?_)
  obtain ⟨rfl, rfl⟩ := h1
  refine G.aft [0, 1, 2, 3, 4, 5] (ws' := [(o, .inr (14, [.ref h, .ref pp, .ref x2, .ref x3, .ref x4, .ref o2, .ref o4, .ref o9, .ref o7, .ref o0, .ref o1])), (h, .inr (7, [.ref jj, .ref dd, .int (nI 0), .int (nI 0)])), (jj, aI k 36 (fun _ => 0)), (dd, aI k 6 (fun _ => 0)), (oo, aJ k 1 (fun _ => 0)), (mo, .inr (15, [.ref e0, .ref c1, .ref c2, .ref c3, .ref c4, .ref c5, .null, .int (nI 0), .int (nI 0), .int 0, .int 0, .int 1]))]) (st' := [.int 0]) (cells' := 301) (slots' := 2006) (g' := 0) (by decide) rfl rfl rfl rfl rfl ?_
  refine g_istore (pc := 1328) C [(7, .int 0), (6, .int 1), (0, .ref b), (1, .ref o), (2, .ref mo), (3, .ref oo), (4, .ref od), (5, .int (nI 0))] dL_law_1328 (by decide) rfl ?_
  refine g_aload_n (pc := 1330) C 4 rfl rfl dL_law_1330 ?_
  refine g_callV (pc := 1331) (cells := 301) (slots := 2006) (g := 0) (As := []) (st := []) (T := TX11) (q0 := 5) C (nA := 0) rfl (c_X11_thrown mo e0 c1 c2 c3 c4 c5 1 (nI 0) (nI 0) 0 0 ) q_468 q_469 q_467 q_265 q_466 (by decide +kernel) rfl rfl dL_law_1331 ⟨Nat.le_of_ble_eq_true rfl, Nat.le_of_ble_eq_true rfl⟩ [5] [0, 1, 2, 3, 4] rfl (wr := [(o, .inr (14, [.ref h, .ref pp, .ref x2, .ref x3, .ref x4, .ref o2, .ref o4, .ref o9, .ref o7, .ref o0, .ref o1])), (h, .inr (7, [.ref jj, .ref dd, .int (nI 0), .int (nI 0)])), (jj, aI k 36 (fun _ => 0)), (dd, aI k 6 (fun _ => 0)), (oo, aJ k 1 (fun _ => 0))]) rfl (by decide) (by decide) (by decide) (Nat.le_of_ble_eq_true rfl) ⟨Nat.le_of_ble_eq_true rfl, Nat.le_of_ble_eq_true rfl⟩ (fun rv w1 h1 => ?_)
  obtain ⟨rfl, rfl⟩ := h1
  refine G.aft [0, 1, 2, 3, 4, 5] (ws' := [(o, .inr (14, [.ref h, .ref pp, .ref x2, .ref x3, .ref x4, .ref o2, .ref o4, .ref o9, .ref o7, .ref o0, .ref o1])), (h, .inr (7, [.ref jj, .ref dd, .int (nI 0), .int (nI 0)])), (jj, aI k 36 (fun _ => 0)), (dd, aI k 6 (fun _ => 0)), (oo, aJ k 1 (fun _ => 0)), (mo, .inr (15, [.ref e0, .ref c1, .ref c2, .ref c3, .ref c4, .ref c5, .null, .int (nI 0), .int (nI 0), .int 0, .int 0, .int 1]))]) (st' := [.int 1]) (cells' := 301) (slots' := 2006) (g' := 0) (by decide) rfl rfl rfl rfl rfl ?_
  refine g_iload (pc := 1334) C 1 rfl dL_law_1334 ?_
  refine g_icmp_eq (pc := 1336) C 1341 (by decide) dL_law_1336 (fun c_1336 => ?_) (fun c_1336 => ?_)
  · refine g_iload (pc := 1341) C 1 rfl dL_law_1341 ?_
    refine g_if_ne (pc := 1343) C 1365 (by decide) dL_law_1343 (fun c_1343 => ?_) (fun c_1343 => ?_)
    · refine g_goto (pc := 1365) C 1995 (by decide) dL_law_1365 ?_
      refine G.re [] (ws' := []) (by decide) rfl ?_
      refine G.loc [2, 7] (lv' := [(0, .ref b), (5, .int (nI 0))]) rfl ?_
      refine G.widen (k' := 400) (n' := 3000) (g' := 0) (by decide) (by decide) (Nat.zero_le _) ?_
      exact law_end C hr hlk hX hbl hbA
    · exact absurd c_1343 (by decide)
  · exact absurd c_1336 (by decide)
set_option maxRecDepth 100000 in
set_option maxHeartbeats 1000000 in
theorem law_c24 {p : Program} {l : Launch} {e : Env} {s : State} {m : MethodId} {below : List Frame} {meth : Method} {c : Code} {D : va_G} {k : Nat → ClassId} {b : Nat} {xs : Nat → Int32} (C : Cx p l s m #[Value.ref b] c D k (va_A [] s.heap.size) cL_law RL 9) (hr : meth.sig.returnType = some .boolean) (hlk : meth.locks = false) (hX : va_X b 4 xs s s.heap) (hbl : b < s.heap.size) (hbA : ¬ va_A [] s.heap.size b) (c1 : Nat) (c2 : Nat) (c3 : Nat) (c4 : Nat) (c5 : Nat) (dd : Nat) (e0 : Nat) (h : Nat) (jj : Nat) (mo : Nat) (o : Nat) (o0 : Nat) (o1 : Nat) (o2 : Nat) (o4 : Nat) (o7 : Nat) (o9 : Nat) (od : Nat) (oo : Nat) (pp : Nat) (x2 : Nat) (x3 : Nat) (x4 : Nat)  : G p l e room_1 s m #[Value.ref b] below meth c D 9 (va_A [] s.heap.size) (lw_Z below #[Value.ref b] s) [(o, .inr (14, [.ref h, .ref pp, .ref x2, .ref x3, .ref x4, .ref o2, .ref o4, .ref o9, .ref o7, .ref o0, .ref o1])), (h, .inr (7, [.ref jj, .ref dd, .int (nI 0), .int (nI 0)])), (jj, aI k 36 (fun _ => 0)), (dd, aI k 6 (fun _ => 0)), (oo, aJ k 1 (fun _ => 0)), (mo, .inr (15, [.ref e0, .ref c1, .ref c2, .ref c3, .ref c4, .ref c5, .null, .int (nI 0), .int (nI 0), .int 0, .int 0, .int 0]))] [(0, .ref b), (1, .ref o), (2, .ref mo), (3, .ref oo), (4, .ref od), (5, .int (nI 0))] 300 2000 0 1368 [] := by
  refine g_aload_n (pc := 1368) C 1 rfl rfl dL_law_1368 ?_
  refine g_aload_n (pc := 1369) C 0 rfl rfl dL_law_1369 ?_
  refine g_iload (pc := 1370) C 5 rfl dL_law_1370 ?_
  refine g_iconst (pc := 1372) (v := 1) C (by decide) dL_law_1372 ?_
  refine g_iadd (pc := 1373) C dL_law_1373 ?_
  refine G.eqs (st' := [.int (nI 1), .ref b, .ref o]) (congrArg (β := List Value) (fun z9 => [.int z9, .ref b, .ref o]) (show (((nI 0) + 1) : Int32) = (nI 1) from nI_add _ _)) ?_
  refine g_sld (pc := 1374) C hX hbl hbA (j := 1) (by omega) (by omega) rfl dL_law_1374 ?_
  refine g_aload_n (pc := 1375) C 0 rfl rfl dL_law_1375 ?_
  refine g_iload (pc := 1376) C 5 rfl dL_law_1376 ?_
  refine g_iconst (pc := 1378) (v := 2) C (by decide) dL_law_1378 ?_
  refine g_iadd (pc := 1379) C dL_law_1379 ?_
  refine G.eqs (st' := [.int (nI 2), .ref b, .int (xs 1), .ref o]) (congrArg (β := List Value) (fun z9 => [.int z9, .ref b, .int (xs 1), .ref o]) (show (((nI 0) + 2) : Int32) = (nI 2) from nI_add _ _)) ?_
  refine g_sld (pc := 1380) C hX hbl hbA (j := 2) (by omega) (by omega) rfl dL_law_1380 ?_
  refine g_aload_n (pc := 1381) C 3 rfl rfl dL_law_1381 ?_
  refine g_callSW (pc := 1382) (cells := 300) (slots := 2000) (g := 0) (As := [.ref o, .int (xs 1), .int (xs 2), .ref oo]) (st := []) (b := 0) C (nA := 4) rfl (c_L_setDebt_z o h pp x2 x3 x4 o2 o4 o9 o7 o0 o1 jj dd oo (fun _ => 0) (xs 1) (xs 2) ) q_635 q_636 q_459 q_634 (by decide +kernel) dL_law_1382 ⟨Nat.le_of_ble_eq_true rfl, Nat.le_of_ble_eq_true rfl⟩ [0, 1, 2, 3, 4] [5] rfl (wr := [(mo, .inr (15, [.ref e0, .ref c1, .ref c2, .ref c3, .ref c4, .ref c5, .null, .int (nI 0), .int (nI 0), .int 0, .int 0, .int 0]))]) rfl (by decide) (by decide) (by decide) (Nat.le_of_ble_eq_true rfl) ⟨Nat.le_of_ble_eq_true rfl, Nat.le_of_ble_eq_true rfl⟩ (fun rv w1 h1 => ?_)
  obtain ⟨rfl, rfl⟩ := h1
  refine G.aft [1, 2, 3, 4, 5, 0] (ws' := [(o, .inr (14, [.ref h, .ref pp, .ref x2, .ref x3, .ref x4, .ref o2, .ref o4, .ref o9, .ref o7, .ref o0, .ref o1])), (h, .inr (7, [.ref jj, .ref dd, .int (nI 0), .int (nI 0)])), (jj, aI k 36 (fun _ => 0)), (dd, aI k 6 (fun _ => 0)), (oo, aJ k 1 (fun _ => 0)), (mo, .inr (15, [.ref e0, .ref c1, .ref c2, .ref c3, .ref c4, .ref c5, .null, .int (nI 0), .int (nI 0), .int 0, .int 0, .int 0]))]) (st' := [.int 1]) (cells' := 301) (slots' := 2006) (g' := 0) (by decide) rfl rfl rfl rfl rfl ?_
  refine g_istore (pc := 1385) C [(6, .int 1), (0, .ref b), (1, .ref o), (2, .ref mo), (3, .ref oo), (4, .ref od), (5, .int (nI 0))] dL_law_1385 (by decide) rfl ?_
  refine g_aload_n (pc := 1387) C 3 rfl rfl dL_law_1387 ?_
  refine g_aload_n (pc := 1388) C 1 rfl rfl dL_law_1388 ?_
  refine g_iload (pc := 1389) C 6 rfl dL_law_1389 ?_
  refine g_iconst (pc := 1391) (v := 1) C (by decide) dL_law_1391 ?_
  refine g_iadd (pc := 1392) C dL_law_1392 ?_
  refine G.eqs (st' := [.int (nI 1), .ref b, .ref mo]) (congrArg (β := List Value) (fun z9 => [.int z9, .ref b, .ref mo]) (show (((nI 0) + 1) : Int32) = (nI 1) from nI_add _ _)) ?_
  refine g_sld (pc := 1393) C hX hbl hbA (j := 1) (by omega) (by omega) rfl dL_law_1393 ?_
  refine g_aload_n (pc := 1394) C 1 rfl rfl dL_law_1394 ?_
  refine g_iload (pc := 1395) C 6 rfl dL_law_1395 ?_
  refine g_iconst (pc := 1397) (v := 2) C (by decide) dL_law_1397 ?_
  refine g_iadd (pc := 1398) C dL_law_1398 ?_
  refine G.eqs (st' := [.int (nI 2), .ref b, .int (xs 1), .ref mo]) (congrArg (β := List Value) (fun z9 => [.int z9, .ref b, .int (xs 1), .ref mo]) (show (((nI 0) + 2) : Int32) = (nI 2) from nI_add _ _)) ?_
  refine g_sld (pc := 1399) C hX hbl hbA (j := 2) (by omega) (by omega) rfl dL_law_1399 ?_
  refine g_callV (pc := 1400) (cells := 301) (slots := 2006) (g := 0) (As := [.int (xs 1), .int (xs 2)]) (st := []) (T := TX11) (q0 := 5) C (nA := 2) rfl (c_X11_setDebt_z mo e0 c1 c2 c3 c4 c5 0 (xs 1) (xs 2) ) q_639 q_640 q_638 q_265 q_637 (by decide +kernel) rfl rfl dL_law_1400 ⟨Nat.le_of_ble_eq_true rfl, Nat.le_of_ble_eq_true rfl⟩ [5] [0, 1, 2, 3, 4] rfl (wr := [(o, .inr (14, [.ref h, .ref pp, .ref x2, .ref x3, .ref x4, .ref o2, .ref o4, .ref o9, .ref o7, .ref o0, .ref o1])), (h, .inr (7, [.ref jj, .ref dd, .int (nI 0), .int (nI 0)])), (jj, aI k 36 (fun _ => 0)), (dd, aI k 6 (fun _ => 0)), (oo, aJ k 1 (fun _ => 0))]) rfl (by decide) (by decide) (by decide) (Nat.le_of_ble_eq_true rfl) ⟨Nat.le_of_ble_eq_true rfl, Nat.le_of_ble_eq_true rfl⟩ (fun rv w1 h1 => ?_)
  obtain ⟨rfl, rfl⟩ := h1
  refine G.aft [0, 1, 2, 3, 4, 5] (ws' := [(o, .inr (14, [.ref h, .ref pp, .ref x2, .ref x3, .ref x4, .ref o2, .ref o4, .ref o9, .ref o7, .ref o0, .ref o1])), (h, .inr (7, [.ref jj, .ref dd, .int (nI 0), .int (nI 0)])), (jj, aI k 36 (fun _ => 0)), (dd, aI k 6 (fun _ => 0)), (oo, aJ k 1 (fun _ => 0)), (mo, .inr (15, [.ref e0, .ref c1, .ref c2, .ref c3, .ref c4, .ref c5, .null, .int (nI 0), .int (nI 0), .int 0, .int 0, .int 1]))]) (st' := [.int 0]) (cells' := 301) (slots' := 2006) (g' := 0) (by decide) rfl rfl rfl rfl rfl ?_
  refine g_istore (pc := 1403) C [(7, .int 0), (6, .int 1), (0, .ref b), (1, .ref o), (2, .ref mo), (3, .ref oo), (4, .ref od), (5, .int (nI 0))] dL_law_1403 (by decide) rfl ?_
  refine g_aload_n (pc := 1405) C 4 rfl rfl dL_law_1405 ?_
  refine g_callV (pc := 1406) (cells := 301) (slots := 2006) (g := 0) (As := []) (st := []) (T := TX11) (q0 := 5) C (nA := 0) rfl (c_X11_thrown mo e0 c1 c2 c3 c4 c5 1 (nI 0) (nI 0) 0 0 ) q_468 q_469 q_467 q_265 q_466 (by decide +kernel) rfl rfl dL_law_1406 ⟨Nat.le_of_ble_eq_true rfl, Nat.le_of_ble_eq_true rfl⟩ [5] [0, 1, 2, 3, 4] rfl (wr := [(o, .inr (14, [.ref h, .ref pp, .ref x2, .ref x3, .ref x4, .ref o2, .ref o4, .ref o9, .ref o7, .ref o0, .ref o1])), (h, .inr (7, [.ref jj, .ref dd, .int (nI 0), .int (nI 0)])), (jj, aI k 36 (fun _ => 0)), (dd, aI k 6 (fun _ => 0)), (oo, aJ k 1 (fun _ => 0))]) rfl (by decide) (by decide) (by decide) (Nat.le_of_ble_eq_true rfl) ⟨Nat.le_of_ble_eq_true rfl, Nat.le_of_ble_eq_true rfl⟩ (fun rv w1 h1 => ?_)
  obtain ⟨rfl, rfl⟩ := h1
  refine G.aft [0, 1, 2, 3, 4, 5] (ws' := [(o, .inr (14, [.ref h, .ref pp, .ref x2, .ref x3, .ref x4, .ref o2, .ref o4, .ref o9, .ref o7, .ref o0, .ref o1])), (h, .inr (7, [.ref jj, .ref dd, .int (nI 0), .int (nI 0)])), (jj, aI k 36 (fun _ => 0)), (dd, aI k 6 (fun _ => 0)), (oo, aJ k 1 (fun _ => 0)), (mo, .inr (15, [.ref e0, .ref c1, .ref c2, .ref c3, .ref c4, .ref c5, .null, .int (nI 0), .int (nI 0), .int 0, .int 0, .int 1]))]) (st' := [.int 1]) (cells' := 301) (slots' := 2006) (g' := 0) (by decide) rfl rfl rfl rfl rfl ?_
  refine g_iload (pc := 1409) C 1 rfl dL_law_1409 ?_
  refine g_icmp_eq (pc := 1411) C 1416 (by decide) dL_law_1411 (fun c_1411 => ?_) (fun c_1411 => ?_)
  · refine g_iload (pc := 1416) C 1 rfl dL_law_1416 ?_
    refine g_if_ne (pc := 1418) C 1433 (by decide) dL_law_1418 (fun c_1418 => ?_) (fun c_1418 => ?_)
    · refine g_goto (pc := 1433) C 1995 (by decide) dL_law_1433 ?_
      refine G.re [] (ws' := []) (by decide) rfl ?_
      refine G.loc [2, 7] (lv' := [(0, .ref b), (5, .int (nI 0))]) rfl ?_
      refine G.widen (k' := 400) (n' := 3000) (g' := 0) (by decide) (by decide) (Nat.zero_le _) ?_
      exact law_end C hr hlk hX hbl hbA
    · exact absurd c_1418 (by decide)
  · exact absurd c_1411 (by decide)
set_option maxRecDepth 100000 in
set_option maxHeartbeats 1000000 in
theorem law_c25 {p : Program} {l : Launch} {e : Env} {s : State} {m : MethodId} {below : List Frame} {meth : Method} {c : Code} {D : va_G} {k : Nat → ClassId} {b : Nat} {xs : Nat → Int32} (C : Cx p l s m #[Value.ref b] c D k (va_A [] s.heap.size) cL_law RL 9) (hr : meth.sig.returnType = some .boolean) (hlk : meth.locks = false) (hX : va_X b 4 xs s s.heap) (hbl : b < s.heap.size) (hbA : ¬ va_A [] s.heap.size b) (c1 : Nat) (c2 : Nat) (c3 : Nat) (c4 : Nat) (c5 : Nat) (dd : Nat) (e0 : Nat) (h : Nat) (jj : Nat) (mo : Nat) (o : Nat) (o0 : Nat) (o1 : Nat) (o2 : Nat) (o4 : Nat) (o7 : Nat) (o9 : Nat) (od : Nat) (oo : Nat) (pp : Nat) (x2 : Nat) (x3 : Nat) (x4 : Nat)  : G p l e room_1 s m #[Value.ref b] below meth c D 9 (va_A [] s.heap.size) (lw_Z below #[Value.ref b] s) [(o, .inr (14, [.ref h, .ref pp, .ref x2, .ref x3, .ref x4, .ref o2, .ref o4, .ref o9, .ref o7, .ref o0, .ref o1])), (h, .inr (7, [.ref jj, .ref dd, .int (nI 0), .int (nI 0)])), (jj, aI k 36 (fun _ => 0)), (dd, aI k 6 (fun _ => 0)), (oo, aJ k 1 (fun _ => 0)), (mo, .inr (15, [.ref e0, .ref c1, .ref c2, .ref c3, .ref c4, .ref c5, .null, .int (nI 0), .int (nI 0), .int 0, .int 0, .int 0]))] [(0, .ref b), (1, .ref o), (2, .ref mo), (3, .ref oo), (4, .ref od), (5, .int (nI 0))] 300 2000 0 1436 [] := by
  refine g_aload_n (pc := 1436) C 1 rfl rfl dL_law_1436 ?_
  refine g_aload_n (pc := 1437) C 0 rfl rfl dL_law_1437 ?_
  refine g_iload (pc := 1438) C 5 rfl dL_law_1438 ?_
  refine g_iconst (pc := 1440) (v := 1) C (by decide) dL_law_1440 ?_
  refine g_iadd (pc := 1441) C dL_law_1441 ?_
  refine G.eqs (st' := [.int (nI 1), .ref b, .ref o]) (congrArg (β := List Value) (fun z9 => [.int z9, .ref b, .ref o]) (show (((nI 0) + 1) : Int32) = (nI 1) from nI_add _ _)) ?_
  refine g_sld (pc := 1442) C hX hbl hbA (j := 1) (by omega) (by omega) rfl dL_law_1442 ?_
  refine g_aload_n (pc := 1443) C 0 rfl rfl dL_law_1443 ?_
  refine g_iload (pc := 1444) C 5 rfl dL_law_1444 ?_
  refine g_iconst (pc := 1446) (v := 2) C (by decide) dL_law_1446 ?_
  refine g_iadd (pc := 1447) C dL_law_1447 ?_
  refine G.eqs (st' := [.int (nI 2), .ref b, .int (xs 1), .ref o]) (congrArg (β := List Value) (fun z9 => [.int z9, .ref b, .int (xs 1), .ref o]) (show (((nI 0) + 2) : Int32) = (nI 2) from nI_add _ _)) ?_
  refine g_sld (pc := 1448) C hX hbl hbA (j := 2) (by omega) (by omega) rfl dL_law_1448 ?_
  refine g_if_eq (pc := 1449) C 1456 (by decide) dL_law_1449 (fun c_1449 => ?_) (fun c_1449 => ?_)
  · refine g_iconst (pc := 1456) (v := 0) C (by decide) dL_law_1456 ?_
    refine g_aload_n (pc := 1457) C 3 rfl rfl dL_law_1457 ?_
    refine g_callSW (pc := 1458) (cells := 300) (slots := 2000) (g := 0) (As := [.ref o, .int (xs 1), .int 0, .ref oo]) (st := []) (b := 0) C (nA := 4) rfl (c_L_deal_z o h pp x2 x3 x4 o2 o4 o9 o7 o0 o1 jj dd oo (fun _ => 0) (xs 1) 0 ) q_642 q_643 q_459 q_641 (by decide +kernel) dL_law_1458 ⟨Nat.le_of_ble_eq_true rfl, Nat.le_of_ble_eq_true rfl⟩ [0, 1, 2, 3, 4] [5] rfl (wr := [(mo, .inr (15, [.ref e0, .ref c1, .ref c2, .ref c3, .ref c4, .ref c5, .null, .int (nI 0), .int (nI 0), .int 0, .int 0, .int 0]))]) rfl (by decide) (by decide) (by decide) (Nat.le_of_ble_eq_true rfl) ⟨Nat.le_of_ble_eq_true rfl, Nat.le_of_ble_eq_true rfl⟩ (fun rv w1 h1 => ?_)
    obtain ⟨rfl, rfl⟩ := h1
    refine G.aft [1, 2, 3, 4, 5, 0] (ws' := [(o, .inr (14, [.ref h, .ref pp, .ref x2, .ref x3, .ref x4, .ref o2, .ref o4, .ref o9, .ref o7, .ref o0, .ref o1])), (h, .inr (7, [.ref jj, .ref dd, .int (nI 0), .int (nI 0)])), (jj, aI k 36 (fun _ => 0)), (dd, aI k 6 (fun _ => 0)), (oo, aJ k 1 (fun _ => 0)), (mo, .inr (15, [.ref e0, .ref c1, .ref c2, .ref c3, .ref c4, .ref c5, .null, .int (nI 0), .int (nI 0), .int 0, .int 0, .int 0]))]) (st' := [.int 1]) (cells' := 301) (slots' := 2006) (g' := 0) (by decide) rfl rfl rfl rfl rfl ?_
    refine g_istore (pc := 1461) C [(6, .int 1), (0, .ref b), (1, .ref o), (2, .ref mo), (3, .ref oo), (4, .ref od), (5, .int (nI 0))] dL_law_1461 (by decide) rfl ?_
    refine g_aload_n (pc := 1463) C 3 rfl rfl dL_law_1463 ?_
    refine g_aload_n (pc := 1464) C 1 rfl rfl dL_law_1464 ?_
    refine g_iload (pc := 1465) C 6 rfl dL_law_1465 ?_
    refine g_iconst (pc := 1467) (v := 1) C (by decide) dL_law_1467 ?_
    refine g_iadd (pc := 1468) C dL_law_1468 ?_
    refine G.eqs (st' := [.int (nI 1), .ref b, .ref mo]) (congrArg (β := List Value) (fun z9 => [.int z9, .ref b, .ref mo]) (show (((nI 0) + 1) : Int32) = (nI 1) from nI_add _ _)) ?_
    refine g_sld (pc := 1469) C hX hbl hbA (j := 1) (by omega) (by omega) rfl dL_law_1469 ?_
    refine g_aload_n (pc := 1470) C 1 rfl rfl dL_law_1470 ?_
    refine g_iload (pc := 1471) C 6 rfl dL_law_1471 ?_
    refine g_iconst (pc := 1473) (v := 2) C (by decide) dL_law_1473 ?_
    refine g_iadd (pc := 1474) C dL_law_1474 ?_
    refine G.eqs (st' := [.int (nI 2), .ref b, .int (xs 1), .ref mo]) (congrArg (β := List Value) (fun z9 => [.int z9, .ref b, .int (xs 1), .ref mo]) (show (((nI 0) + 2) : Int32) = (nI 2) from nI_add _ _)) ?_
    refine g_sld (pc := 1475) C hX hbl hbA (j := 2) (by omega) (by omega) rfl dL_law_1475 ?_
    refine g_if_eq (pc := 1476) C 1483 (by decide) dL_law_1476 (fun c_1476 => ?_) (fun c_1476 => ?_)
    · refine g_iconst (pc := 1483) (v := 0) C (by decide) dL_law_1483 ?_
      refine g_callV (pc := 1484) (cells := 301) (slots := 2006) (g := 0) (As := [.int (xs 1), .int 0]) (st := []) (T := TX11) (q0 := 5) C (nA := 2) rfl (c_X11_deal_z mo e0 c1 c2 c3 c4 c5 0 (xs 1) 0 ) q_646 q_647 q_645 q_265 q_644 (by decide +kernel) rfl rfl dL_law_1484 ⟨Nat.le_of_ble_eq_true rfl, Nat.le_of_ble_eq_true rfl⟩ [5] [0, 1, 2, 3, 4] rfl (wr := [(o, .inr (14, [.ref h, .ref pp, .ref x2, .ref x3, .ref x4, .ref o2, .ref o4, .ref o9, .ref o7, .ref o0, .ref o1])), (h, .inr (7, [.ref jj, .ref dd, .int (nI 0), .int (nI 0)])), (jj, aI k 36 (fun _ => 0)), (dd, aI k 6 (fun _ => 0)), (oo, aJ k 1 (fun _ => 0))]) rfl (by decide) (by decide) (by decide) (Nat.le_of_ble_eq_true rfl) ⟨Nat.le_of_ble_eq_true rfl, Nat.le_of_ble_eq_true rfl⟩ (fun rv w1 h1 => ?_)
      obtain ⟨rfl, rfl⟩ := h1
      refine G.aft [0, 1, 2, 3, 4, 5] (ws' := [(o, .inr (14, [.ref h, .ref pp, .ref x2, .ref x3, .ref x4, .ref o2, .ref o4, .ref o9, .ref o7, .ref o0, .ref o1])), (h, .inr (7, [.ref jj, .ref dd, .int (nI 0), .int (nI 0)])), (jj, aI k 36 (fun _ => 0)), (dd, aI k 6 (fun _ => 0)), (oo, aJ k 1 (fun _ => 0)), (mo, .inr (15, [.ref e0, .ref c1, .ref c2, .ref c3, .ref c4, .ref c5, .null, .int (nI 0), .int (nI 0), .int 0, .int 0, .int 1]))]) (st' := [.int 0]) (cells' := 301) (slots' := 2006) (g' := 0) (by decide) rfl rfl rfl rfl rfl ?_
      refine g_istore (pc := 1487) C [(7, .int 0), (6, .int 1), (0, .ref b), (1, .ref o), (2, .ref mo), (3, .ref oo), (4, .ref od), (5, .int (nI 0))] dL_law_1487 (by decide) rfl ?_
      refine g_aload_n (pc := 1489) C 4 rfl rfl dL_law_1489 ?_
      refine g_callV (pc := 1490) (cells := 301) (slots := 2006) (g := 0) (As := []) (st := []) (T := TX11) (q0 := 5) C (nA := 0) rfl (c_X11_thrown mo e0 c1 c2 c3 c4 c5 1 (nI 0) (nI 0) 0 0 ) q_468 q_469 q_467 q_265 q_466 (by decide +kernel) rfl rfl dL_law_1490 ⟨Nat.le_of_ble_eq_true rfl, Nat.le_of_ble_eq_true rfl⟩ [5] [0, 1, 2, 3, 4] rfl (wr := [(o, .inr (14, [.ref h, .ref pp, .ref x2, .ref x3, .ref x4, .ref o2, .ref o4, .ref o9, .ref o7, .ref o0, .ref o1])), (h, .inr (7, [.ref jj, .ref dd, .int (nI 0), .int (nI 0)])), (jj, aI k 36 (fun _ => 0)), (dd, aI k 6 (fun _ => 0)), (oo, aJ k 1 (fun _ => 0))]) rfl (by decide) (by decide) (by decide) (Nat.le_of_ble_eq_true rfl) ⟨Nat.le_of_ble_eq_true rfl, Nat.le_of_ble_eq_true rfl⟩ (fun rv w1 h1 => ?_)
      obtain ⟨rfl, rfl⟩ := h1
      refine G.aft [0, 1, 2, 3, 4, 5] (ws' := [(o, .inr (14, [.ref h, .ref pp, .ref x2, .ref x3, .ref x4, .ref o2, .ref o4, .ref o9, .ref o7, .ref o0, .ref o1])), (h, .inr (7, [.ref jj, .ref dd, .int (nI 0), .int (nI 0)])), (jj, aI k 36 (fun _ => 0)), (dd, aI k 6 (fun _ => 0)), (oo, aJ k 1 (fun _ => 0)), (mo, .inr (15, [.ref e0, .ref c1, .ref c2, .ref c3, .ref c4, .ref c5, .null, .int (nI 0), .int (nI 0), .int 0, .int 0, .int 1]))]) (st' := [.int 1]) (cells' := 301) (slots' := 2006) (g' := 0) (by decide) rfl rfl rfl rfl rfl ?_
      refine g_iload (pc := 1493) C 1 rfl dL_law_1493 ?_
      refine g_icmp_eq (pc := 1495) C 1500 (by decide) dL_law_1495 (fun c_1495 => ?_) (fun c_1495 => ?_)
      · refine g_iload (pc := 1500) C 1 rfl dL_law_1500 ?_
        refine g_if_ne (pc := 1502) C 1517 (by decide) dL_law_1502 (fun c_1502 => ?_) (fun c_1502 => ?_)
        · refine g_goto (pc := 1517) C 1995 (by decide) dL_law_1517 ?_
          refine G.re [] (ws' := []) (by decide) rfl ?_
          refine G.loc [2, 7] (lv' := [(0, .ref b), (5, .int (nI 0))]) rfl ?_
          refine G.widen (k' := 400) (n' := 3000) (g' := 0) (by decide) (by decide) (Nat.zero_le _) ?_
          exact law_end C hr hlk hX hbl hbA
        · exact absurd c_1502 (by decide)
      · exact absurd c_1495 (by decide)
    · refine g_iconst (pc := 1479) (v := 1) C (by decide) dL_law_1479 ?_
      refine g_goto (pc := 1480) C 1484 (by decide) dL_law_1480 ?_
      refine g_callV (pc := 1484) (cells := 301) (slots := 2006) (g := 0) (As := [.int (xs 1), .int 1]) (st := []) (T := TX11) (q0 := 5) C (nA := 2) rfl (c_X11_deal_z mo e0 c1 c2 c3 c4 c5 0 (xs 1) 1 ) q_646 q_647 q_645 q_265 q_644 (by decide +kernel) rfl rfl dL_law_1484 ⟨Nat.le_of_ble_eq_true rfl, Nat.le_of_ble_eq_true rfl⟩ [5] [0, 1, 2, 3, 4] rfl (wr := [(o, .inr (14, [.ref h, .ref pp, .ref x2, .ref x3, .ref x4, .ref o2, .ref o4, .ref o9, .ref o7, .ref o0, .ref o1])), (h, .inr (7, [.ref jj, .ref dd, .int (nI 0), .int (nI 0)])), (jj, aI k 36 (fun _ => 0)), (dd, aI k 6 (fun _ => 0)), (oo, aJ k 1 (fun _ => 0))]) rfl (by decide) (by decide) (by decide) (Nat.le_of_ble_eq_true rfl) ⟨Nat.le_of_ble_eq_true rfl, Nat.le_of_ble_eq_true rfl⟩ (fun rv w1 h1 => ?_)
      obtain ⟨rfl, rfl⟩ := h1
      refine G.aft [0, 1, 2, 3, 4, 5] (ws' := [(o, .inr (14, [.ref h, .ref pp, .ref x2, .ref x3, .ref x4, .ref o2, .ref o4, .ref o9, .ref o7, .ref o0, .ref o1])), (h, .inr (7, [.ref jj, .ref dd, .int (nI 0), .int (nI 0)])), (jj, aI k 36 (fun _ => 0)), (dd, aI k 6 (fun _ => 0)), (oo, aJ k 1 (fun _ => 0)), (mo, .inr (15, [.ref e0, .ref c1, .ref c2, .ref c3, .ref c4, .ref c5, .null, .int (nI 0), .int (nI 0), .int 0, .int 0, .int 1]))]) (st' := [.int 0]) (cells' := 301) (slots' := 2006) (g' := 0) (by decide) rfl rfl rfl rfl rfl ?_
      refine g_istore (pc := 1487) C [(7, .int 0), (6, .int 1), (0, .ref b), (1, .ref o), (2, .ref mo), (3, .ref oo), (4, .ref od), (5, .int (nI 0))] dL_law_1487 (by decide) rfl ?_
      refine g_aload_n (pc := 1489) C 4 rfl rfl dL_law_1489 ?_
      refine g_callV (pc := 1490) (cells := 301) (slots := 2006) (g := 0) (As := []) (st := []) (T := TX11) (q0 := 5) C (nA := 0) rfl (c_X11_thrown mo e0 c1 c2 c3 c4 c5 1 (nI 0) (nI 0) 0 0 ) q_468 q_469 q_467 q_265 q_466 (by decide +kernel) rfl rfl dL_law_1490 ⟨Nat.le_of_ble_eq_true rfl, Nat.le_of_ble_eq_true rfl⟩ [5] [0, 1, 2, 3, 4] rfl (wr := [(o, .inr (14, [.ref h, .ref pp, .ref x2, .ref x3, .ref x4, .ref o2, .ref o4, .ref o9, .ref o7, .ref o0, .ref o1])), (h, .inr (7, [.ref jj, .ref dd, .int (nI 0), .int (nI 0)])), (jj, aI k 36 (fun _ => 0)), (dd, aI k 6 (fun _ => 0)), (oo, aJ k 1 (fun _ => 0))]) rfl (by decide) (by decide) (by decide) (Nat.le_of_ble_eq_true rfl) ⟨Nat.le_of_ble_eq_true rfl, Nat.le_of_ble_eq_true rfl⟩ (fun rv w1 h1 => ?_)
      obtain ⟨rfl, rfl⟩ := h1
      refine G.aft [0, 1, 2, 3, 4, 5] (ws' := [(o, .inr (14, [.ref h, .ref pp, .ref x2, .ref x3, .ref x4, .ref o2, .ref o4, .ref o9, .ref o7, .ref o0, .ref o1])), (h, .inr (7, [.ref jj, .ref dd, .int (nI 0), .int (nI 0)])), (jj, aI k 36 (fun _ => 0)), (dd, aI k 6 (fun _ => 0)), (oo, aJ k 1 (fun _ => 0)), (mo, .inr (15, [.ref e0, .ref c1, .ref c2, .ref c3, .ref c4, .ref c5, .null, .int (nI 0), .int (nI 0), .int 0, .int 0, .int 1]))]) (st' := [.int 1]) (cells' := 301) (slots' := 2006) (g' := 0) (by decide) rfl rfl rfl rfl rfl ?_
      refine g_iload (pc := 1493) C 1 rfl dL_law_1493 ?_
      refine g_icmp_eq (pc := 1495) C 1500 (by decide) dL_law_1495 (fun c_1495 => ?_) (fun c_1495 => ?_)
      · refine g_iload (pc := 1500) C 1 rfl dL_law_1500 ?_
        refine g_if_ne (pc := 1502) C 1517 (by decide) dL_law_1502 (fun c_1502 => ?_) (fun c_1502 => ?_)
        · refine g_goto (pc := 1517) C 1995 (by decide) dL_law_1517 ?_
          refine G.re [] (ws' := []) (by decide) rfl ?_
          refine G.loc [2, 7] (lv' := [(0, .ref b), (5, .int (nI 0))]) rfl ?_
          refine G.widen (k' := 400) (n' := 3000) (g' := 0) (by decide) (by decide) (Nat.zero_le _) ?_
          exact law_end C hr hlk hX hbl hbA
        · exact absurd c_1502 (by decide)
      · exact absurd c_1495 (by decide)
  · refine g_iconst (pc := 1452) (v := 1) C (by decide) dL_law_1452 ?_
    refine g_goto (pc := 1453) C 1457 (by decide) dL_law_1453 ?_
    refine g_aload_n (pc := 1457) C 3 rfl rfl dL_law_1457 ?_
    refine g_callSW (pc := 1458) (cells := 300) (slots := 2000) (g := 0) (As := [.ref o, .int (xs 1), .int 1, .ref oo]) (st := []) (b := 0) C (nA := 4) rfl (c_L_deal_z o h pp x2 x3 x4 o2 o4 o9 o7 o0 o1 jj dd oo (fun _ => 0) (xs 1) 1 ) q_642 q_643 q_459 q_641 (by decide +kernel) dL_law_1458 ⟨Nat.le_of_ble_eq_true rfl, Nat.le_of_ble_eq_true rfl⟩ [0, 1, 2, 3, 4] [5] rfl (wr := [(mo, .inr (15, [.ref e0, .ref c1, .ref c2, .ref c3, .ref c4, .ref c5, .null, .int (nI 0), .int (nI 0), .int 0, .int 0, .int 0]))]) rfl (by decide) (by decide) (by decide) (Nat.le_of_ble_eq_true rfl) ⟨Nat.le_of_ble_eq_true rfl, Nat.le_of_ble_eq_true rfl⟩ (fun rv w1 h1 => ?_)
    obtain ⟨rfl, rfl⟩ := h1
    refine G.aft [1, 2, 3, 4, 5, 0] (ws' := [(o, .inr (14, [.ref h, .ref pp, .ref x2, .ref x3, .ref x4, .ref o2, .ref o4, .ref o9, .ref o7, .ref o0, .ref o1])), (h, .inr (7, [.ref jj, .ref dd, .int (nI 0), .int (nI 0)])), (jj, aI k 36 (fun _ => 0)), (dd, aI k 6 (fun _ => 0)), (oo, aJ k 1 (fun _ => 0)), (mo, .inr (15, [.ref e0, .ref c1, .ref c2, .ref c3, .ref c4, .ref c5, .null, .int (nI 0), .int (nI 0), .int 0, .int 0, .int 0]))]) (st' := [.int 1]) (cells' := 301) (slots' := 2006) (g' := 0) (by decide) rfl rfl rfl rfl rfl ?_
    refine g_istore (pc := 1461) C [(6, .int 1), (0, .ref b), (1, .ref o), (2, .ref mo), (3, .ref oo), (4, .ref od), (5, .int (nI 0))] dL_law_1461 (by decide) rfl ?_
    refine g_aload_n (pc := 1463) C 3 rfl rfl dL_law_1463 ?_
    refine g_aload_n (pc := 1464) C 1 rfl rfl dL_law_1464 ?_
    refine g_iload (pc := 1465) C 6 rfl dL_law_1465 ?_
    refine g_iconst (pc := 1467) (v := 1) C (by decide) dL_law_1467 ?_
    refine g_iadd (pc := 1468) C dL_law_1468 ?_
    refine G.eqs (st' := [.int (nI 1), .ref b, .ref mo]) (congrArg (β := List Value) (fun z9 => [.int z9, .ref b, .ref mo]) (show (((nI 0) + 1) : Int32) = (nI 1) from nI_add _ _)) ?_
    refine g_sld (pc := 1469) C hX hbl hbA (j := 1) (by omega) (by omega) rfl dL_law_1469 ?_
    refine g_aload_n (pc := 1470) C 1 rfl rfl dL_law_1470 ?_
    refine g_iload (pc := 1471) C 6 rfl dL_law_1471 ?_
    refine g_iconst (pc := 1473) (v := 2) C (by decide) dL_law_1473 ?_
    refine g_iadd (pc := 1474) C dL_law_1474 ?_
    refine G.eqs (st' := [.int (nI 2), .ref b, .int (xs 1), .ref mo]) (congrArg (β := List Value) (fun z9 => [.int z9, .ref b, .int (xs 1), .ref mo]) (show (((nI 0) + 2) : Int32) = (nI 2) from nI_add _ _)) ?_
    refine g_sld (pc := 1475) C hX hbl hbA (j := 2) (by omega) (by omega) rfl dL_law_1475 ?_
    refine g_if_eq (pc := 1476) C 1483 (by decide) dL_law_1476 (fun c_1476 => ?_) (fun c_1476 => ?_)
    · refine g_iconst (pc := 1483) (v := 0) C (by decide) dL_law_1483 ?_
      refine g_callV (pc := 1484) (cells := 301) (slots := 2006) (g := 0) (As := [.int (xs 1), .int 0]) (st := []) (T := TX11) (q0 := 5) C (nA := 2) rfl (c_X11_deal_z mo e0 c1 c2 c3 c4 c5 0 (xs 1) 0 ) q_646 q_647 q_645 q_265 q_644 (by decide +kernel) rfl rfl dL_law_1484 ⟨Nat.le_of_ble_eq_true rfl, Nat.le_of_ble_eq_true rfl⟩ [5] [0, 1, 2, 3, 4] rfl (wr := [(o, .inr (14, [.ref h, .ref pp, .ref x2, .ref x3, .ref x4, .ref o2, .ref o4, .ref o9, .ref o7, .ref o0, .ref o1])), (h, .inr (7, [.ref jj, .ref dd, .int (nI 0), .int (nI 0)])), (jj, aI k 36 (fun _ => 0)), (dd, aI k 6 (fun _ => 0)), (oo, aJ k 1 (fun _ => 0))]) rfl (by decide) (by decide) (by decide) (Nat.le_of_ble_eq_true rfl) ⟨Nat.le_of_ble_eq_true rfl, Nat.le_of_ble_eq_true rfl⟩ (fun rv w1 h1 => ?_)
      obtain ⟨rfl, rfl⟩ := h1
      refine G.aft [0, 1, 2, 3, 4, 5] (ws' := [(o, .inr (14, [.ref h, .ref pp, .ref x2, .ref x3, .ref x4, .ref o2, .ref o4, .ref o9, .ref o7, .ref o0, .ref o1])), (h, .inr (7, [.ref jj, .ref dd, .int (nI 0), .int (nI 0)])), (jj, aI k 36 (fun _ => 0)), (dd, aI k 6 (fun _ => 0)), (oo, aJ k 1 (fun _ => 0)), (mo, .inr (15, [.ref e0, .ref c1, .ref c2, .ref c3, .ref c4, .ref c5, .null, .int (nI 0), .int (nI 0), .int 0, .int 0, .int 1]))]) (st' := [.int 0]) (cells' := 301) (slots' := 2006) (g' := 0) (by decide) rfl rfl rfl rfl rfl ?_
      refine g_istore (pc := 1487) C [(7, .int 0), (6, .int 1), (0, .ref b), (1, .ref o), (2, .ref mo), (3, .ref oo), (4, .ref od), (5, .int (nI 0))] dL_law_1487 (by decide) rfl ?_
      refine g_aload_n (pc := 1489) C 4 rfl rfl dL_law_1489 ?_
      refine g_callV (pc := 1490) (cells := 301) (slots := 2006) (g := 0) (As := []) (st := []) (T := TX11) (q0 := 5) C (nA := 0) rfl (c_X11_thrown mo e0 c1 c2 c3 c4 c5 1 (nI 0) (nI 0) 0 0 ) q_468 q_469 q_467 q_265 q_466 (by decide +kernel) rfl rfl dL_law_1490 ⟨Nat.le_of_ble_eq_true rfl, Nat.le_of_ble_eq_true rfl⟩ [5] [0, 1, 2, 3, 4] rfl (wr := [(o, .inr (14, [.ref h, .ref pp, .ref x2, .ref x3, .ref x4, .ref o2, .ref o4, .ref o9, .ref o7, .ref o0, .ref o1])), (h, .inr (7, [.ref jj, .ref dd, .int (nI 0), .int (nI 0)])), (jj, aI k 36 (fun _ => 0)), (dd, aI k 6 (fun _ => 0)), (oo, aJ k 1 (fun _ => 0))]) rfl (by decide) (by decide) (by decide) (Nat.le_of_ble_eq_true rfl) ⟨Nat.le_of_ble_eq_true rfl, Nat.le_of_ble_eq_true rfl⟩ (fun rv w1 h1 => ?_)
      obtain ⟨rfl, rfl⟩ := h1
      refine G.aft [0, 1, 2, 3, 4, 5] (ws' := [(o, .inr (14, [.ref h, .ref pp, .ref x2, .ref x3, .ref x4, .ref o2, .ref o4, .ref o9, .ref o7, .ref o0, .ref o1])), (h, .inr (7, [.ref jj, .ref dd, .int (nI 0), .int (nI 0)])), (jj, aI k 36 (fun _ => 0)), (dd, aI k 6 (fun _ => 0)), (oo, aJ k 1 (fun _ => 0)), (mo, .inr (15, [.ref e0, .ref c1, .ref c2, .ref c3, .ref c4, .ref c5, .null, .int (nI 0), .int (nI 0), .int 0, .int 0, .int 1]))]) (st' := [.int 1]) (cells' := 301) (slots' := 2006) (g' := 0) (by decide) rfl rfl rfl rfl rfl ?_
      refine g_iload (pc := 1493) C 1 rfl dL_law_1493 ?_
      refine g_icmp_eq (pc := 1495) C 1500 (by decide) dL_law_1495 (fun c_1495 => ?_) (fun c_1495 => ?_)
      · refine g_iload (pc := 1500) C 1 rfl dL_law_1500 ?_
        refine g_if_ne (pc := 1502) C 1517 (by decide) dL_law_1502 (fun c_1502 => ?_) (fun c_1502 => ?_)
        · refine g_goto (pc := 1517) C 1995 (by decide) dL_law_1517 ?_
          refine G.re [] (ws' := []) (by decide) rfl ?_
          refine G.loc [2, 7] (lv' := [(0, .ref b), (5, .int (nI 0))]) rfl ?_
          refine G.widen (k' := 400) (n' := 3000) (g' := 0) (by decide) (by decide) (Nat.zero_le _) ?_
          exact law_end C hr hlk hX hbl hbA
        · exact absurd c_1502 (by decide)
      · exact absurd c_1495 (by decide)
    · refine g_iconst (pc := 1479) (v := 1) C (by decide) dL_law_1479 ?_
      refine g_goto (pc := 1480) C 1484 (by decide) dL_law_1480 ?_
      refine g_callV (pc := 1484) (cells := 301) (slots := 2006) (g := 0) (As := [.int (xs 1), .int 1]) (st := []) (T := TX11) (q0 := 5) C (nA := 2) rfl (c_X11_deal_z mo e0 c1 c2 c3 c4 c5 0 (xs 1) 1 ) q_646 q_647 q_645 q_265 q_644 (by decide +kernel) rfl rfl dL_law_1484 ⟨Nat.le_of_ble_eq_true rfl, Nat.le_of_ble_eq_true rfl⟩ [5] [0, 1, 2, 3, 4] rfl (wr := [(o, .inr (14, [.ref h, .ref pp, .ref x2, .ref x3, .ref x4, .ref o2, .ref o4, .ref o9, .ref o7, .ref o0, .ref o1])), (h, .inr (7, [.ref jj, .ref dd, .int (nI 0), .int (nI 0)])), (jj, aI k 36 (fun _ => 0)), (dd, aI k 6 (fun _ => 0)), (oo, aJ k 1 (fun _ => 0))]) rfl (by decide) (by decide) (by decide) (Nat.le_of_ble_eq_true rfl) ⟨Nat.le_of_ble_eq_true rfl, Nat.le_of_ble_eq_true rfl⟩ (fun rv w1 h1 => ?_)
      obtain ⟨rfl, rfl⟩ := h1
      refine G.aft [0, 1, 2, 3, 4, 5] (ws' := [(o, .inr (14, [.ref h, .ref pp, .ref x2, .ref x3, .ref x4, .ref o2, .ref o4, .ref o9, .ref o7, .ref o0, .ref o1])), (h, .inr (7, [.ref jj, .ref dd, .int (nI 0), .int (nI 0)])), (jj, aI k 36 (fun _ => 0)), (dd, aI k 6 (fun _ => 0)), (oo, aJ k 1 (fun _ => 0)), (mo, .inr (15, [.ref e0, .ref c1, .ref c2, .ref c3, .ref c4, .ref c5, .null, .int (nI 0), .int (nI 0), .int 0, .int 0, .int 1]))]) (st' := [.int 0]) (cells' := 301) (slots' := 2006) (g' := 0) (by decide) rfl rfl rfl rfl rfl ?_
      refine g_istore (pc := 1487) C [(7, .int 0), (6, .int 1), (0, .ref b), (1, .ref o), (2, .ref mo), (3, .ref oo), (4, .ref od), (5, .int (nI 0))] dL_law_1487 (by decide) rfl ?_
      refine g_aload_n (pc := 1489) C 4 rfl rfl dL_law_1489 ?_
      refine g_callV (pc := 1490) (cells := 301) (slots := 2006) (g := 0) (As := []) (st := []) (T := TX11) (q0 := 5) C (nA := 0) rfl (c_X11_thrown mo e0 c1 c2 c3 c4 c5 1 (nI 0) (nI 0) 0 0 ) q_468 q_469 q_467 q_265 q_466 (by decide +kernel) rfl rfl dL_law_1490 ⟨Nat.le_of_ble_eq_true rfl, Nat.le_of_ble_eq_true rfl⟩ [5] [0, 1, 2, 3, 4] rfl (wr := [(o, .inr (14, [.ref h, .ref pp, .ref x2, .ref x3, .ref x4, .ref o2, .ref o4, .ref o9, .ref o7, .ref o0, .ref o1])), (h, .inr (7, [.ref jj, .ref dd, .int (nI 0), .int (nI 0)])), (jj, aI k 36 (fun _ => 0)), (dd, aI k 6 (fun _ => 0)), (oo, aJ k 1 (fun _ => 0))]) rfl (by decide) (by decide) (by decide) (Nat.le_of_ble_eq_true rfl) ⟨Nat.le_of_ble_eq_true rfl, Nat.le_of_ble_eq_true rfl⟩ (fun rv w1 h1 => ?_)
      obtain ⟨rfl, rfl⟩ := h1
      refine G.aft [0, 1, 2, 3, 4, 5] (ws' := [(o, .inr (14, [.ref h, .ref pp, .ref x2, .ref x3, .ref x4, .ref o2, .ref o4, .ref o9, .ref o7, .ref o0, .ref o1])), (h, .inr (7, [.ref jj, .ref dd, .int (nI 0), .int (nI 0)])), (jj, aI k 36 (fun _ => 0)), (dd, aI k 6 (fun _ => 0)), (oo, aJ k 1 (fun _ => 0)), (mo, .inr (15, [.ref e0, .ref c1, .ref c2, .ref c3, .ref c4, .ref c5, .null, .int (nI 0), .int (nI 0), .int 0, .int 0, .int 1]))]) (st' := [.int 1]) (cells' := 301) (slots' := 2006) (g' := 0) (by decide) rfl rfl rfl rfl rfl ?_
      refine g_iload (pc := 1493) C 1 rfl dL_law_1493 ?_
      refine g_icmp_eq (pc := 1495) C 1500 (by decide) dL_law_1495 (fun c_1495 => ?_) (fun c_1495 => ?_)
      · refine g_iload (pc := 1500) C 1 rfl dL_law_1500 ?_
        refine g_if_ne (pc := 1502) C 1517 (by decide) dL_law_1502 (fun c_1502 => ?_) (fun c_1502 => ?_)
        · refine g_goto (pc := 1517) C 1995 (by decide) dL_law_1517 ?_
          refine G.re [] (ws' := []) (by decide) rfl ?_
          refine G.loc [2, 7] (lv' := [(0, .ref b), (5, .int (nI 0))]) rfl ?_
          refine G.widen (k' := 400) (n' := 3000) (g' := 0) (by decide) (by decide) (Nat.zero_le _) ?_
          exact law_end C hr hlk hX hbl hbA
        · exact absurd c_1502 (by decide)
      · exact absurd c_1495 (by decide)
set_option maxRecDepth 100000 in
set_option maxHeartbeats 1000000 in
theorem law_c26 {p : Program} {l : Launch} {e : Env} {s : State} {m : MethodId} {below : List Frame} {meth : Method} {c : Code} {D : va_G} {k : Nat → ClassId} {b : Nat} {xs : Nat → Int32} (C : Cx p l s m #[Value.ref b] c D k (va_A [] s.heap.size) cL_law RL 9) (hr : meth.sig.returnType = some .boolean) (hlk : meth.locks = false) (hX : va_X b 4 xs s s.heap) (hbl : b < s.heap.size) (hbA : ¬ va_A [] s.heap.size b) (c1 : Nat) (c2 : Nat) (c3 : Nat) (c4 : Nat) (c5 : Nat) (dd : Nat) (e0 : Nat) (h : Nat) (jj : Nat) (mo : Nat) (o : Nat) (o0 : Nat) (o1 : Nat) (o2 : Nat) (o4 : Nat) (o7 : Nat) (o9 : Nat) (od : Nat) (oo : Nat) (pp : Nat) (x2 : Nat) (x3 : Nat) (x4 : Nat)  : G p l e room_1 s m #[Value.ref b] below meth c D 9 (va_A [] s.heap.size) (lw_Z below #[Value.ref b] s) [(o, .inr (14, [.ref h, .ref pp, .ref x2, .ref x3, .ref x4, .ref o2, .ref o4, .ref o9, .ref o7, .ref o0, .ref o1])), (h, .inr (7, [.ref jj, .ref dd, .int (nI 0), .int (nI 0)])), (jj, aI k 36 (fun _ => 0)), (dd, aI k 6 (fun _ => 0)), (oo, aJ k 1 (fun _ => 0)), (mo, .inr (15, [.ref e0, .ref c1, .ref c2, .ref c3, .ref c4, .ref c5, .null, .int (nI 0), .int (nI 0), .int 0, .int 0, .int 0]))] [(0, .ref b), (1, .ref o), (2, .ref mo), (3, .ref oo), (4, .ref od), (5, .int (nI 0))] 300 2000 0 1520 [] := by
  refine g_aload_n (pc := 1520) C 1 rfl rfl dL_law_1520 ?_
  refine g_aload_n (pc := 1521) C 0 rfl rfl dL_law_1521 ?_
  refine g_iload (pc := 1522) C 5 rfl dL_law_1522 ?_
  refine g_iconst (pc := 1524) (v := 1) C (by decide) dL_law_1524 ?_
  refine g_iadd (pc := 1525) C dL_law_1525 ?_
  refine G.eqs (st' := [.int (nI 1), .ref b, .ref o]) (congrArg (β := List Value) (fun z9 => [.int z9, .ref b, .ref o]) (show (((nI 0) + 1) : Int32) = (nI 1) from nI_add _ _)) ?_
  refine g_sld (pc := 1526) C hX hbl hbA (j := 1) (by omega) (by omega) rfl dL_law_1526 ?_
  refine g_aload_n (pc := 1527) C 3 rfl rfl dL_law_1527 ?_
  refine g_callSW (pc := 1528) (cells := 300) (slots := 2000) (g := 0) (As := [.ref o, .int (xs 1), .ref oo]) (st := []) (b := 0) C (nA := 3) rfl (c_L_debt_z o h pp x2 x3 x4 o2 o4 o9 o7 o0 o1 jj dd oo (fun _ => 0) (xs 1) ) q_649 q_650 q_459 q_648 (by decide +kernel) dL_law_1528 ⟨Nat.le_of_ble_eq_true rfl, Nat.le_of_ble_eq_true rfl⟩ [0, 1, 2, 3, 4] [5] rfl (wr := [(mo, .inr (15, [.ref e0, .ref c1, .ref c2, .ref c3, .ref c4, .ref c5, .null, .int (nI 0), .int (nI 0), .int 0, .int 0, .int 0]))]) rfl (by decide) (by decide) (by decide) (Nat.le_of_ble_eq_true rfl) ⟨Nat.le_of_ble_eq_true rfl, Nat.le_of_ble_eq_true rfl⟩ (fun rv w1 h1 => ?_)
  obtain ⟨rfl, rfl⟩ := h1
  refine G.aft [1, 2, 3, 4, 5, 0] (ws' := [(o, .inr (14, [.ref h, .ref pp, .ref x2, .ref x3, .ref x4, .ref o2, .ref o4, .ref o9, .ref o7, .ref o0, .ref o1])), (h, .inr (7, [.ref jj, .ref dd, .int (nI 0), .int (nI 0)])), (jj, aI k 36 (fun _ => 0)), (dd, aI k 6 (fun _ => 0)), (oo, aJ k 1 (fun _ => 0)), (mo, .inr (15, [.ref e0, .ref c1, .ref c2, .ref c3, .ref c4, .ref c5, .null, .int (nI 0), .int (nI 0), .int 0, .int 0, .int 0]))]) (st' := [.int 1]) (cells' := 301) (slots' := 2006) (g' := 0) (by decide) rfl rfl rfl rfl rfl ?_
  refine g_istore (pc := 1531) C [(6, .int 1), (0, .ref b), (1, .ref o), (2, .ref mo), (3, .ref oo), (4, .ref od), (5, .int (nI 0))] dL_law_1531 (by decide) rfl ?_
  refine g_aload_n (pc := 1533) C 3 rfl rfl dL_law_1533 ?_
  refine g_aload_n (pc := 1534) C 1 rfl rfl dL_law_1534 ?_
  refine g_iload (pc := 1535) C 6 rfl dL_law_1535 ?_
  refine g_iconst (pc := 1537) (v := 1) C (by decide) dL_law_1537 ?_
  refine g_iadd (pc := 1538) C dL_law_1538 ?_
  refine G.eqs (st' := [.int (nI 1), .ref b, .ref mo]) (congrArg (β := List Value) (fun z9 => [.int z9, .ref b, .ref mo]) (show (((nI 0) + 1) : Int32) = (nI 1) from nI_add _ _)) ?_
  refine g_sld (pc := 1539) C hX hbl hbA (j := 1) (by omega) (by omega) rfl dL_law_1539 ?_
  refine g_callV (pc := 1540) (cells := 301) (slots := 2006) (g := 0) (As := [.int (xs 1)]) (st := []) (T := TX11) (q0 := 5) C (nA := 1) rfl (c_X11_debt_z mo e0 c1 c2 c3 c4 c5 0 (xs 1) ) q_653 q_654 q_652 q_265 q_651 (by decide +kernel) rfl rfl dL_law_1540 ⟨Nat.le_of_ble_eq_true rfl, Nat.le_of_ble_eq_true rfl⟩ [5] [0, 1, 2, 3, 4] rfl (wr := [(o, .inr (14, [.ref h, .ref pp, .ref x2, .ref x3, .ref x4, .ref o2, .ref o4, .ref o9, .ref o7, .ref o0, .ref o1])), (h, .inr (7, [.ref jj, .ref dd, .int (nI 0), .int (nI 0)])), (jj, aI k 36 (fun _ => 0)), (dd, aI k 6 (fun _ => 0)), (oo, aJ k 1 (fun _ => 0))]) rfl (by decide) (by decide) (by decide) (Nat.le_of_ble_eq_true rfl) ⟨Nat.le_of_ble_eq_true rfl, Nat.le_of_ble_eq_true rfl⟩ (fun rv w1 h1 => ?_)
  obtain ⟨rfl, rfl⟩ := h1
  refine G.aft [0, 1, 2, 3, 4, 5] (ws' := [(o, .inr (14, [.ref h, .ref pp, .ref x2, .ref x3, .ref x4, .ref o2, .ref o4, .ref o9, .ref o7, .ref o0, .ref o1])), (h, .inr (7, [.ref jj, .ref dd, .int (nI 0), .int (nI 0)])), (jj, aI k 36 (fun _ => 0)), (dd, aI k 6 (fun _ => 0)), (oo, aJ k 1 (fun _ => 0)), (mo, .inr (15, [.ref e0, .ref c1, .ref c2, .ref c3, .ref c4, .ref c5, .null, .int (nI 0), .int (nI 0), .int 0, .int 0, .int 1]))]) (st' := [.int 0]) (cells' := 301) (slots' := 2006) (g' := 0) (by decide) rfl rfl rfl rfl rfl ?_
  refine g_istore (pc := 1543) C [(7, .int 0), (6, .int 1), (0, .ref b), (1, .ref o), (2, .ref mo), (3, .ref oo), (4, .ref od), (5, .int (nI 0))] dL_law_1543 (by decide) rfl ?_
  refine g_aload_n (pc := 1545) C 4 rfl rfl dL_law_1545 ?_
  refine g_callV (pc := 1546) (cells := 301) (slots := 2006) (g := 0) (As := []) (st := []) (T := TX11) (q0 := 5) C (nA := 0) rfl (c_X11_thrown mo e0 c1 c2 c3 c4 c5 1 (nI 0) (nI 0) 0 0 ) q_468 q_469 q_467 q_265 q_466 (by decide +kernel) rfl rfl dL_law_1546 ⟨Nat.le_of_ble_eq_true rfl, Nat.le_of_ble_eq_true rfl⟩ [5] [0, 1, 2, 3, 4] rfl (wr := [(o, .inr (14, [.ref h, .ref pp, .ref x2, .ref x3, .ref x4, .ref o2, .ref o4, .ref o9, .ref o7, .ref o0, .ref o1])), (h, .inr (7, [.ref jj, .ref dd, .int (nI 0), .int (nI 0)])), (jj, aI k 36 (fun _ => 0)), (dd, aI k 6 (fun _ => 0)), (oo, aJ k 1 (fun _ => 0))]) rfl (by decide) (by decide) (by decide) (Nat.le_of_ble_eq_true rfl) ⟨Nat.le_of_ble_eq_true rfl, Nat.le_of_ble_eq_true rfl⟩ (fun rv w1 h1 => ?_)
  obtain ⟨rfl, rfl⟩ := h1
  refine G.aft [0, 1, 2, 3, 4, 5] (ws' := [(o, .inr (14, [.ref h, .ref pp, .ref x2, .ref x3, .ref x4, .ref o2, .ref o4, .ref o9, .ref o7, .ref o0, .ref o1])), (h, .inr (7, [.ref jj, .ref dd, .int (nI 0), .int (nI 0)])), (jj, aI k 36 (fun _ => 0)), (dd, aI k 6 (fun _ => 0)), (oo, aJ k 1 (fun _ => 0)), (mo, .inr (15, [.ref e0, .ref c1, .ref c2, .ref c3, .ref c4, .ref c5, .null, .int (nI 0), .int (nI 0), .int 0, .int 0, .int 1]))]) (st' := [.int 1]) (cells' := 301) (slots' := 2006) (g' := 0) (by decide) rfl rfl rfl rfl rfl ?_
  refine g_iload (pc := 1549) C 1 rfl dL_law_1549 ?_
  refine g_icmp_eq (pc := 1551) C 1556 (by decide) dL_law_1551 (fun c_1551 => ?_) (fun c_1551 => ?_)
  · refine g_iload (pc := 1556) C 1 rfl dL_law_1556 ?_
    refine g_if_ne (pc := 1558) C 1573 (by decide) dL_law_1558 (fun c_1558 => ?_) (fun c_1558 => ?_)
    · refine g_goto (pc := 1573) C 1995 (by decide) dL_law_1573 ?_
      refine G.re [] (ws' := []) (by decide) rfl ?_
      refine G.loc [2, 7] (lv' := [(0, .ref b), (5, .int (nI 0))]) rfl ?_
      refine G.widen (k' := 400) (n' := 3000) (g' := 0) (by decide) (by decide) (Nat.zero_le _) ?_
      exact law_end C hr hlk hX hbl hbA
    · exact absurd c_1558 (by decide)
  · exact absurd c_1551 (by decide)
set_option maxRecDepth 100000 in
set_option maxHeartbeats 1000000 in
theorem law_c27 {p : Program} {l : Launch} {e : Env} {s : State} {m : MethodId} {below : List Frame} {meth : Method} {c : Code} {D : va_G} {k : Nat → ClassId} {b : Nat} {xs : Nat → Int32} (C : Cx p l s m #[Value.ref b] c D k (va_A [] s.heap.size) cL_law RL 9) (hr : meth.sig.returnType = some .boolean) (hlk : meth.locks = false) (hX : va_X b 4 xs s s.heap) (hbl : b < s.heap.size) (hbA : ¬ va_A [] s.heap.size b) (c1 : Nat) (c2 : Nat) (c3 : Nat) (c4 : Nat) (c5 : Nat) (dd : Nat) (e0 : Nat) (h : Nat) (jj : Nat) (mo : Nat) (o : Nat) (o0 : Nat) (o1 : Nat) (o2 : Nat) (o4 : Nat) (o7 : Nat) (o9 : Nat) (od : Nat) (oo : Nat) (pp : Nat) (x2 : Nat) (x3 : Nat) (x4 : Nat)  : G p l e room_1 s m #[Value.ref b] below meth c D 9 (va_A [] s.heap.size) (lw_Z below #[Value.ref b] s) [(o, .inr (14, [.ref h, .ref pp, .ref x2, .ref x3, .ref x4, .ref o2, .ref o4, .ref o9, .ref o7, .ref o0, .ref o1])), (h, .inr (7, [.ref jj, .ref dd, .int (nI 0), .int (nI 0)])), (jj, aI k 36 (fun _ => 0)), (dd, aI k 6 (fun _ => 0)), (oo, aJ k 1 (fun _ => 0)), (mo, .inr (15, [.ref e0, .ref c1, .ref c2, .ref c3, .ref c4, .ref c5, .null, .int (nI 0), .int (nI 0), .int 0, .int 0, .int 0]))] [(0, .ref b), (1, .ref o), (2, .ref mo), (3, .ref oo), (4, .ref od), (5, .int (nI 0))] 300 2000 0 1576 [] := by
  refine g_aload_n (pc := 1576) C 1 rfl rfl dL_law_1576 ?_
  refine g_aload_n (pc := 1577) C 0 rfl rfl dL_law_1577 ?_
  refine g_iload (pc := 1578) C 5 rfl dL_law_1578 ?_
  refine g_iconst (pc := 1580) (v := 1) C (by decide) dL_law_1580 ?_
  refine g_iadd (pc := 1581) C dL_law_1581 ?_
  refine G.eqs (st' := [.int (nI 1), .ref b, .ref o]) (congrArg (β := List Value) (fun z9 => [.int z9, .ref b, .ref o]) (show (((nI 0) + 1) : Int32) = (nI 1) from nI_add _ _)) ?_
  refine g_sld (pc := 1582) C hX hbl hbA (j := 1) (by omega) (by omega) rfl dL_law_1582 ?_
  refine g_aload_n (pc := 1583) C 3 rfl rfl dL_law_1583 ?_
  refine g_callSW (pc := 1584) (cells := 300) (slots := 2000) (g := 0) (As := [.ref o, .int (xs 1), .ref oo]) (st := []) (b := 0) C (nA := 3) rfl (c_L_reduced_z o h pp x2 x3 x4 o2 o4 o9 o7 o0 o1 jj dd oo (fun _ => 0) (xs 1) ) q_656 q_657 q_459 q_655 (by decide +kernel) dL_law_1584 ⟨Nat.le_of_ble_eq_true rfl, Nat.le_of_ble_eq_true rfl⟩ [0, 1, 2, 3, 4] [5] rfl (wr := [(mo, .inr (15, [.ref e0, .ref c1, .ref c2, .ref c3, .ref c4, .ref c5, .null, .int (nI 0), .int (nI 0), .int 0, .int 0, .int 0]))]) rfl (by decide) (by decide) (by decide) (Nat.le_of_ble_eq_true rfl) ⟨Nat.le_of_ble_eq_true rfl, Nat.le_of_ble_eq_true rfl⟩ (fun rv w1 h1 => ?_)
  obtain ⟨rfl, rfl⟩ := h1
  refine G.aft [1, 2, 3, 4, 5, 0] (ws' := [(o, .inr (14, [.ref h, .ref pp, .ref x2, .ref x3, .ref x4, .ref o2, .ref o4, .ref o9, .ref o7, .ref o0, .ref o1])), (h, .inr (7, [.ref jj, .ref dd, .int (nI 0), .int (nI 0)])), (jj, aI k 36 (fun _ => 0)), (dd, aI k 6 (fun _ => 0)), (oo, aJ k 1 (fun _ => 0)), (mo, .inr (15, [.ref e0, .ref c1, .ref c2, .ref c3, .ref c4, .ref c5, .null, .int (nI 0), .int (nI 0), .int 0, .int 0, .int 0]))]) (st' := [.int 1]) (cells' := 301) (slots' := 2006) (g' := 0) (by decide) rfl rfl rfl rfl rfl ?_
  refine g_istore (pc := 1587) C [(6, .int 1), (0, .ref b), (1, .ref o), (2, .ref mo), (3, .ref oo), (4, .ref od), (5, .int (nI 0))] dL_law_1587 (by decide) rfl ?_
  refine g_aload_n (pc := 1589) C 3 rfl rfl dL_law_1589 ?_
  refine g_aload_n (pc := 1590) C 1 rfl rfl dL_law_1590 ?_
  refine g_iload (pc := 1591) C 6 rfl dL_law_1591 ?_
  refine g_iconst (pc := 1593) (v := 1) C (by decide) dL_law_1593 ?_
  refine g_iadd (pc := 1594) C dL_law_1594 ?_
  refine G.eqs (st' := [.int (nI 1), .ref b, .ref mo]) (congrArg (β := List Value) (fun z9 => [.int z9, .ref b, .ref mo]) (show (((nI 0) + 1) : Int32) = (nI 1) from nI_add _ _)) ?_
  refine g_sld (pc := 1595) C hX hbl hbA (j := 1) (by omega) (by omega) rfl dL_law_1595 ?_
  refine g_callV (pc := 1596) (cells := 301) (slots := 2006) (g := 0) (As := [.int (xs 1)]) (st := []) (T := TX11) (q0 := 5) C (nA := 1) rfl (c_X11_reduced_z mo e0 c1 c2 c3 c4 c5 0 (xs 1) ) q_660 q_661 q_659 q_265 q_658 (by decide +kernel) rfl rfl dL_law_1596 ⟨Nat.le_of_ble_eq_true rfl, Nat.le_of_ble_eq_true rfl⟩ [5] [0, 1, 2, 3, 4] rfl (wr := [(o, .inr (14, [.ref h, .ref pp, .ref x2, .ref x3, .ref x4, .ref o2, .ref o4, .ref o9, .ref o7, .ref o0, .ref o1])), (h, .inr (7, [.ref jj, .ref dd, .int (nI 0), .int (nI 0)])), (jj, aI k 36 (fun _ => 0)), (dd, aI k 6 (fun _ => 0)), (oo, aJ k 1 (fun _ => 0))]) rfl (by decide) (by decide) (by decide) (Nat.le_of_ble_eq_true rfl) ⟨Nat.le_of_ble_eq_true rfl, Nat.le_of_ble_eq_true rfl⟩ (fun rv w1 h1 => ?_)
  obtain ⟨rfl, rfl⟩ := h1
  refine G.aft [0, 1, 2, 3, 4, 5] (ws' := [(o, .inr (14, [.ref h, .ref pp, .ref x2, .ref x3, .ref x4, .ref o2, .ref o4, .ref o9, .ref o7, .ref o0, .ref o1])), (h, .inr (7, [.ref jj, .ref dd, .int (nI 0), .int (nI 0)])), (jj, aI k 36 (fun _ => 0)), (dd, aI k 6 (fun _ => 0)), (oo, aJ k 1 (fun _ => 0)), (mo, .inr (15, [.ref e0, .ref c1, .ref c2, .ref c3, .ref c4, .ref c5, .null, .int (nI 0), .int (nI 0), .int 0, .int 0, .int 1]))]) (st' := [.int 0]) (cells' := 301) (slots' := 2006) (g' := 0) (by decide) rfl rfl rfl rfl rfl ?_
  refine g_istore (pc := 1599) C [(7, .int 0), (6, .int 1), (0, .ref b), (1, .ref o), (2, .ref mo), (3, .ref oo), (4, .ref od), (5, .int (nI 0))] dL_law_1599 (by decide) rfl ?_
  refine g_aload_n (pc := 1601) C 4 rfl rfl dL_law_1601 ?_
  refine g_callV (pc := 1602) (cells := 301) (slots := 2006) (g := 0) (As := []) (st := []) (T := TX11) (q0 := 5) C (nA := 0) rfl (c_X11_thrown mo e0 c1 c2 c3 c4 c5 1 (nI 0) (nI 0) 0 0 ) q_468 q_469 q_467 q_265 q_466 (by decide +kernel) rfl rfl dL_law_1602 ⟨Nat.le_of_ble_eq_true rfl, Nat.le_of_ble_eq_true rfl⟩ [5] [0, 1, 2, 3, 4] rfl (wr := [(o, .inr (14, [.ref h, .ref pp, .ref x2, .ref x3, .ref x4, .ref o2, .ref o4, .ref o9, .ref o7, .ref o0, .ref o1])), (h, .inr (7, [.ref jj, .ref dd, .int (nI 0), .int (nI 0)])), (jj, aI k 36 (fun _ => 0)), (dd, aI k 6 (fun _ => 0)), (oo, aJ k 1 (fun _ => 0))]) rfl (by decide) (by decide) (by decide) (Nat.le_of_ble_eq_true rfl) ⟨Nat.le_of_ble_eq_true rfl, Nat.le_of_ble_eq_true rfl⟩ (fun rv w1 h1 => ?_)
  obtain ⟨rfl, rfl⟩ := h1
  refine G.aft [0, 1, 2, 3, 4, 5] (ws' := [(o, .inr (14, [.ref h, .ref pp, .ref x2, .ref x3, .ref x4, .ref o2, .ref o4, .ref o9, .ref o7, .ref o0, .ref o1])), (h, .inr (7, [.ref jj, .ref dd, .int (nI 0), .int (nI 0)])), (jj, aI k 36 (fun _ => 0)), (dd, aI k 6 (fun _ => 0)), (oo, aJ k 1 (fun _ => 0)), (mo, .inr (15, [.ref e0, .ref c1, .ref c2, .ref c3, .ref c4, .ref c5, .null, .int (nI 0), .int (nI 0), .int 0, .int 0, .int 1]))]) (st' := [.int 1]) (cells' := 301) (slots' := 2006) (g' := 0) (by decide) rfl rfl rfl rfl rfl ?_
  refine g_iload (pc := 1605) C 1 rfl dL_law_1605 ?_
  refine g_icmp_eq (pc := 1607) C 1612 (by decide) dL_law_1607 (fun c_1607 => ?_) (fun c_1607 => ?_)
  · refine g_iload (pc := 1612) C 1 rfl dL_law_1612 ?_
    refine g_if_ne (pc := 1614) C 1629 (by decide) dL_law_1614 (fun c_1614 => ?_) (fun c_1614 => ?_)
    · refine g_goto (pc := 1629) C 1995 (by decide) dL_law_1629 ?_
      refine G.re [] (ws' := []) (by decide) rfl ?_
      refine G.loc [2, 7] (lv' := [(0, .ref b), (5, .int (nI 0))]) rfl ?_
      refine G.widen (k' := 400) (n' := 3000) (g' := 0) (by decide) (by decide) (Nat.zero_le _) ?_
      exact law_end C hr hlk hX hbl hbA
    · exact absurd c_1614 (by decide)
  · exact absurd c_1607 (by decide)
set_option maxRecDepth 100000 in
set_option maxHeartbeats 1000000 in
theorem law_c28 {p : Program} {l : Launch} {e : Env} {s : State} {m : MethodId} {below : List Frame} {meth : Method} {c : Code} {D : va_G} {k : Nat → ClassId} {b : Nat} {xs : Nat → Int32} (C : Cx p l s m #[Value.ref b] c D k (va_A [] s.heap.size) cL_law RL 9) (hr : meth.sig.returnType = some .boolean) (hlk : meth.locks = false) (hX : va_X b 4 xs s s.heap) (hbl : b < s.heap.size) (hbA : ¬ va_A [] s.heap.size b) (c1 : Nat) (c2 : Nat) (c3 : Nat) (c4 : Nat) (c5 : Nat) (dd : Nat) (e0 : Nat) (h : Nat) (jj : Nat) (mo : Nat) (o : Nat) (o0 : Nat) (o1 : Nat) (o2 : Nat) (o4 : Nat) (o7 : Nat) (o9 : Nat) (od : Nat) (oo : Nat) (pp : Nat) (x2 : Nat) (x3 : Nat) (x4 : Nat)  : G p l e room_1 s m #[Value.ref b] below meth c D 9 (va_A [] s.heap.size) (lw_Z below #[Value.ref b] s) [(o, .inr (14, [.ref h, .ref pp, .ref x2, .ref x3, .ref x4, .ref o2, .ref o4, .ref o9, .ref o7, .ref o0, .ref o1])), (h, .inr (7, [.ref jj, .ref dd, .int (nI 0), .int (nI 0)])), (jj, aI k 36 (fun _ => 0)), (dd, aI k 6 (fun _ => 0)), (oo, aJ k 1 (fun _ => 0)), (mo, .inr (15, [.ref e0, .ref c1, .ref c2, .ref c3, .ref c4, .ref c5, .null, .int (nI 0), .int (nI 0), .int 0, .int 0, .int 0]))] [(0, .ref b), (1, .ref o), (2, .ref mo), (3, .ref oo), (4, .ref od), (5, .int (nI 0))] 300 2000 0 1632 [] := by
  refine g_aload_n (pc := 1632) C 1 rfl rfl dL_law_1632 ?_
  refine g_aload_n (pc := 1633) C 3 rfl rfl dL_law_1633 ?_
  refine g_callSW (pc := 1634) (cells := 300) (slots := 2000) (g := 0) (As := [.ref o, .ref oo]) (st := []) (b := 0) C (nA := 2) rfl (c_L_canPay_z o h pp x2 x3 x4 o2 o4 o9 o7 o0 o1 jj dd oo (fun _ => 0) ) q_663 q_664 q_459 q_662 (by decide +kernel) dL_law_1634 ⟨Nat.le_of_ble_eq_true rfl, Nat.le_of_ble_eq_true rfl⟩ [0, 1, 2, 3, 4] [5] rfl (wr := [(mo, .inr (15, [.ref e0, .ref c1, .ref c2, .ref c3, .ref c4, .ref c5, .null, .int (nI 0), .int (nI 0), .int 0, .int 0, .int 0]))]) rfl (by decide) (by decide) (by decide) (Nat.le_of_ble_eq_true rfl) ⟨Nat.le_of_ble_eq_true rfl, Nat.le_of_ble_eq_true rfl⟩ (fun rv w1 h1 => ?_)
  obtain ⟨rfl, rfl⟩ := h1
  refine G.aft [1, 2, 3, 4, 5, 0] (ws' := [(o, .inr (14, [.ref h, .ref pp, .ref x2, .ref x3, .ref x4, .ref o2, .ref o4, .ref o9, .ref o7, .ref o0, .ref o1])), (h, .inr (7, [.ref jj, .ref dd, .int (nI 0), .int (nI 0)])), (jj, aI k 36 (fun _ => 0)), (dd, aI k 6 (fun _ => 0)), (oo, aJ k 1 (fun _ => 0)), (mo, .inr (15, [.ref e0, .ref c1, .ref c2, .ref c3, .ref c4, .ref c5, .null, .int (nI 0), .int (nI 0), .int 0, .int 0, .int 0]))]) (st' := [.int 1]) (cells' := 301) (slots' := 2006) (g' := 0) (by decide) rfl rfl rfl rfl rfl ?_
  refine g_istore (pc := 1637) C [(6, .int 1), (0, .ref b), (1, .ref o), (2, .ref mo), (3, .ref oo), (4, .ref od), (5, .int (nI 0))] dL_law_1637 (by decide) rfl ?_
  refine g_aload_n (pc := 1639) C 3 rfl rfl dL_law_1639 ?_
  refine g_callV (pc := 1640) (cells := 301) (slots := 2006) (g := 0) (As := []) (st := []) (T := TX11) (q0 := 5) C (nA := 0) rfl (c_X11_canPay_z mo e0 c1 c2 c3 c4 c5 0 ) q_667 q_668 q_666 q_265 q_665 (by decide +kernel) rfl rfl dL_law_1640 ⟨Nat.le_of_ble_eq_true rfl, Nat.le_of_ble_eq_true rfl⟩ [5] [0, 1, 2, 3, 4] rfl (wr := [(o, .inr (14, [.ref h, .ref pp, .ref x2, .ref x3, .ref x4, .ref o2, .ref o4, .ref o9, .ref o7, .ref o0, .ref o1])), (h, .inr (7, [.ref jj, .ref dd, .int (nI 0), .int (nI 0)])), (jj, aI k 36 (fun _ => 0)), (dd, aI k 6 (fun _ => 0)), (oo, aJ k 1 (fun _ => 0))]) rfl (by decide) (by decide) (by decide) (Nat.le_of_ble_eq_true rfl) ⟨Nat.le_of_ble_eq_true rfl, Nat.le_of_ble_eq_true rfl⟩ (fun rv w1 h1 => ?_)
  obtain ⟨rfl, rfl⟩ := h1
  refine G.aft [0, 1, 2, 3, 4, 5] (ws' := [(o, .inr (14, [.ref h, .ref pp, .ref x2, .ref x3, .ref x4, .ref o2, .ref o4, .ref o9, .ref o7, .ref o0, .ref o1])), (h, .inr (7, [.ref jj, .ref dd, .int (nI 0), .int (nI 0)])), (jj, aI k 36 (fun _ => 0)), (dd, aI k 6 (fun _ => 0)), (oo, aJ k 1 (fun _ => 0)), (mo, .inr (15, [.ref e0, .ref c1, .ref c2, .ref c3, .ref c4, .ref c5, .null, .int (nI 0), .int (nI 0), .int 0, .int 0, .int 1]))]) (st' := [.int 0]) (cells' := 301) (slots' := 2006) (g' := 0) (by decide) rfl rfl rfl rfl rfl ?_
  refine g_istore (pc := 1643) C [(7, .int 0), (6, .int 1), (0, .ref b), (1, .ref o), (2, .ref mo), (3, .ref oo), (4, .ref od), (5, .int (nI 0))] dL_law_1643 (by decide) rfl ?_
  refine g_aload_n (pc := 1645) C 4 rfl rfl dL_law_1645 ?_
  refine g_callV (pc := 1646) (cells := 301) (slots := 2006) (g := 0) (As := []) (st := []) (T := TX11) (q0 := 5) C (nA := 0) rfl (c_X11_thrown mo e0 c1 c2 c3 c4 c5 1 (nI 0) (nI 0) 0 0 ) q_468 q_469 q_467 q_265 q_466 (by decide +kernel) rfl rfl dL_law_1646 ⟨Nat.le_of_ble_eq_true rfl, Nat.le_of_ble_eq_true rfl⟩ [5] [0, 1, 2, 3, 4] rfl (wr := [(o, .inr (14, [.ref h, .ref pp, .ref x2, .ref x3, .ref x4, .ref o2, .ref o4, .ref o9, .ref o7, .ref o0, .ref o1])), (h, .inr (7, [.ref jj, .ref dd, .int (nI 0), .int (nI 0)])), (jj, aI k 36 (fun _ => 0)), (dd, aI k 6 (fun _ => 0)), (oo, aJ k 1 (fun _ => 0))]) rfl (by decide) (by decide) (by decide) (Nat.le_of_ble_eq_true rfl) ⟨Nat.le_of_ble_eq_true rfl, Nat.le_of_ble_eq_true rfl⟩ (fun rv w1 h1 => ?_)
  obtain ⟨rfl, rfl⟩ := h1
  refine G.aft [0, 1, 2, 3, 4, 5] (ws' := [(o, .inr (14, [.ref h, .ref pp, .ref x2, .ref x3, .ref x4, .ref o2, .ref o4, .ref o9, .ref o7, .ref o0, .ref o1])), (h, .inr (7, [.ref jj, .ref dd, .int (nI 0), .int (nI 0)])), (jj, aI k 36 (fun _ => 0)), (dd, aI k 6 (fun _ => 0)), (oo, aJ k 1 (fun _ => 0)), (mo, .inr (15, [.ref e0, .ref c1, .ref c2, .ref c3, .ref c4, .ref c5, .null, .int (nI 0), .int (nI 0), .int 0, .int 0, .int 1]))]) (st' := [.int 1]) (cells' := 301) (slots' := 2006) (g' := 0) (by decide) rfl rfl rfl rfl rfl ?_
  refine g_iload (pc := 1649) C 1 rfl dL_law_1649 ?_
  refine g_icmp_eq (pc := 1651) C 1656 (by decide) dL_law_1651 (fun c_1651 => ?_) (fun c_1651 => ?_)
  · refine g_iload (pc := 1656) C 1 rfl dL_law_1656 ?_
    refine g_if_ne (pc := 1658) C 1680 (by decide) dL_law_1658 (fun c_1658 => ?_) (fun c_1658 => ?_)
    · refine g_goto (pc := 1680) C 1995 (by decide) dL_law_1680 ?_
      refine G.re [] (ws' := []) (by decide) rfl ?_
      refine G.loc [2, 7] (lv' := [(0, .ref b), (5, .int (nI 0))]) rfl ?_
      refine G.widen (k' := 400) (n' := 3000) (g' := 0) (by decide) (by decide) (Nat.zero_le _) ?_
      exact law_end C hr hlk hX hbl hbA
    · exact absurd c_1658 (by decide)
  · exact absurd c_1651 (by decide)
set_option maxRecDepth 100000 in
set_option maxHeartbeats 1000000 in
theorem law_c29 {p : Program} {l : Launch} {e : Env} {s : State} {m : MethodId} {below : List Frame} {meth : Method} {c : Code} {D : va_G} {k : Nat → ClassId} {b : Nat} {xs : Nat → Int32} (C : Cx p l s m #[Value.ref b] c D k (va_A [] s.heap.size) cL_law RL 9) (hr : meth.sig.returnType = some .boolean) (hlk : meth.locks = false) (hX : va_X b 4 xs s s.heap) (hbl : b < s.heap.size) (hbA : ¬ va_A [] s.heap.size b) (c1 : Nat) (c2 : Nat) (c3 : Nat) (c4 : Nat) (c5 : Nat) (dd : Nat) (e0 : Nat) (h : Nat) (jj : Nat) (mo : Nat) (o : Nat) (o0 : Nat) (o1 : Nat) (o2 : Nat) (o4 : Nat) (o7 : Nat) (o9 : Nat) (od : Nat) (oo : Nat) (pp : Nat) (x2 : Nat) (x3 : Nat) (x4 : Nat)  : G p l e room_1 s m #[Value.ref b] below meth c D 9 (va_A [] s.heap.size) (lw_Z below #[Value.ref b] s) [(o, .inr (14, [.ref h, .ref pp, .ref x2, .ref x3, .ref x4, .ref o2, .ref o4, .ref o9, .ref o7, .ref o0, .ref o1])), (h, .inr (7, [.ref jj, .ref dd, .int (nI 0), .int (nI 0)])), (jj, aI k 36 (fun _ => 0)), (dd, aI k 6 (fun _ => 0)), (oo, aJ k 1 (fun _ => 0)), (mo, .inr (15, [.ref e0, .ref c1, .ref c2, .ref c3, .ref c4, .ref c5, .null, .int (nI 0), .int (nI 0), .int 0, .int 0, .int 0]))] [(0, .ref b), (1, .ref o), (2, .ref mo), (3, .ref oo), (4, .ref od), (5, .int (nI 0))] 300 2000 0 1683 [] := by
  refine g_aload_n (pc := 1683) C 1 rfl rfl dL_law_1683 ?_
  refine g_aload_n (pc := 1684) C 3 rfl rfl dL_law_1684 ?_
  refine g_callSW (pc := 1685) (cells := 300) (slots := 2000) (g := 0) (As := [.ref o, .ref oo]) (st := []) (b := 0) C (nA := 2) rfl (c_L_rank_z o h pp x2 x3 x4 o2 o4 o9 o7 o0 o1 jj dd oo (fun _ => 0) ) q_670 q_671 q_459 q_669 (by decide +kernel) dL_law_1685 ⟨Nat.le_of_ble_eq_true rfl, Nat.le_of_ble_eq_true rfl⟩ [0, 1, 2, 3, 4] [5] rfl (wr := [(mo, .inr (15, [.ref e0, .ref c1, .ref c2, .ref c3, .ref c4, .ref c5, .null, .int (nI 0), .int (nI 0), .int 0, .int 0, .int 0]))]) rfl (by decide) (by decide) (by decide) (Nat.le_of_ble_eq_true rfl) ⟨Nat.le_of_ble_eq_true rfl, Nat.le_of_ble_eq_true rfl⟩ (fun rv w1 h1 => ?_)
  obtain ⟨rfl, rfl⟩ := h1
  refine G.aft [1, 2, 3, 4, 5, 0] (ws' := [(o, .inr (14, [.ref h, .ref pp, .ref x2, .ref x3, .ref x4, .ref o2, .ref o4, .ref o9, .ref o7, .ref o0, .ref o1])), (h, .inr (7, [.ref jj, .ref dd, .int (nI 0), .int (nI 0)])), (jj, aI k 36 (fun _ => 0)), (dd, aI k 6 (fun _ => 0)), (oo, aJ k 1 (fun _ => 0)), (mo, .inr (15, [.ref e0, .ref c1, .ref c2, .ref c3, .ref c4, .ref c5, .null, .int (nI 0), .int (nI 0), .int 0, .int 0, .int 0]))]) (st' := [.int 1]) (cells' := 301) (slots' := 2006) (g' := 0) (by decide) rfl rfl rfl rfl rfl ?_
  refine g_istore (pc := 1688) C [(6, .int 1), (0, .ref b), (1, .ref o), (2, .ref mo), (3, .ref oo), (4, .ref od), (5, .int (nI 0))] dL_law_1688 (by decide) rfl ?_
  refine g_aload_n (pc := 1690) C 3 rfl rfl dL_law_1690 ?_
  refine g_callV (pc := 1691) (cells := 301) (slots := 2006) (g := 0) (As := []) (st := []) (T := TX11) (q0 := 5) C (nA := 0) rfl (c_X11_rank_z mo e0 c1 c2 c3 c4 c5 0 ) q_674 q_675 q_673 q_265 q_672 (by decide +kernel) rfl rfl dL_law_1691 ⟨Nat.le_of_ble_eq_true rfl, Nat.le_of_ble_eq_true rfl⟩ [5] [0, 1, 2, 3, 4] rfl (wr := [(o, .inr (14, [.ref h, .ref pp, .ref x2, .ref x3, .ref x4, .ref o2, .ref o4, .ref o9, .ref o7, .ref o0, .ref o1])), (h, .inr (7, [.ref jj, .ref dd, .int (nI 0), .int (nI 0)])), (jj, aI k 36 (fun _ => 0)), (dd, aI k 6 (fun _ => 0)), (oo, aJ k 1 (fun _ => 0))]) rfl (by decide) (by decide) (by decide) (Nat.le_of_ble_eq_true rfl) ⟨Nat.le_of_ble_eq_true rfl, Nat.le_of_ble_eq_true rfl⟩ (fun rv w1 h1 => ?_)
  obtain ⟨rfl, rfl⟩ := h1
  refine G.aft [0, 1, 2, 3, 4, 5] (ws' := [(o, .inr (14, [.ref h, .ref pp, .ref x2, .ref x3, .ref x4, .ref o2, .ref o4, .ref o9, .ref o7, .ref o0, .ref o1])), (h, .inr (7, [.ref jj, .ref dd, .int (nI 0), .int (nI 0)])), (jj, aI k 36 (fun _ => 0)), (dd, aI k 6 (fun _ => 0)), (oo, aJ k 1 (fun _ => 0)), (mo, .inr (15, [.ref e0, .ref c1, .ref c2, .ref c3, .ref c4, .ref c5, .null, .int (nI 0), .int (nI 0), .int 0, .int 0, .int 1]))]) (st' := [.int 0]) (cells' := 301) (slots' := 2006) (g' := 0) (by decide) rfl rfl rfl rfl rfl ?_
  refine g_istore (pc := 1694) C [(7, .int 0), (6, .int 1), (0, .ref b), (1, .ref o), (2, .ref mo), (3, .ref oo), (4, .ref od), (5, .int (nI 0))] dL_law_1694 (by decide) rfl ?_
  refine g_aload_n (pc := 1696) C 4 rfl rfl dL_law_1696 ?_
  refine g_callV (pc := 1697) (cells := 301) (slots := 2006) (g := 0) (As := []) (st := []) (T := TX11) (q0 := 5) C (nA := 0) rfl (c_X11_thrown mo e0 c1 c2 c3 c4 c5 1 (nI 0) (nI 0) 0 0 ) q_468 q_469 q_467 q_265 q_466 (by decide +kernel) rfl rfl dL_law_1697 ⟨Nat.le_of_ble_eq_true rfl, Nat.le_of_ble_eq_true rfl⟩ [5] [0, 1, 2, 3, 4] rfl (wr := [(o, .inr (14, [.ref h, .ref pp, .ref x2, .ref x3, .ref x4, .ref o2, .ref o4, .ref o9, .ref o7, .ref o0, .ref o1])), (h, .inr (7, [.ref jj, .ref dd, .int (nI 0), .int (nI 0)])), (jj, aI k 36 (fun _ => 0)), (dd, aI k 6 (fun _ => 0)), (oo, aJ k 1 (fun _ => 0))]) rfl (by decide) (by decide) (by decide) (Nat.le_of_ble_eq_true rfl) ⟨Nat.le_of_ble_eq_true rfl, Nat.le_of_ble_eq_true rfl⟩ (fun rv w1 h1 => ?_)
  obtain ⟨rfl, rfl⟩ := h1
  refine G.aft [0, 1, 2, 3, 4, 5] (ws' := [(o, .inr (14, [.ref h, .ref pp, .ref x2, .ref x3, .ref x4, .ref o2, .ref o4, .ref o9, .ref o7, .ref o0, .ref o1])), (h, .inr (7, [.ref jj, .ref dd, .int (nI 0), .int (nI 0)])), (jj, aI k 36 (fun _ => 0)), (dd, aI k 6 (fun _ => 0)), (oo, aJ k 1 (fun _ => 0)), (mo, .inr (15, [.ref e0, .ref c1, .ref c2, .ref c3, .ref c4, .ref c5, .null, .int (nI 0), .int (nI 0), .int 0, .int 0, .int 1]))]) (st' := [.int 1]) (cells' := 301) (slots' := 2006) (g' := 0) (by decide) rfl rfl rfl rfl rfl ?_
  refine g_iload (pc := 1700) C 1 rfl dL_law_1700 ?_
  refine g_icmp_eq (pc := 1702) C 1707 (by decide) dL_law_1702 (fun c_1702 => ?_) (fun c_1702 => ?_)
  · refine g_iload (pc := 1707) C 1 rfl dL_law_1707 ?_
    refine g_if_ne (pc := 1709) C 1724 (by decide) dL_law_1709 (fun c_1709 => ?_) (fun c_1709 => ?_)
    · refine g_goto (pc := 1724) C 1995 (by decide) dL_law_1724 ?_
      refine G.re [] (ws' := []) (by decide) rfl ?_
      refine G.loc [2, 7] (lv' := [(0, .ref b), (5, .int (nI 0))]) rfl ?_
      refine G.widen (k' := 400) (n' := 3000) (g' := 0) (by decide) (by decide) (Nat.zero_le _) ?_
      exact law_end C hr hlk hX hbl hbA
    · exact absurd c_1709 (by decide)
  · exact absurd c_1702 (by decide)
set_option maxRecDepth 100000 in
set_option maxHeartbeats 1000000 in
theorem law_c30_s3 {p : Program} {l : Launch} {e : Env} {s : State} {m : MethodId} {below : List Frame} {meth : Method} {c : Code} {D : va_G} {k : Nat → ClassId} {b : Nat} {xs : Nat → Int32} (C : Cx p l s m #[Value.ref b] c D k (va_A [] s.heap.size) cL_law RL 9) (hr : meth.sig.returnType = some .boolean) (hlk : meth.locks = false) (hX : va_X b 4 xs s s.heap) (hbl : b < s.heap.size) (hbA : ¬ va_A [] s.heap.size b) (c1 : Nat) (c2 : Nat) (c3 : Nat) (c4 : Nat) (c5 : Nat) (d1 : Nat) (d2 : Nat) (e0 : Nat) (h : Nat) (mo : Nat) (o : Nat) (o0 : Nat) (o1 : Nat) (o2 : Nat) (o4 : Nat) (o7 : Nat) (o9 : Nat) (od : Nat) (oo : Nat) (pp : Nat) (x2 : Nat) (x3 : Nat) (x4 : Nat) (mc : Nat) (hmm : mc ≤ 300) (hx1 : xs 1 = nI 3) (hx2 : xs 2 = nI mc) : G p l e room_1 s m #[Value.ref b] below meth c D 9 (va_A [] s.heap.size) (lw_Z below #[Value.ref b] s) [(o, .inr (14, [.ref h, .ref pp, .ref x2, .ref x3, .ref x4, .ref o2, .ref o4, .ref o9, .ref o7, .ref o0, .ref o1])), (o1, .inr (5, [.ref d1, .int 0])), (d1, .inr (12, [.ref d2])), (d2, aI k 81 (fun _ => 0)), (oo, aJ k 1 (fun _ => 0)), (mo, .inr (15, [.ref e0, .ref c1, .ref c2, .ref c3, .ref c4, .ref c5, .null, .int (nI 0), .int (nI 0), .int 0, .int 0, .int 0]))] [(0, .ref b), (1, .ref o), (2, .ref mo), (3, .ref oo), (4, .ref od), (5, .int (nI 0))] 300 2000 0 1727 [] := by
  refine g_aload_n (pc := 1727) C 1 rfl rfl dL_law_1727 ?_
  refine g_aload_n (pc := 1728) C 0 rfl rfl dL_law_1728 ?_
  refine g_iload (pc := 1729) C 5 rfl dL_law_1729 ?_
  refine g_iconst (pc := 1731) (v := 1) C (by decide) dL_law_1731 ?_
  refine g_iadd (pc := 1732) C dL_law_1732 ?_
  refine G.eqs (st' := [.int (nI 1), .ref b, .ref o]) (congrArg (β := List Value) (fun z9 => [.int z9, .ref b, .ref o]) (show (((nI 0) + 1) : Int32) = (nI 1) from nI_add _ _)) ?_
  refine g_sld (pc := 1733) C hX hbl hbA (j := 1) (by omega) (by omega) rfl dL_law_1733 ?_
  refine G.eqs (st' := [.int (nI 3), .ref o]) (congrArg (β := List Value) (fun z9 => [.int z9, .ref o]) (show ((xs 1) : Int32) = (nI 3) from hx1)) ?_
  refine g_aload_n (pc := 1734) C 0 rfl rfl dL_law_1734 ?_
  refine g_iload (pc := 1735) C 5 rfl dL_law_1735 ?_
  refine g_iconst (pc := 1737) (v := 2) C (by decide) dL_law_1737 ?_
  refine g_iadd (pc := 1738) C dL_law_1738 ?_
  refine G.eqs (st' := [.int (nI 2), .ref b, .int (nI 3), .ref o]) (congrArg (β := List Value) (fun z9 => [.int z9, .ref b, .int (nI 3), .ref o]) (show (((nI 0) + 2) : Int32) = (nI 2) from nI_add _ _)) ?_
  refine g_sld (pc := 1739) C hX hbl hbA (j := 2) (by omega) (by omega) rfl dL_law_1739 ?_
  refine G.eqs (st' := [.int (nI mc), .int (nI 3), .ref o]) (congrArg (β := List Value) (fun z9 => [.int z9, .int (nI 3), .ref o]) (show ((xs 2) : Int32) = (nI mc) from hx2)) ?_
  refine g_aload_n (pc := 1740) C 3 rfl rfl dL_law_1740 ?_
  refine g_callSW (pc := 1741) (cells := 300) (slots := 2000) (g := 0) (As := [.ref o, .int (nI 3), .int (nI mc), .ref oo]) (st := []) (b := 0) C (nA := 4) rfl (c_L_picture_s3 o h pp x2 x3 x4 o2 o4 o9 o7 o0 o1 d1 d2 oo 0 (fun _ => 0) (fun _ => 0) mc (by first | assumption | decide | omega)) q_677 q_678 q_459 q_676 (by decide +kernel) dL_law_1741 ⟨Nat.le_of_ble_eq_true rfl, Nat.le_of_ble_eq_true rfl⟩ [0, 1, 2, 3, 4] [5] rfl (wr := [(mo, .inr (15, [.ref e0, .ref c1, .ref c2, .ref c3, .ref c4, .ref c5, .null, .int (nI 0), .int (nI 0), .int 0, .int 0, .int 0]))]) rfl (by decide) (by decide) (by decide) (Nat.le_of_ble_eq_true rfl) ⟨Nat.le_of_ble_eq_true rfl, Nat.le_of_ble_eq_true rfl⟩ (fun rv w1 h1 => ?_)
  obtain ⟨rfl, q1, rfl⟩ := h1
  refine G.aft [1, 2, 3, 4, 5, 0] (ws' := [(o, .inr (14, [.ref h, .ref pp, .ref x2, .ref x3, .ref x4, .ref o2, .ref o4, .ref o9, .ref o7, .ref o0, .ref o1])), (o1, .inr (5, [.ref d1, .int (nI 3)])), (d1, .inr (12, [.ref d2])), (d2, aI k 81 q1), (oo, aJ k 1 (fun _ => (nI (picN 3 (fm 3 mc))).toInt64)), (mo, .inr (15, [.ref e0, .ref c1, .ref c2, .ref c3, .ref c4, .ref c5, .null, .int (nI 0), .int (nI 0), .int 0, .int 0, .int 0]))]) (st' := [.int 0]) (cells' := 300) (slots' := 2000) (g' := 0) (by decide) rfl rfl rfl rfl rfl ?_
  refine g_istore (pc := 1744) C [(6, .int 0), (0, .ref b), (1, .ref o), (2, .ref mo), (3, .ref oo), (4, .ref od), (5, .int (nI 0))] dL_law_1744 (by decide) rfl ?_
  refine g_aload_n (pc := 1746) C 3 rfl rfl dL_law_1746 ?_
  refine g_aload_n (pc := 1747) C 1 rfl rfl dL_law_1747 ?_
  refine g_iload (pc := 1748) C 6 rfl dL_law_1748 ?_
  refine g_iconst (pc := 1750) (v := 1) C (by decide) dL_law_1750 ?_
  refine g_iadd (pc := 1751) C dL_law_1751 ?_
  refine G.eqs (st' := [.int (nI 1), .ref b, .ref mo]) (congrArg (β := List Value) (fun z9 => [.int z9, .ref b, .ref mo]) (show (((nI 0) + 1) : Int32) = (nI 1) from nI_add _ _)) ?_
  refine g_sld (pc := 1752) C hX hbl hbA (j := 1) (by omega) (by omega) rfl dL_law_1752 ?_
  refine G.eqs (st' := [.int (nI 3), .ref mo]) (congrArg (β := List Value) (fun z9 => [.int z9, .ref mo]) (show ((xs 1) : Int32) = (nI 3) from hx1)) ?_
  refine g_aload_n (pc := 1753) C 1 rfl rfl dL_law_1753 ?_
  refine g_iload (pc := 1754) C 6 rfl dL_law_1754 ?_
  refine g_iconst (pc := 1756) (v := 2) C (by decide) dL_law_1756 ?_
  refine g_iadd (pc := 1757) C dL_law_1757 ?_
  refine G.eqs (st' := [.int (nI 2), .ref b, .int (nI 3), .ref mo]) (congrArg (β := List Value) (fun z9 => [.int z9, .ref b, .int (nI 3), .ref mo]) (show (((nI 0) + 2) : Int32) = (nI 2) from nI_add _ _)) ?_
  refine g_sld (pc := 1758) C hX hbl hbA (j := 2) (by omega) (by omega) rfl dL_law_1758 ?_
  refine G.eqs (st' := [.int (nI mc), .int (nI 3), .ref mo]) (congrArg (β := List Value) (fun z9 => [.int z9, .int (nI 3), .ref mo]) (show ((xs 2) : Int32) = (nI mc) from hx2)) ?_
  refine g_callV (pc := 1759) (cells := 300) (slots := 2000) (g := 0) (As := [.int (nI 3), .int (nI mc)]) (st := []) (T := TX11) (q0 := 5) C (nA := 2) rfl (c_X11_picture_s3 mo e0 c1 c2 c3 c4 c5 0 mc (by first | assumption | decide | omega)) q_681 q_682 q_680 q_265 q_679 (by decide +kernel) rfl rfl dL_law_1759 ⟨Nat.le_of_ble_eq_true rfl, Nat.le_of_ble_eq_true rfl⟩ [5] [0, 1, 2, 3, 4] rfl (wr := [(o, .inr (14, [.ref h, .ref pp, .ref x2, .ref x3, .ref x4, .ref o2, .ref o4, .ref o9, .ref o7, .ref o0, .ref o1])), (o1, .inr (5, [.ref d1, .int (nI 3)])), (d1, .inr (12, [.ref d2])), (d2, aI k 81 q1), (oo, aJ k 1 (fun _ => (nI (picN 3 (fm 3 mc))).toInt64))]) rfl (by decide) (by decide) (by decide) (Nat.le_of_ble_eq_true rfl) ⟨Nat.le_of_ble_eq_true rfl, Nat.le_of_ble_eq_true rfl⟩ (fun rv w1 h1 => ?_)
  obtain ⟨rfl, q2, q3, rfl⟩ := h1
  refine G.aft [0, 1, 2, 3, 4, 5, 6] (ws' := [(o, .inr (14, [.ref h, .ref pp, .ref x2, .ref x3, .ref x4, .ref o2, .ref o4, .ref o9, .ref o7, .ref o0, .ref o1])), (o1, .inr (5, [.ref d1, .int (nI 3)])), (d1, .inr (12, [.ref d2])), (d2, aI k 81 q1), (oo, aJ k 1 (fun _ => (nI (picN 3 (fm 3 mc))).toInt64)), (mo, .inr (15, [.ref e0, .ref c1, .ref c2, .ref c3, .ref c4, .ref c5, .ref q2, .int (nI 0), .int (nI 0), .int 0, .int (nI 3), .int 0])), (q2, aI k 9 q3)]) (st' := [.int (nI (picN 3 (fm 3 mc)))]) (cells' := 301) (slots' := 2009) (g' := 1) (by decide) rfl rfl rfl rfl rfl ?_
  refine g_istore (pc := 1762) C [(7, .int (nI (picN 3 (fm 3 mc)))), (6, .int 0), (0, .ref b), (1, .ref o), (2, .ref mo), (3, .ref oo), (4, .ref od), (5, .int (nI 0))] dL_law_1762 (by decide) rfl ?_
  refine g_aload_n (pc := 1764) C 4 rfl rfl dL_law_1764 ?_
  refine g_callV (pc := 1765) (cells := 301) (slots := 2009) (g := 1) (As := []) (st := []) (T := TX11) (q0 := 5) C (nA := 0) rfl (c_X11_thrown_p mo e0 c1 c2 c3 c4 c5 0 (nI 0) (nI 0) 0 (nI 3) q2 ) q_468 q_469 q_467 q_265 q_466 (by decide +kernel) rfl rfl dL_law_1765 ⟨Nat.le_of_ble_eq_true rfl, Nat.le_of_ble_eq_true rfl⟩ [5] [0, 1, 2, 3, 4, 6] rfl (wr := [(o, .inr (14, [.ref h, .ref pp, .ref x2, .ref x3, .ref x4, .ref o2, .ref o4, .ref o9, .ref o7, .ref o0, .ref o1])), (o1, .inr (5, [.ref d1, .int (nI 3)])), (d1, .inr (12, [.ref d2])), (d2, aI k 81 q1), (oo, aJ k 1 (fun _ => (nI (picN 3 (fm 3 mc))).toInt64)), (q2, aI k 9 q3)]) rfl (by decide) (by decide) (by decide) (Nat.le_of_ble_eq_true rfl) ⟨Nat.le_of_ble_eq_true rfl, Nat.le_of_ble_eq_true rfl⟩ (fun rv w1 h1 => ?_)
  obtain ⟨rfl, rfl⟩ := h1
  refine G.aft [0, 1, 2, 3, 4, 6, 5] (ws' := [(o, .inr (14, [.ref h, .ref pp, .ref x2, .ref x3, .ref x4, .ref o2, .ref o4, .ref o9, .ref o7, .ref o0, .ref o1])), (o1, .inr (5, [.ref d1, .int (nI 3)])), (d1, .inr (12, [.ref d2])), (d2, aI k 81 q1), (oo, aJ k 1 (fun _ => (nI (picN 3 (fm 3 mc))).toInt64)), (mo, .inr (15, [.ref e0, .ref c1, .ref c2, .ref c3, .ref c4, .ref c5, .ref q2, .int (nI 0), .int (nI 0), .int 0, .int (nI 3), .int 0])), (q2, aI k 9 q3)]) (st' := [.int 0]) (cells' := 301) (slots' := 2009) (g' := 1) (by decide) rfl rfl rfl rfl rfl ?_
  refine g_iload (pc := 1768) C 1 rfl dL_law_1768 ?_
  refine g_icmp_eq (pc := 1770) C 1775 (by decide) dL_law_1770 (fun c_1770 => ?_) (fun c_1770 => ?_)
  · refine g_iload (pc := 1775) C 1 rfl dL_law_1775 ?_
    refine g_if_ne (pc := 1777) C 1792 (by decide) dL_law_1777 (fun c_1777 => ?_) (fun c_1777 => ?_)
    · exact absurd c_1777 (by decide)
    · refine g_aload_n (pc := 1780) C 5 rfl rfl dL_law_1780 ?_
      refine g_iconst (pc := 1781) (v := 0) C (by decide) dL_law_1781 ?_
      refine g_lald_n (pc := 1782) C (j := 0) 4 rfl (by omega) (by first | decide | omega) rfl dL_law_1782 ?_
      refine g_iload (pc := 1783) C 0 rfl dL_law_1783 ?_
      refine g_i2l (pc := 1785) C dL_law_1785 ?_
      refine g_lcmp (pc := 1786) C dL_law_1786 ?_
      refine g_if_eq (pc := 1787) C 1792 (by decide) dL_law_1787 (fun c_1787 => ?_) (fun c_1787 => ?_)
      · refine g_goto (pc := 1792) C 1995 (by decide) dL_law_1792 ?_
        refine G.re [] (ws' := []) (by decide) rfl ?_
        refine G.loc [2, 7] (lv' := [(0, .ref b), (5, .int (nI 0))]) rfl ?_
        refine G.widen (k' := 400) (n' := 3000) (g' := 0) (by decide) (by decide) (Nat.zero_le _) ?_
        exact law_end C hr hlk hX hbl hbA
      · exact absurd (lg_cmp_e _) c_1787
  · exact absurd c_1770 (by decide)
set_option maxRecDepth 100000 in
set_option maxHeartbeats 1000000 in
theorem law_c30_s5 {p : Program} {l : Launch} {e : Env} {s : State} {m : MethodId} {below : List Frame} {meth : Method} {c : Code} {D : va_G} {k : Nat → ClassId} {b : Nat} {xs : Nat → Int32} (C : Cx p l s m #[Value.ref b] c D k (va_A [] s.heap.size) cL_law RL 9) (hr : meth.sig.returnType = some .boolean) (hlk : meth.locks = false) (hX : va_X b 4 xs s s.heap) (hbl : b < s.heap.size) (hbA : ¬ va_A [] s.heap.size b) (c1 : Nat) (c2 : Nat) (c3 : Nat) (c4 : Nat) (c5 : Nat) (d1 : Nat) (d2 : Nat) (e0 : Nat) (h : Nat) (mo : Nat) (o : Nat) (o0 : Nat) (o1 : Nat) (o2 : Nat) (o4 : Nat) (o7 : Nat) (o9 : Nat) (od : Nat) (oo : Nat) (pp : Nat) (x2 : Nat) (x3 : Nat) (x4 : Nat) (mc : Nat) (hmm : mc ≤ 300) (hx1 : xs 1 = nI 5) (hx2 : xs 2 = nI mc) : G p l e room_1 s m #[Value.ref b] below meth c D 9 (va_A [] s.heap.size) (lw_Z below #[Value.ref b] s) [(o, .inr (14, [.ref h, .ref pp, .ref x2, .ref x3, .ref x4, .ref o2, .ref o4, .ref o9, .ref o7, .ref o0, .ref o1])), (o1, .inr (5, [.ref d1, .int 0])), (d1, .inr (12, [.ref d2])), (d2, aI k 81 (fun _ => 0)), (oo, aJ k 1 (fun _ => 0)), (mo, .inr (15, [.ref e0, .ref c1, .ref c2, .ref c3, .ref c4, .ref c5, .null, .int (nI 0), .int (nI 0), .int 0, .int 0, .int 0]))] [(0, .ref b), (1, .ref o), (2, .ref mo), (3, .ref oo), (4, .ref od), (5, .int (nI 0))] 300 2000 0 1727 [] := by
  refine g_aload_n (pc := 1727) C 1 rfl rfl dL_law_1727 ?_
  refine g_aload_n (pc := 1728) C 0 rfl rfl dL_law_1728 ?_
  refine g_iload (pc := 1729) C 5 rfl dL_law_1729 ?_
  refine g_iconst (pc := 1731) (v := 1) C (by decide) dL_law_1731 ?_
  refine g_iadd (pc := 1732) C dL_law_1732 ?_
  refine G.eqs (st' := [.int (nI 1), .ref b, .ref o]) (congrArg (β := List Value) (fun z9 => [.int z9, .ref b, .ref o]) (show (((nI 0) + 1) : Int32) = (nI 1) from nI_add _ _)) ?_
  refine g_sld (pc := 1733) C hX hbl hbA (j := 1) (by omega) (by omega) rfl dL_law_1733 ?_
  refine G.eqs (st' := [.int (nI 5), .ref o]) (congrArg (β := List Value) (fun z9 => [.int z9, .ref o]) (show ((xs 1) : Int32) = (nI 5) from hx1)) ?_
  refine g_aload_n (pc := 1734) C 0 rfl rfl dL_law_1734 ?_
  refine g_iload (pc := 1735) C 5 rfl dL_law_1735 ?_
  refine g_iconst (pc := 1737) (v := 2) C (by decide) dL_law_1737 ?_
  refine g_iadd (pc := 1738) C dL_law_1738 ?_
  refine G.eqs (st' := [.int (nI 2), .ref b, .int (nI 5), .ref o]) (congrArg (β := List Value) (fun z9 => [.int z9, .ref b, .int (nI 5), .ref o]) (show (((nI 0) + 2) : Int32) = (nI 2) from nI_add _ _)) ?_
  refine g_sld (pc := 1739) C hX hbl hbA (j := 2) (by omega) (by omega) rfl dL_law_1739 ?_
  refine G.eqs (st' := [.int (nI mc), .int (nI 5), .ref o]) (congrArg (β := List Value) (fun z9 => [.int z9, .int (nI 5), .ref o]) (show ((xs 2) : Int32) = (nI mc) from hx2)) ?_
  refine g_aload_n (pc := 1740) C 3 rfl rfl dL_law_1740 ?_
  refine g_callSW (pc := 1741) (cells := 300) (slots := 2000) (g := 0) (As := [.ref o, .int (nI 5), .int (nI mc), .ref oo]) (st := []) (b := 0) C (nA := 4) rfl (c_L_picture_s5 o h pp x2 x3 x4 o2 o4 o9 o7 o0 o1 d1 d2 oo 0 (fun _ => 0) (fun _ => 0) mc (by first | assumption | decide | omega)) q_677 q_678 q_459 q_676 (by decide +kernel) dL_law_1741 ⟨Nat.le_of_ble_eq_true rfl, Nat.le_of_ble_eq_true rfl⟩ [0, 1, 2, 3, 4] [5] rfl (wr := [(mo, .inr (15, [.ref e0, .ref c1, .ref c2, .ref c3, .ref c4, .ref c5, .null, .int (nI 0), .int (nI 0), .int 0, .int 0, .int 0]))]) rfl (by decide) (by decide) (by decide) (Nat.le_of_ble_eq_true rfl) ⟨Nat.le_of_ble_eq_true rfl, Nat.le_of_ble_eq_true rfl⟩ (fun rv w1 h1 => ?_)
  obtain ⟨rfl, q1, rfl⟩ := h1
  refine G.aft [1, 2, 3, 4, 5, 0] (ws' := [(o, .inr (14, [.ref h, .ref pp, .ref x2, .ref x3, .ref x4, .ref o2, .ref o4, .ref o9, .ref o7, .ref o0, .ref o1])), (o1, .inr (5, [.ref d1, .int (nI 5)])), (d1, .inr (12, [.ref d2])), (d2, aI k 81 q1), (oo, aJ k 1 (fun _ => (nI (picN 5 (fm 5 mc))).toInt64)), (mo, .inr (15, [.ref e0, .ref c1, .ref c2, .ref c3, .ref c4, .ref c5, .null, .int (nI 0), .int (nI 0), .int 0, .int 0, .int 0]))]) (st' := [.int 0]) (cells' := 300) (slots' := 2000) (g' := 0) (by decide) rfl rfl rfl rfl rfl ?_
  refine g_istore (pc := 1744) C [(6, .int 0), (0, .ref b), (1, .ref o), (2, .ref mo), (3, .ref oo), (4, .ref od), (5, .int (nI 0))] dL_law_1744 (by decide) rfl ?_
  refine g_aload_n (pc := 1746) C 3 rfl rfl dL_law_1746 ?_
  refine g_aload_n (pc := 1747) C 1 rfl rfl dL_law_1747 ?_
  refine g_iload (pc := 1748) C 6 rfl dL_law_1748 ?_
  refine g_iconst (pc := 1750) (v := 1) C (by decide) dL_law_1750 ?_
  refine g_iadd (pc := 1751) C dL_law_1751 ?_
  refine G.eqs (st' := [.int (nI 1), .ref b, .ref mo]) (congrArg (β := List Value) (fun z9 => [.int z9, .ref b, .ref mo]) (show (((nI 0) + 1) : Int32) = (nI 1) from nI_add _ _)) ?_
  refine g_sld (pc := 1752) C hX hbl hbA (j := 1) (by omega) (by omega) rfl dL_law_1752 ?_
  refine G.eqs (st' := [.int (nI 5), .ref mo]) (congrArg (β := List Value) (fun z9 => [.int z9, .ref mo]) (show ((xs 1) : Int32) = (nI 5) from hx1)) ?_
  refine g_aload_n (pc := 1753) C 1 rfl rfl dL_law_1753 ?_
  refine g_iload (pc := 1754) C 6 rfl dL_law_1754 ?_
  refine g_iconst (pc := 1756) (v := 2) C (by decide) dL_law_1756 ?_
  refine g_iadd (pc := 1757) C dL_law_1757 ?_
  refine G.eqs (st' := [.int (nI 2), .ref b, .int (nI 5), .ref mo]) (congrArg (β := List Value) (fun z9 => [.int z9, .ref b, .int (nI 5), .ref mo]) (show (((nI 0) + 2) : Int32) = (nI 2) from nI_add _ _)) ?_
  refine g_sld (pc := 1758) C hX hbl hbA (j := 2) (by omega) (by omega) rfl dL_law_1758 ?_
  refine G.eqs (st' := [.int (nI mc), .int (nI 5), .ref mo]) (congrArg (β := List Value) (fun z9 => [.int z9, .int (nI 5), .ref mo]) (show ((xs 2) : Int32) = (nI mc) from hx2)) ?_
  refine g_callV (pc := 1759) (cells := 300) (slots := 2000) (g := 0) (As := [.int (nI 5), .int (nI mc)]) (st := []) (T := TX11) (q0 := 5) C (nA := 2) rfl (c_X11_picture_s5 mo e0 c1 c2 c3 c4 c5 0 mc (by first | assumption | decide | omega)) q_681 q_682 q_680 q_265 q_679 (by decide +kernel) rfl rfl dL_law_1759 ⟨Nat.le_of_ble_eq_true rfl, Nat.le_of_ble_eq_true rfl⟩ [5] [0, 1, 2, 3, 4] rfl (wr := [(o, .inr (14, [.ref h, .ref pp, .ref x2, .ref x3, .ref x4, .ref o2, .ref o4, .ref o9, .ref o7, .ref o0, .ref o1])), (o1, .inr (5, [.ref d1, .int (nI 5)])), (d1, .inr (12, [.ref d2])), (d2, aI k 81 q1), (oo, aJ k 1 (fun _ => (nI (picN 5 (fm 5 mc))).toInt64))]) rfl (by decide) (by decide) (by decide) (Nat.le_of_ble_eq_true rfl) ⟨Nat.le_of_ble_eq_true rfl, Nat.le_of_ble_eq_true rfl⟩ (fun rv w1 h1 => ?_)
  obtain ⟨rfl, q2, q3, rfl⟩ := h1
  refine G.aft [0, 1, 2, 3, 4, 5, 6] (ws' := [(o, .inr (14, [.ref h, .ref pp, .ref x2, .ref x3, .ref x4, .ref o2, .ref o4, .ref o9, .ref o7, .ref o0, .ref o1])), (o1, .inr (5, [.ref d1, .int (nI 5)])), (d1, .inr (12, [.ref d2])), (d2, aI k 81 q1), (oo, aJ k 1 (fun _ => (nI (picN 5 (fm 5 mc))).toInt64)), (mo, .inr (15, [.ref e0, .ref c1, .ref c2, .ref c3, .ref c4, .ref c5, .ref q2, .int (nI 0), .int (nI 0), .int 0, .int (nI 5), .int 0])), (q2, aI k 25 q3)]) (st' := [.int (nI (picN 5 (fm 5 mc)))]) (cells' := 301) (slots' := 2025) (g' := 1) (by decide) rfl rfl rfl rfl rfl ?_
  refine g_istore (pc := 1762) C [(7, .int (nI (picN 5 (fm 5 mc)))), (6, .int 0), (0, .ref b), (1, .ref o), (2, .ref mo), (3, .ref oo), (4, .ref od), (5, .int (nI 0))] dL_law_1762 (by decide) rfl ?_
  refine g_aload_n (pc := 1764) C 4 rfl rfl dL_law_1764 ?_
  refine g_callV (pc := 1765) (cells := 301) (slots := 2025) (g := 1) (As := []) (st := []) (T := TX11) (q0 := 5) C (nA := 0) rfl (c_X11_thrown_p mo e0 c1 c2 c3 c4 c5 0 (nI 0) (nI 0) 0 (nI 5) q2 ) q_468 q_469 q_467 q_265 q_466 (by decide +kernel) rfl rfl dL_law_1765 ⟨Nat.le_of_ble_eq_true rfl, Nat.le_of_ble_eq_true rfl⟩ [5] [0, 1, 2, 3, 4, 6] rfl (wr := [(o, .inr (14, [.ref h, .ref pp, .ref x2, .ref x3, .ref x4, .ref o2, .ref o4, .ref o9, .ref o7, .ref o0, .ref o1])), (o1, .inr (5, [.ref d1, .int (nI 5)])), (d1, .inr (12, [.ref d2])), (d2, aI k 81 q1), (oo, aJ k 1 (fun _ => (nI (picN 5 (fm 5 mc))).toInt64)), (q2, aI k 25 q3)]) rfl (by decide) (by decide) (by decide) (Nat.le_of_ble_eq_true rfl) ⟨Nat.le_of_ble_eq_true rfl, Nat.le_of_ble_eq_true rfl⟩ (fun rv w1 h1 => ?_)
  obtain ⟨rfl, rfl⟩ := h1
  refine G.aft [0, 1, 2, 3, 4, 6, 5] (ws' := [(o, .inr (14, [.ref h, .ref pp, .ref x2, .ref x3, .ref x4, .ref o2, .ref o4, .ref o9, .ref o7, .ref o0, .ref o1])), (o1, .inr (5, [.ref d1, .int (nI 5)])), (d1, .inr (12, [.ref d2])), (d2, aI k 81 q1), (oo, aJ k 1 (fun _ => (nI (picN 5 (fm 5 mc))).toInt64)), (mo, .inr (15, [.ref e0, .ref c1, .ref c2, .ref c3, .ref c4, .ref c5, .ref q2, .int (nI 0), .int (nI 0), .int 0, .int (nI 5), .int 0])), (q2, aI k 25 q3)]) (st' := [.int 0]) (cells' := 301) (slots' := 2025) (g' := 1) (by decide) rfl rfl rfl rfl rfl ?_
  refine g_iload (pc := 1768) C 1 rfl dL_law_1768 ?_
  refine g_icmp_eq (pc := 1770) C 1775 (by decide) dL_law_1770 (fun c_1770 => ?_) (fun c_1770 => ?_)
  · refine g_iload (pc := 1775) C 1 rfl dL_law_1775 ?_
    refine g_if_ne (pc := 1777) C 1792 (by decide) dL_law_1777 (fun c_1777 => ?_) (fun c_1777 => ?_)
    · exact absurd c_1777 (by decide)
    · refine g_aload_n (pc := 1780) C 5 rfl rfl dL_law_1780 ?_
      refine g_iconst (pc := 1781) (v := 0) C (by decide) dL_law_1781 ?_
      refine g_lald_n (pc := 1782) C (j := 0) 4 rfl (by omega) (by first | decide | omega) rfl dL_law_1782 ?_
      refine g_iload (pc := 1783) C 0 rfl dL_law_1783 ?_
      refine g_i2l (pc := 1785) C dL_law_1785 ?_
      refine g_lcmp (pc := 1786) C dL_law_1786 ?_
      refine g_if_eq (pc := 1787) C 1792 (by decide) dL_law_1787 (fun c_1787 => ?_) (fun c_1787 => ?_)
      · refine g_goto (pc := 1792) C 1995 (by decide) dL_law_1792 ?_
        refine G.re [] (ws' := []) (by decide) rfl ?_
        refine G.loc [2, 7] (lv' := [(0, .ref b), (5, .int (nI 0))]) rfl ?_
        refine G.widen (k' := 400) (n' := 3000) (g' := 0) (by decide) (by decide) (Nat.zero_le _) ?_
        exact law_end C hr hlk hX hbl hbA
      · exact absurd (lg_cmp_e _) c_1787
  · exact absurd c_1770 (by decide)
set_option maxRecDepth 100000 in
set_option maxHeartbeats 1000000 in
theorem law_c30_s7 {p : Program} {l : Launch} {e : Env} {s : State} {m : MethodId} {below : List Frame} {meth : Method} {c : Code} {D : va_G} {k : Nat → ClassId} {b : Nat} {xs : Nat → Int32} (C : Cx p l s m #[Value.ref b] c D k (va_A [] s.heap.size) cL_law RL 9) (hr : meth.sig.returnType = some .boolean) (hlk : meth.locks = false) (hX : va_X b 4 xs s s.heap) (hbl : b < s.heap.size) (hbA : ¬ va_A [] s.heap.size b) (c1 : Nat) (c2 : Nat) (c3 : Nat) (c4 : Nat) (c5 : Nat) (d1 : Nat) (d2 : Nat) (e0 : Nat) (h : Nat) (mo : Nat) (o : Nat) (o0 : Nat) (o1 : Nat) (o2 : Nat) (o4 : Nat) (o7 : Nat) (o9 : Nat) (od : Nat) (oo : Nat) (pp : Nat) (x2 : Nat) (x3 : Nat) (x4 : Nat) (mc : Nat) (hmm : mc ≤ 300) (hx1 : xs 1 = nI 7) (hx2 : xs 2 = nI mc) : G p l e room_1 s m #[Value.ref b] below meth c D 9 (va_A [] s.heap.size) (lw_Z below #[Value.ref b] s) [(o, .inr (14, [.ref h, .ref pp, .ref x2, .ref x3, .ref x4, .ref o2, .ref o4, .ref o9, .ref o7, .ref o0, .ref o1])), (o1, .inr (5, [.ref d1, .int 0])), (d1, .inr (12, [.ref d2])), (d2, aI k 81 (fun _ => 0)), (oo, aJ k 1 (fun _ => 0)), (mo, .inr (15, [.ref e0, .ref c1, .ref c2, .ref c3, .ref c4, .ref c5, .null, .int (nI 0), .int (nI 0), .int 0, .int 0, .int 0]))] [(0, .ref b), (1, .ref o), (2, .ref mo), (3, .ref oo), (4, .ref od), (5, .int (nI 0))] 300 2000 0 1727 [] := by
  refine g_aload_n (pc := 1727) C 1 rfl rfl dL_law_1727 ?_
  refine g_aload_n (pc := 1728) C 0 rfl rfl dL_law_1728 ?_
  refine g_iload (pc := 1729) C 5 rfl dL_law_1729 ?_
  refine g_iconst (pc := 1731) (v := 1) C (by decide) dL_law_1731 ?_
  refine g_iadd (pc := 1732) C dL_law_1732 ?_
  refine G.eqs (st' := [.int (nI 1), .ref b, .ref o]) (congrArg (β := List Value) (fun z9 => [.int z9, .ref b, .ref o]) (show (((nI 0) + 1) : Int32) = (nI 1) from nI_add _ _)) ?_
  refine g_sld (pc := 1733) C hX hbl hbA (j := 1) (by omega) (by omega) rfl dL_law_1733 ?_
  refine G.eqs (st' := [.int (nI 7), .ref o]) (congrArg (β := List Value) (fun z9 => [.int z9, .ref o]) (show ((xs 1) : Int32) = (nI 7) from hx1)) ?_
  refine g_aload_n (pc := 1734) C 0 rfl rfl dL_law_1734 ?_
  refine g_iload (pc := 1735) C 5 rfl dL_law_1735 ?_
  refine g_iconst (pc := 1737) (v := 2) C (by decide) dL_law_1737 ?_
  refine g_iadd (pc := 1738) C dL_law_1738 ?_
  refine G.eqs (st' := [.int (nI 2), .ref b, .int (nI 7), .ref o]) (congrArg (β := List Value) (fun z9 => [.int z9, .ref b, .int (nI 7), .ref o]) (show (((nI 0) + 2) : Int32) = (nI 2) from nI_add _ _)) ?_
  refine g_sld (pc := 1739) C hX hbl hbA (j := 2) (by omega) (by omega) rfl dL_law_1739 ?_
  refine G.eqs (st' := [.int (nI mc), .int (nI 7), .ref o]) (congrArg (β := List Value) (fun z9 => [.int z9, .int (nI 7), .ref o]) (show ((xs 2) : Int32) = (nI mc) from hx2)) ?_
  refine g_aload_n (pc := 1740) C 3 rfl rfl dL_law_1740 ?_
  refine g_callSW (pc := 1741) (cells := 300) (slots := 2000) (g := 0) (As := [.ref o, .int (nI 7), .int (nI mc), .ref oo]) (st := []) (b := 0) C (nA := 4) rfl (c_L_picture_s7 o h pp x2 x3 x4 o2 o4 o9 o7 o0 o1 d1 d2 oo 0 (fun _ => 0) (fun _ => 0) mc (by first | assumption | decide | omega)) q_677 q_678 q_459 q_676 (by decide +kernel) dL_law_1741 ⟨Nat.le_of_ble_eq_true rfl, Nat.le_of_ble_eq_true rfl⟩ [0, 1, 2, 3, 4] [5] rfl (wr := [(mo, .inr (15, [.ref e0, .ref c1, .ref c2, .ref c3, .ref c4, .ref c5, .null, .int (nI 0), .int (nI 0), .int 0, .int 0, .int 0]))]) rfl (by decide) (by decide) (by decide) (Nat.le_of_ble_eq_true rfl) ⟨Nat.le_of_ble_eq_true rfl, Nat.le_of_ble_eq_true rfl⟩ (fun rv w1 h1 => ?_)
  obtain ⟨rfl, q1, rfl⟩ := h1
  refine G.aft [1, 2, 3, 4, 5, 0] (ws' := [(o, .inr (14, [.ref h, .ref pp, .ref x2, .ref x3, .ref x4, .ref o2, .ref o4, .ref o9, .ref o7, .ref o0, .ref o1])), (o1, .inr (5, [.ref d1, .int (nI 7)])), (d1, .inr (12, [.ref d2])), (d2, aI k 81 q1), (oo, aJ k 1 (fun _ => (nI (picN 7 (fm 7 mc))).toInt64)), (mo, .inr (15, [.ref e0, .ref c1, .ref c2, .ref c3, .ref c4, .ref c5, .null, .int (nI 0), .int (nI 0), .int 0, .int 0, .int 0]))]) (st' := [.int 0]) (cells' := 300) (slots' := 2000) (g' := 0) (by decide) rfl rfl rfl rfl rfl ?_
  refine g_istore (pc := 1744) C [(6, .int 0), (0, .ref b), (1, .ref o), (2, .ref mo), (3, .ref oo), (4, .ref od), (5, .int (nI 0))] dL_law_1744 (by decide) rfl ?_
  refine g_aload_n (pc := 1746) C 3 rfl rfl dL_law_1746 ?_
  refine g_aload_n (pc := 1747) C 1 rfl rfl dL_law_1747 ?_
  refine g_iload (pc := 1748) C 6 rfl dL_law_1748 ?_
  refine g_iconst (pc := 1750) (v := 1) C (by decide) dL_law_1750 ?_
  refine g_iadd (pc := 1751) C dL_law_1751 ?_
  refine G.eqs (st' := [.int (nI 1), .ref b, .ref mo]) (congrArg (β := List Value) (fun z9 => [.int z9, .ref b, .ref mo]) (show (((nI 0) + 1) : Int32) = (nI 1) from nI_add _ _)) ?_
  refine g_sld (pc := 1752) C hX hbl hbA (j := 1) (by omega) (by omega) rfl dL_law_1752 ?_
  refine G.eqs (st' := [.int (nI 7), .ref mo]) (congrArg (β := List Value) (fun z9 => [.int z9, .ref mo]) (show ((xs 1) : Int32) = (nI 7) from hx1)) ?_
  refine g_aload_n (pc := 1753) C 1 rfl rfl dL_law_1753 ?_
  refine g_iload (pc := 1754) C 6 rfl dL_law_1754 ?_
  refine g_iconst (pc := 1756) (v := 2) C (by decide) dL_law_1756 ?_
  refine g_iadd (pc := 1757) C dL_law_1757 ?_
  refine G.eqs (st' := [.int (nI 2), .ref b, .int (nI 7), .ref mo]) (congrArg (β := List Value) (fun z9 => [.int z9, .ref b, .int (nI 7), .ref mo]) (show (((nI 0) + 2) : Int32) = (nI 2) from nI_add _ _)) ?_
  refine g_sld (pc := 1758) C hX hbl hbA (j := 2) (by omega) (by omega) rfl dL_law_1758 ?_
  refine G.eqs (st' := [.int (nI mc), .int (nI 7), .ref mo]) (congrArg (β := List Value) (fun z9 => [.int z9, .int (nI 7), .ref mo]) (show ((xs 2) : Int32) = (nI mc) from hx2)) ?_
  refine g_callV (pc := 1759) (cells := 300) (slots := 2000) (g := 0) (As := [.int (nI 7), .int (nI mc)]) (st := []) (T := TX11) (q0 := 5) C (nA := 2) rfl (c_X11_picture_s7 mo e0 c1 c2 c3 c4 c5 0 mc (by first | assumption | decide | omega)) q_681 q_682 q_680 q_265 q_679 (by decide +kernel) rfl rfl dL_law_1759 ⟨Nat.le_of_ble_eq_true rfl, Nat.le_of_ble_eq_true rfl⟩ [5] [0, 1, 2, 3, 4] rfl (wr := [(o, .inr (14, [.ref h, .ref pp, .ref x2, .ref x3, .ref x4, .ref o2, .ref o4, .ref o9, .ref o7, .ref o0, .ref o1])), (o1, .inr (5, [.ref d1, .int (nI 7)])), (d1, .inr (12, [.ref d2])), (d2, aI k 81 q1), (oo, aJ k 1 (fun _ => (nI (picN 7 (fm 7 mc))).toInt64))]) rfl (by decide) (by decide) (by decide) (Nat.le_of_ble_eq_true rfl) ⟨Nat.le_of_ble_eq_true rfl, Nat.le_of_ble_eq_true rfl⟩ (fun rv w1 h1 => ?_)
  obtain ⟨rfl, q2, q3, rfl⟩ := h1
  refine G.aft [0, 1, 2, 3, 4, 5, 6] (ws' := [(o, .inr (14, [.ref h, .ref pp, .ref x2, .ref x3, .ref x4, .ref o2, .ref o4, .ref o9, .ref o7, .ref o0, .ref o1])), (o1, .inr (5, [.ref d1, .int (nI 7)])), (d1, .inr (12, [.ref d2])), (d2, aI k 81 q1), (oo, aJ k 1 (fun _ => (nI (picN 7 (fm 7 mc))).toInt64)), (mo, .inr (15, [.ref e0, .ref c1, .ref c2, .ref c3, .ref c4, .ref c5, .ref q2, .int (nI 0), .int (nI 0), .int 0, .int (nI 7), .int 0])), (q2, aI k 49 q3)]) (st' := [.int (nI (picN 7 (fm 7 mc)))]) (cells' := 301) (slots' := 2049) (g' := 1) (by decide) rfl rfl rfl rfl rfl ?_
  refine g_istore (pc := 1762) C [(7, .int (nI (picN 7 (fm 7 mc)))), (6, .int 0), (0, .ref b), (1, .ref o), (2, .ref mo), (3, .ref oo), (4, .ref od), (5, .int (nI 0))] dL_law_1762 (by decide) rfl ?_
  refine g_aload_n (pc := 1764) C 4 rfl rfl dL_law_1764 ?_
  refine g_callV (pc := 1765) (cells := 301) (slots := 2049) (g := 1) (As := []) (st := []) (T := TX11) (q0 := 5) C (nA := 0) rfl (c_X11_thrown_p mo e0 c1 c2 c3 c4 c5 0 (nI 0) (nI 0) 0 (nI 7) q2 ) q_468 q_469 q_467 q_265 q_466 (by decide +kernel) rfl rfl dL_law_1765 ⟨Nat.le_of_ble_eq_true rfl, Nat.le_of_ble_eq_true rfl⟩ [5] [0, 1, 2, 3, 4, 6] rfl (wr := [(o, .inr (14, [.ref h, .ref pp, .ref x2, .ref x3, .ref x4, .ref o2, .ref o4, .ref o9, .ref o7, .ref o0, .ref o1])), (o1, .inr (5, [.ref d1, .int (nI 7)])), (d1, .inr (12, [.ref d2])), (d2, aI k 81 q1), (oo, aJ k 1 (fun _ => (nI (picN 7 (fm 7 mc))).toInt64)), (q2, aI k 49 q3)]) rfl (by decide) (by decide) (by decide) (Nat.le_of_ble_eq_true rfl) ⟨Nat.le_of_ble_eq_true rfl, Nat.le_of_ble_eq_true rfl⟩ (fun rv w1 h1 => ?_)
  obtain ⟨rfl, rfl⟩ := h1
  refine G.aft [0, 1, 2, 3, 4, 6, 5] (ws' := [(o, .inr (14, [.ref h, .ref pp, .ref x2, .ref x3, .ref x4, .ref o2, .ref o4, .ref o9, .ref o7, .ref o0, .ref o1])), (o1, .inr (5, [.ref d1, .int (nI 7)])), (d1, .inr (12, [.ref d2])), (d2, aI k 81 q1), (oo, aJ k 1 (fun _ => (nI (picN 7 (fm 7 mc))).toInt64)), (mo, .inr (15, [.ref e0, .ref c1, .ref c2, .ref c3, .ref c4, .ref c5, .ref q2, .int (nI 0), .int (nI 0), .int 0, .int (nI 7), .int 0])), (q2, aI k 49 q3)]) (st' := [.int 0]) (cells' := 301) (slots' := 2049) (g' := 1) (by decide) rfl rfl rfl rfl rfl ?_
  refine g_iload (pc := 1768) C 1 rfl dL_law_1768 ?_
  refine g_icmp_eq (pc := 1770) C 1775 (by decide) dL_law_1770 (fun c_1770 => ?_) (fun c_1770 => ?_)
  · refine g_iload (pc := 1775) C 1 rfl dL_law_1775 ?_
    refine g_if_ne (pc := 1777) C 1792 (by decide) dL_law_1777 (fun c_1777 => ?_) (fun c_1777 => ?_)
    · exact absurd c_1777 (by decide)
    · refine g_aload_n (pc := 1780) C 5 rfl rfl dL_law_1780 ?_
      refine g_iconst (pc := 1781) (v := 0) C (by decide) dL_law_1781 ?_
      refine g_lald_n (pc := 1782) C (j := 0) 4 rfl (by omega) (by first | decide | omega) rfl dL_law_1782 ?_
      refine g_iload (pc := 1783) C 0 rfl dL_law_1783 ?_
      refine g_i2l (pc := 1785) C dL_law_1785 ?_
      refine g_lcmp (pc := 1786) C dL_law_1786 ?_
      refine g_if_eq (pc := 1787) C 1792 (by decide) dL_law_1787 (fun c_1787 => ?_) (fun c_1787 => ?_)
      · refine g_goto (pc := 1792) C 1995 (by decide) dL_law_1792 ?_
        refine G.re [] (ws' := []) (by decide) rfl ?_
        refine G.loc [2, 7] (lv' := [(0, .ref b), (5, .int (nI 0))]) rfl ?_
        refine G.widen (k' := 400) (n' := 3000) (g' := 0) (by decide) (by decide) (Nat.zero_le _) ?_
        exact law_end C hr hlk hX hbl hbA
      · exact absurd (lg_cmp_e _) c_1787
  · exact absurd c_1770 (by decide)
set_option maxRecDepth 100000 in
set_option maxHeartbeats 1000000 in
theorem law_c30_s9 {p : Program} {l : Launch} {e : Env} {s : State} {m : MethodId} {below : List Frame} {meth : Method} {c : Code} {D : va_G} {k : Nat → ClassId} {b : Nat} {xs : Nat → Int32} (C : Cx p l s m #[Value.ref b] c D k (va_A [] s.heap.size) cL_law RL 9) (hr : meth.sig.returnType = some .boolean) (hlk : meth.locks = false) (hX : va_X b 4 xs s s.heap) (hbl : b < s.heap.size) (hbA : ¬ va_A [] s.heap.size b) (c1 : Nat) (c2 : Nat) (c3 : Nat) (c4 : Nat) (c5 : Nat) (d1 : Nat) (d2 : Nat) (e0 : Nat) (h : Nat) (mo : Nat) (o : Nat) (o0 : Nat) (o1 : Nat) (o2 : Nat) (o4 : Nat) (o7 : Nat) (o9 : Nat) (od : Nat) (oo : Nat) (pp : Nat) (x2 : Nat) (x3 : Nat) (x4 : Nat) (mc : Nat) (hmm : mc ≤ 300) (hx1 : xs 1 = nI 9) (hx2 : xs 2 = nI mc) : G p l e room_1 s m #[Value.ref b] below meth c D 9 (va_A [] s.heap.size) (lw_Z below #[Value.ref b] s) [(o, .inr (14, [.ref h, .ref pp, .ref x2, .ref x3, .ref x4, .ref o2, .ref o4, .ref o9, .ref o7, .ref o0, .ref o1])), (o1, .inr (5, [.ref d1, .int 0])), (d1, .inr (12, [.ref d2])), (d2, aI k 81 (fun _ => 0)), (oo, aJ k 1 (fun _ => 0)), (mo, .inr (15, [.ref e0, .ref c1, .ref c2, .ref c3, .ref c4, .ref c5, .null, .int (nI 0), .int (nI 0), .int 0, .int 0, .int 0]))] [(0, .ref b), (1, .ref o), (2, .ref mo), (3, .ref oo), (4, .ref od), (5, .int (nI 0))] 300 2000 0 1727 [] := by
  refine g_aload_n (pc := 1727) C 1 rfl rfl dL_law_1727 ?_
  refine g_aload_n (pc := 1728) C 0 rfl rfl dL_law_1728 ?_
  refine g_iload (pc := 1729) C 5 rfl dL_law_1729 ?_
  refine g_iconst (pc := 1731) (v := 1) C (by decide) dL_law_1731 ?_
  refine g_iadd (pc := 1732) C dL_law_1732 ?_
  refine G.eqs (st' := [.int (nI 1), .ref b, .ref o]) (congrArg (β := List Value) (fun z9 => [.int z9, .ref b, .ref o]) (show (((nI 0) + 1) : Int32) = (nI 1) from nI_add _ _)) ?_
  refine g_sld (pc := 1733) C hX hbl hbA (j := 1) (by omega) (by omega) rfl dL_law_1733 ?_
  refine G.eqs (st' := [.int (nI 9), .ref o]) (congrArg (β := List Value) (fun z9 => [.int z9, .ref o]) (show ((xs 1) : Int32) = (nI 9) from hx1)) ?_
  refine g_aload_n (pc := 1734) C 0 rfl rfl dL_law_1734 ?_
  refine g_iload (pc := 1735) C 5 rfl dL_law_1735 ?_
  refine g_iconst (pc := 1737) (v := 2) C (by decide) dL_law_1737 ?_
  refine g_iadd (pc := 1738) C dL_law_1738 ?_
  refine G.eqs (st' := [.int (nI 2), .ref b, .int (nI 9), .ref o]) (congrArg (β := List Value) (fun z9 => [.int z9, .ref b, .int (nI 9), .ref o]) (show (((nI 0) + 2) : Int32) = (nI 2) from nI_add _ _)) ?_
  refine g_sld (pc := 1739) C hX hbl hbA (j := 2) (by omega) (by omega) rfl dL_law_1739 ?_
  refine G.eqs (st' := [.int (nI mc), .int (nI 9), .ref o]) (congrArg (β := List Value) (fun z9 => [.int z9, .int (nI 9), .ref o]) (show ((xs 2) : Int32) = (nI mc) from hx2)) ?_
  refine g_aload_n (pc := 1740) C 3 rfl rfl dL_law_1740 ?_
  refine g_callSW (pc := 1741) (cells := 300) (slots := 2000) (g := 0) (As := [.ref o, .int (nI 9), .int (nI mc), .ref oo]) (st := []) (b := 0) C (nA := 4) rfl (c_L_picture_s9 o h pp x2 x3 x4 o2 o4 o9 o7 o0 o1 d1 d2 oo 0 (fun _ => 0) (fun _ => 0) mc (by first | assumption | decide | omega)) q_677 q_678 q_459 q_676 (by decide +kernel) dL_law_1741 ⟨Nat.le_of_ble_eq_true rfl, Nat.le_of_ble_eq_true rfl⟩ [0, 1, 2, 3, 4] [5] rfl (wr := [(mo, .inr (15, [.ref e0, .ref c1, .ref c2, .ref c3, .ref c4, .ref c5, .null, .int (nI 0), .int (nI 0), .int 0, .int 0, .int 0]))]) rfl (by decide) (by decide) (by decide) (Nat.le_of_ble_eq_true rfl) ⟨Nat.le_of_ble_eq_true rfl, Nat.le_of_ble_eq_true rfl⟩ (fun rv w1 h1 => ?_)
  obtain ⟨rfl, q1, rfl⟩ := h1
  refine G.aft [1, 2, 3, 4, 5, 0] (ws' := [(o, .inr (14, [.ref h, .ref pp, .ref x2, .ref x3, .ref x4, .ref o2, .ref o4, .ref o9, .ref o7, .ref o0, .ref o1])), (o1, .inr (5, [.ref d1, .int (nI 9)])), (d1, .inr (12, [.ref d2])), (d2, aI k 81 q1), (oo, aJ k 1 (fun _ => (nI (picN 9 (fm 9 mc))).toInt64)), (mo, .inr (15, [.ref e0, .ref c1, .ref c2, .ref c3, .ref c4, .ref c5, .null, .int (nI 0), .int (nI 0), .int 0, .int 0, .int 0]))]) (st' := [.int 0]) (cells' := 300) (slots' := 2000) (g' := 0) (by decide) rfl rfl rfl rfl rfl ?_
  refine g_istore (pc := 1744) C [(6, .int 0), (0, .ref b), (1, .ref o), (2, .ref mo), (3, .ref oo), (4, .ref od), (5, .int (nI 0))] dL_law_1744 (by decide) rfl ?_
  refine g_aload_n (pc := 1746) C 3 rfl rfl dL_law_1746 ?_
  refine g_aload_n (pc := 1747) C 1 rfl rfl dL_law_1747 ?_
  refine g_iload (pc := 1748) C 6 rfl dL_law_1748 ?_
  refine g_iconst (pc := 1750) (v := 1) C (by decide) dL_law_1750 ?_
  refine g_iadd (pc := 1751) C dL_law_1751 ?_
  refine G.eqs (st' := [.int (nI 1), .ref b, .ref mo]) (congrArg (β := List Value) (fun z9 => [.int z9, .ref b, .ref mo]) (show (((nI 0) + 1) : Int32) = (nI 1) from nI_add _ _)) ?_
  refine g_sld (pc := 1752) C hX hbl hbA (j := 1) (by omega) (by omega) rfl dL_law_1752 ?_
  refine G.eqs (st' := [.int (nI 9), .ref mo]) (congrArg (β := List Value) (fun z9 => [.int z9, .ref mo]) (show ((xs 1) : Int32) = (nI 9) from hx1)) ?_
  refine g_aload_n (pc := 1753) C 1 rfl rfl dL_law_1753 ?_
  refine g_iload (pc := 1754) C 6 rfl dL_law_1754 ?_
  refine g_iconst (pc := 1756) (v := 2) C (by decide) dL_law_1756 ?_
  refine g_iadd (pc := 1757) C dL_law_1757 ?_
  refine G.eqs (st' := [.int (nI 2), .ref b, .int (nI 9), .ref mo]) (congrArg (β := List Value) (fun z9 => [.int z9, .ref b, .int (nI 9), .ref mo]) (show (((nI 0) + 2) : Int32) = (nI 2) from nI_add _ _)) ?_
  refine g_sld (pc := 1758) C hX hbl hbA (j := 2) (by omega) (by omega) rfl dL_law_1758 ?_
  refine G.eqs (st' := [.int (nI mc), .int (nI 9), .ref mo]) (congrArg (β := List Value) (fun z9 => [.int z9, .int (nI 9), .ref mo]) (show ((xs 2) : Int32) = (nI mc) from hx2)) ?_
  refine g_callV (pc := 1759) (cells := 300) (slots := 2000) (g := 0) (As := [.int (nI 9), .int (nI mc)]) (st := []) (T := TX11) (q0 := 5) C (nA := 2) rfl (c_X11_picture_s9 mo e0 c1 c2 c3 c4 c5 0 mc (by first | assumption | decide | omega)) q_681 q_682 q_680 q_265 q_679 (by decide +kernel) rfl rfl dL_law_1759 ⟨Nat.le_of_ble_eq_true rfl, Nat.le_of_ble_eq_true rfl⟩ [5] [0, 1, 2, 3, 4] rfl (wr := [(o, .inr (14, [.ref h, .ref pp, .ref x2, .ref x3, .ref x4, .ref o2, .ref o4, .ref o9, .ref o7, .ref o0, .ref o1])), (o1, .inr (5, [.ref d1, .int (nI 9)])), (d1, .inr (12, [.ref d2])), (d2, aI k 81 q1), (oo, aJ k 1 (fun _ => (nI (picN 9 (fm 9 mc))).toInt64))]) rfl (by decide) (by decide) (by decide) (Nat.le_of_ble_eq_true rfl) ⟨Nat.le_of_ble_eq_true rfl, Nat.le_of_ble_eq_true rfl⟩ (fun rv w1 h1 => ?_)
  obtain ⟨rfl, q2, q3, rfl⟩ := h1
  refine G.aft [0, 1, 2, 3, 4, 5, 6] (ws' := [(o, .inr (14, [.ref h, .ref pp, .ref x2, .ref x3, .ref x4, .ref o2, .ref o4, .ref o9, .ref o7, .ref o0, .ref o1])), (o1, .inr (5, [.ref d1, .int (nI 9)])), (d1, .inr (12, [.ref d2])), (d2, aI k 81 q1), (oo, aJ k 1 (fun _ => (nI (picN 9 (fm 9 mc))).toInt64)), (mo, .inr (15, [.ref e0, .ref c1, .ref c2, .ref c3, .ref c4, .ref c5, .ref q2, .int (nI 0), .int (nI 0), .int 0, .int (nI 9), .int 0])), (q2, aI k 81 q3)]) (st' := [.int (nI (picN 9 (fm 9 mc)))]) (cells' := 301) (slots' := 2081) (g' := 1) (by decide) rfl rfl rfl rfl rfl ?_
  refine g_istore (pc := 1762) C [(7, .int (nI (picN 9 (fm 9 mc)))), (6, .int 0), (0, .ref b), (1, .ref o), (2, .ref mo), (3, .ref oo), (4, .ref od), (5, .int (nI 0))] dL_law_1762 (by decide) rfl ?_
  refine g_aload_n (pc := 1764) C 4 rfl rfl dL_law_1764 ?_
  refine g_callV (pc := 1765) (cells := 301) (slots := 2081) (g := 1) (As := []) (st := []) (T := TX11) (q0 := 5) C (nA := 0) rfl (c_X11_thrown_p mo e0 c1 c2 c3 c4 c5 0 (nI 0) (nI 0) 0 (nI 9) q2 ) q_468 q_469 q_467 q_265 q_466 (by decide +kernel) rfl rfl dL_law_1765 ⟨Nat.le_of_ble_eq_true rfl, Nat.le_of_ble_eq_true rfl⟩ [5] [0, 1, 2, 3, 4, 6] rfl (wr := [(o, .inr (14, [.ref h, .ref pp, .ref x2, .ref x3, .ref x4, .ref o2, .ref o4, .ref o9, .ref o7, .ref o0, .ref o1])), (o1, .inr (5, [.ref d1, .int (nI 9)])), (d1, .inr (12, [.ref d2])), (d2, aI k 81 q1), (oo, aJ k 1 (fun _ => (nI (picN 9 (fm 9 mc))).toInt64)), (q2, aI k 81 q3)]) rfl (by decide) (by decide) (by decide) (Nat.le_of_ble_eq_true rfl) ⟨Nat.le_of_ble_eq_true rfl, Nat.le_of_ble_eq_true rfl⟩ (fun rv w1 h1 => ?_)
  obtain ⟨rfl, rfl⟩ := h1
  refine G.aft [0, 1, 2, 3, 4, 6, 5] (ws' := [(o, .inr (14, [.ref h, .ref pp, .ref x2, .ref x3, .ref x4, .ref o2, .ref o4, .ref o9, .ref o7, .ref o0, .ref o1])), (o1, .inr (5, [.ref d1, .int (nI 9)])), (d1, .inr (12, [.ref d2])), (d2, aI k 81 q1), (oo, aJ k 1 (fun _ => (nI (picN 9 (fm 9 mc))).toInt64)), (mo, .inr (15, [.ref e0, .ref c1, .ref c2, .ref c3, .ref c4, .ref c5, .ref q2, .int (nI 0), .int (nI 0), .int 0, .int (nI 9), .int 0])), (q2, aI k 81 q3)]) (st' := [.int 0]) (cells' := 301) (slots' := 2081) (g' := 1) (by decide) rfl rfl rfl rfl rfl ?_
  refine g_iload (pc := 1768) C 1 rfl dL_law_1768 ?_
  refine g_icmp_eq (pc := 1770) C 1775 (by decide) dL_law_1770 (fun c_1770 => ?_) (fun c_1770 => ?_)
  · refine g_iload (pc := 1775) C 1 rfl dL_law_1775 ?_
    refine g_if_ne (pc := 1777) C 1792 (by decide) dL_law_1777 (fun c_1777 => ?_) (fun c_1777 => ?_)
    · exact absurd c_1777 (by decide)
    · refine g_aload_n (pc := 1780) C 5 rfl rfl dL_law_1780 ?_
      refine g_iconst (pc := 1781) (v := 0) C (by decide) dL_law_1781 ?_
      refine g_lald_n (pc := 1782) C (j := 0) 4 rfl (by omega) (by first | decide | omega) rfl dL_law_1782 ?_
      refine g_iload (pc := 1783) C 0 rfl dL_law_1783 ?_
      refine g_i2l (pc := 1785) C dL_law_1785 ?_
      refine g_lcmp (pc := 1786) C dL_law_1786 ?_
      refine g_if_eq (pc := 1787) C 1792 (by decide) dL_law_1787 (fun c_1787 => ?_) (fun c_1787 => ?_)
      · refine g_goto (pc := 1792) C 1995 (by decide) dL_law_1792 ?_
        refine G.re [] (ws' := []) (by decide) rfl ?_
        refine G.loc [2, 7] (lv' := [(0, .ref b), (5, .int (nI 0))]) rfl ?_
        refine G.widen (k' := 400) (n' := 3000) (g' := 0) (by decide) (by decide) (Nat.zero_le _) ?_
        exact law_end C hr hlk hX hbl hbA
      · exact absurd (lg_cmp_e _) c_1787
  · exact absurd c_1770 (by decide)
set_option maxRecDepth 100000 in
set_option maxHeartbeats 1000000 in
theorem law_c30_x {p : Program} {l : Launch} {e : Env} {s : State} {m : MethodId} {below : List Frame} {meth : Method} {c : Code} {D : va_G} {k : Nat → ClassId} {b : Nat} {xs : Nat → Int32} (C : Cx p l s m #[Value.ref b] c D k (va_A [] s.heap.size) cL_law RL 9) (hr : meth.sig.returnType = some .boolean) (hlk : meth.locks = false) (hX : va_X b 4 xs s s.heap) (hbl : b < s.heap.size) (hbA : ¬ va_A [] s.heap.size b) (c1 : Nat) (c2 : Nat) (c3 : Nat) (c4 : Nat) (c5 : Nat) (e0 : Nat) (h : Nat) (mo : Nat) (o : Nat) (o0 : Nat) (o1 : Nat) (o2 : Nat) (o4 : Nat) (o7 : Nat) (o9 : Nat) (od : Nat) (oo : Nat) (pp : Nat) (x2 : Nat) (x3 : Nat) (x4 : Nat) (hbad : picOk (xs 1) (xs 2) = false) : G p l e room_1 s m #[Value.ref b] below meth c D 9 (va_A [] s.heap.size) (lw_Z below #[Value.ref b] s) [(o, .inr (14, [.ref h, .ref pp, .ref x2, .ref x3, .ref x4, .ref o2, .ref o4, .ref o9, .ref o7, .ref o0, .ref o1])), (oo, aJ k 1 (fun _ => 0)), (mo, .inr (15, [.ref e0, .ref c1, .ref c2, .ref c3, .ref c4, .ref c5, .null, .int (nI 0), .int (nI 0), .int 0, .int 0, .int 0]))] [(0, .ref b), (1, .ref o), (2, .ref mo), (3, .ref oo), (4, .ref od), (5, .int (nI 0))] 300 2000 0 1727 [] := by
  refine g_aload_n (pc := 1727) C 1 rfl rfl dL_law_1727 ?_
  refine g_aload_n (pc := 1728) C 0 rfl rfl dL_law_1728 ?_
  refine g_iload (pc := 1729) C 5 rfl dL_law_1729 ?_
  refine g_iconst (pc := 1731) (v := 1) C (by decide) dL_law_1731 ?_
  refine g_iadd (pc := 1732) C dL_law_1732 ?_
  refine G.eqs (st' := [.int (nI 1), .ref b, .ref o]) (congrArg (β := List Value) (fun z9 => [.int z9, .ref b, .ref o]) (show (((nI 0) + 1) : Int32) = (nI 1) from nI_add _ _)) ?_
  refine g_sld (pc := 1733) C hX hbl hbA (j := 1) (by omega) (by omega) rfl dL_law_1733 ?_
  refine g_aload_n (pc := 1734) C 0 rfl rfl dL_law_1734 ?_
  refine g_iload (pc := 1735) C 5 rfl dL_law_1735 ?_
  refine g_iconst (pc := 1737) (v := 2) C (by decide) dL_law_1737 ?_
  refine g_iadd (pc := 1738) C dL_law_1738 ?_
  refine G.eqs (st' := [.int (nI 2), .ref b, .int (xs 1), .ref o]) (congrArg (β := List Value) (fun z9 => [.int z9, .ref b, .int (xs 1), .ref o]) (show (((nI 0) + 2) : Int32) = (nI 2) from nI_add _ _)) ?_
  refine g_sld (pc := 1739) C hX hbl hbA (j := 2) (by omega) (by omega) rfl dL_law_1739 ?_
  refine g_aload_n (pc := 1740) C 3 rfl rfl dL_law_1740 ?_
  refine g_callSW (pc := 1741) (cells := 300) (slots := 2000) (g := 0) (As := [.ref o, .int (xs 1), .int (xs 2), .ref oo]) (st := []) (b := 0) C (nA := 4) rfl (c_L_picture_x o h pp x2 x3 x4 o2 o4 o9 o7 o0 o1 oo (fun _ => 0) (xs 1) (xs 2) (by first | assumption | decide | omega)) q_677 q_678 q_459 q_676 (by decide +kernel) dL_law_1741 ⟨Nat.le_of_ble_eq_true rfl, Nat.le_of_ble_eq_true rfl⟩ [0, 1] [2] rfl (wr := [(mo, .inr (15, [.ref e0, .ref c1, .ref c2, .ref c3, .ref c4, .ref c5, .null, .int (nI 0), .int (nI 0), .int 0, .int 0, .int 0]))]) rfl (by decide) (by decide) (by decide) (Nat.le_of_ble_eq_true rfl) ⟨Nat.le_of_ble_eq_true rfl, Nat.le_of_ble_eq_true rfl⟩ (fun rv w1 h1 => ?_)
  obtain ⟨rfl, rfl⟩ := h1
  refine G.aft [1, 2, 0] (ws' := [(o, .inr (14, [.ref h, .ref pp, .ref x2, .ref x3, .ref x4, .ref o2, .ref o4, .ref o9, .ref o7, .ref o0, .ref o1])), (oo, aJ k 1 (fun _ => 0)), (mo, .inr (15, [.ref e0, .ref c1, .ref c2, .ref c3, .ref c4, .ref c5, .null, .int (nI 0), .int (nI 0), .int 0, .int 0, .int 0]))]) (st' := [.int 1]) (cells' := 301) (slots' := 2006) (g' := 0) (by decide) rfl rfl rfl rfl rfl ?_
  refine g_istore (pc := 1744) C [(6, .int 1), (0, .ref b), (1, .ref o), (2, .ref mo), (3, .ref oo), (4, .ref od), (5, .int (nI 0))] dL_law_1744 (by decide) rfl ?_
  refine g_aload_n (pc := 1746) C 3 rfl rfl dL_law_1746 ?_
  refine g_aload_n (pc := 1747) C 1 rfl rfl dL_law_1747 ?_
  refine g_iload (pc := 1748) C 6 rfl dL_law_1748 ?_
  refine g_iconst (pc := 1750) (v := 1) C (by decide) dL_law_1750 ?_
  refine g_iadd (pc := 1751) C dL_law_1751 ?_
  refine G.eqs (st' := [.int (nI 1), .ref b, .ref mo]) (congrArg (β := List Value) (fun z9 => [.int z9, .ref b, .ref mo]) (show (((nI 0) + 1) : Int32) = (nI 1) from nI_add _ _)) ?_
  refine g_sld (pc := 1752) C hX hbl hbA (j := 1) (by omega) (by omega) rfl dL_law_1752 ?_
  refine g_aload_n (pc := 1753) C 1 rfl rfl dL_law_1753 ?_
  refine g_iload (pc := 1754) C 6 rfl dL_law_1754 ?_
  refine g_iconst (pc := 1756) (v := 2) C (by decide) dL_law_1756 ?_
  refine g_iadd (pc := 1757) C dL_law_1757 ?_
  refine G.eqs (st' := [.int (nI 2), .ref b, .int (xs 1), .ref mo]) (congrArg (β := List Value) (fun z9 => [.int z9, .ref b, .int (xs 1), .ref mo]) (show (((nI 0) + 2) : Int32) = (nI 2) from nI_add _ _)) ?_
  refine g_sld (pc := 1758) C hX hbl hbA (j := 2) (by omega) (by omega) rfl dL_law_1758 ?_
  refine g_callV (pc := 1759) (cells := 301) (slots := 2006) (g := 0) (As := [.int (xs 1), .int (xs 2)]) (st := []) (T := TX11) (q0 := 2) C (nA := 2) rfl (c_X11_picture_x mo e0 c1 c2 c3 c4 c5 0 (xs 1) (xs 2) ((picOkR_eq _ _).trans hbad)) q_681 q_682 q_680 q_265 q_679 (by decide +kernel) rfl rfl dL_law_1759 ⟨Nat.le_of_ble_eq_true rfl, Nat.le_of_ble_eq_true rfl⟩ [2] [0, 1] rfl (wr := [(o, .inr (14, [.ref h, .ref pp, .ref x2, .ref x3, .ref x4, .ref o2, .ref o4, .ref o9, .ref o7, .ref o0, .ref o1])), (oo, aJ k 1 (fun _ => 0))]) rfl (by decide) (by decide) (by decide) (Nat.le_of_ble_eq_true rfl) ⟨Nat.le_of_ble_eq_true rfl, Nat.le_of_ble_eq_true rfl⟩ (fun rv w1 h1 => ?_)
  obtain ⟨rfl, rfl⟩ := h1
  refine G.aft [0, 1, 2] (ws' := [(o, .inr (14, [.ref h, .ref pp, .ref x2, .ref x3, .ref x4, .ref o2, .ref o4, .ref o9, .ref o7, .ref o0, .ref o1])), (oo, aJ k 1 (fun _ => 0)), (mo, .inr (15, [.ref e0, .ref c1, .ref c2, .ref c3, .ref c4, .ref c5, .null, .int (nI 0), .int (nI 0), .int 0, .int 0, .int 1]))]) (st' := [.int 0]) (cells' := 301) (slots' := 2006) (g' := 0) (by decide) rfl rfl rfl rfl rfl ?_
  refine g_istore (pc := 1762) C [(7, .int 0), (6, .int 1), (0, .ref b), (1, .ref o), (2, .ref mo), (3, .ref oo), (4, .ref od), (5, .int (nI 0))] dL_law_1762 (by decide) rfl ?_
  refine g_aload_n (pc := 1764) C 4 rfl rfl dL_law_1764 ?_
  refine g_callV (pc := 1765) (cells := 301) (slots := 2006) (g := 0) (As := []) (st := []) (T := TX11) (q0 := 2) C (nA := 0) rfl (c_X11_thrown mo e0 c1 c2 c3 c4 c5 1 (nI 0) (nI 0) 0 0 ) q_468 q_469 q_467 q_265 q_466 (by decide +kernel) rfl rfl dL_law_1765 ⟨Nat.le_of_ble_eq_true rfl, Nat.le_of_ble_eq_true rfl⟩ [2] [0, 1] rfl (wr := [(o, .inr (14, [.ref h, .ref pp, .ref x2, .ref x3, .ref x4, .ref o2, .ref o4, .ref o9, .ref o7, .ref o0, .ref o1])), (oo, aJ k 1 (fun _ => 0))]) rfl (by decide) (by decide) (by decide) (Nat.le_of_ble_eq_true rfl) ⟨Nat.le_of_ble_eq_true rfl, Nat.le_of_ble_eq_true rfl⟩ (fun rv w1 h1 => ?_)
  obtain ⟨rfl, rfl⟩ := h1
  refine G.aft [0, 1, 2] (ws' := [(o, .inr (14, [.ref h, .ref pp, .ref x2, .ref x3, .ref x4, .ref o2, .ref o4, .ref o9, .ref o7, .ref o0, .ref o1])), (oo, aJ k 1 (fun _ => 0)), (mo, .inr (15, [.ref e0, .ref c1, .ref c2, .ref c3, .ref c4, .ref c5, .null, .int (nI 0), .int (nI 0), .int 0, .int 0, .int 1]))]) (st' := [.int 1]) (cells' := 301) (slots' := 2006) (g' := 0) (by decide) rfl rfl rfl rfl rfl ?_
  refine g_iload (pc := 1768) C 1 rfl dL_law_1768 ?_
  refine g_icmp_eq (pc := 1770) C 1775 (by decide) dL_law_1770 (fun c_1770 => ?_) (fun c_1770 => ?_)
  · refine g_iload (pc := 1775) C 1 rfl dL_law_1775 ?_
    refine g_if_ne (pc := 1777) C 1792 (by decide) dL_law_1777 (fun c_1777 => ?_) (fun c_1777 => ?_)
    · refine g_goto (pc := 1792) C 1995 (by decide) dL_law_1792 ?_
      refine G.re [] (ws' := []) (by decide) rfl ?_
      refine G.loc [2, 7] (lv' := [(0, .ref b), (5, .int (nI 0))]) rfl ?_
      refine G.widen (k' := 400) (n' := 3000) (g' := 0) (by decide) (by decide) (Nat.zero_le _) ?_
      exact law_end C hr hlk hX hbl hbA
    · exact absurd c_1777 (by decide)
  · exact absurd c_1770 (by decide)
set_option maxRecDepth 100000 in
set_option maxHeartbeats 1000000 in
theorem law_c31 {p : Program} {l : Launch} {e : Env} {s : State} {m : MethodId} {below : List Frame} {meth : Method} {c : Code} {D : va_G} {k : Nat → ClassId} {b : Nat} {xs : Nat → Int32} (C : Cx p l s m #[Value.ref b] c D k (va_A [] s.heap.size) cL_law RL 9) (hr : meth.sig.returnType = some .boolean) (hlk : meth.locks = false) (hX : va_X b 4 xs s s.heap) (hbl : b < s.heap.size) (hbA : ¬ va_A [] s.heap.size b) (c1 : Nat) (c2 : Nat) (c3 : Nat) (c4 : Nat) (c5 : Nat) (d1 : Nat) (e0 : Nat) (h : Nat) (mo : Nat) (o : Nat) (o0 : Nat) (o1 : Nat) (o2 : Nat) (o4 : Nat) (o7 : Nat) (o9 : Nat) (od : Nat) (oo : Nat) (pp : Nat) (x2 : Nat) (x3 : Nat) (x4 : Nat)  : G p l e room_1 s m #[Value.ref b] below meth c D 9 (va_A [] s.heap.size) (lw_Z below #[Value.ref b] s) [(o, .inr (14, [.ref h, .ref pp, .ref x2, .ref x3, .ref x4, .ref o2, .ref o4, .ref o9, .ref o7, .ref o0, .ref o1])), (o1, .inr (5, [.ref d1, .int 0])), (oo, aJ k 1 (fun _ => 0)), (mo, .inr (15, [.ref e0, .ref c1, .ref c2, .ref c3, .ref c4, .ref c5, .null, .int (nI 0), .int (nI 0), .int 0, .int 0, .int 0]))] [(0, .ref b), (1, .ref o), (2, .ref mo), (3, .ref oo), (4, .ref od), (5, .int (nI 0))] 300 2000 0 1795 [] := by
  refine g_aload_n (pc := 1795) C 1 rfl rfl dL_law_1795 ?_
  refine g_aload_n (pc := 1796) C 0 rfl rfl dL_law_1796 ?_
  refine g_iload (pc := 1797) C 5 rfl dL_law_1797 ?_
  refine g_iconst (pc := 1799) (v := 1) C (by decide) dL_law_1799 ?_
  refine g_iadd (pc := 1800) C dL_law_1800 ?_
  refine G.eqs (st' := [.int (nI 1), .ref b, .ref o]) (congrArg (β := List Value) (fun z9 => [.int z9, .ref b, .ref o]) (show (((nI 0) + 1) : Int32) = (nI 1) from nI_add _ _)) ?_
  refine g_sld (pc := 1801) C hX hbl hbA (j := 1) (by omega) (by omega) rfl dL_law_1801 ?_
  refine g_aload_n (pc := 1802) C 3 rfl rfl dL_law_1802 ?_
  refine g_callSW (pc := 1803) (cells := 300) (slots := 2000) (g := 0) (As := [.ref o, .int (xs 1), .ref oo]) (st := []) (b := 0) C (nA := 3) rfl (c_L_pixel_z o h pp x2 x3 x4 o2 o4 o9 o7 o0 o1 d1 oo (fun _ => 0) (xs 1) ) q_684 q_685 q_459 q_683 (by decide +kernel) dL_law_1803 ⟨Nat.le_of_ble_eq_true rfl, Nat.le_of_ble_eq_true rfl⟩ [0, 1, 2] [3] rfl (wr := [(mo, .inr (15, [.ref e0, .ref c1, .ref c2, .ref c3, .ref c4, .ref c5, .null, .int (nI 0), .int (nI 0), .int 0, .int 0, .int 0]))]) rfl (by decide) (by decide) (by decide) (Nat.le_of_ble_eq_true rfl) ⟨Nat.le_of_ble_eq_true rfl, Nat.le_of_ble_eq_true rfl⟩ (fun rv w1 h1 => ?_)
  obtain ⟨rfl, rfl⟩ := h1
  refine G.aft [1, 2, 3, 0] (ws' := [(o, .inr (14, [.ref h, .ref pp, .ref x2, .ref x3, .ref x4, .ref o2, .ref o4, .ref o9, .ref o7, .ref o0, .ref o1])), (o1, .inr (5, [.ref d1, .int 0])), (oo, aJ k 1 (fun _ => 0)), (mo, .inr (15, [.ref e0, .ref c1, .ref c2, .ref c3, .ref c4, .ref c5, .null, .int (nI 0), .int (nI 0), .int 0, .int 0, .int 0]))]) (st' := [.int 1]) (cells' := 301) (slots' := 2006) (g' := 0) (by decide) rfl rfl rfl rfl rfl ?_
  refine g_istore (pc := 1806) C [(6, .int 1), (0, .ref b), (1, .ref o), (2, .ref mo), (3, .ref oo), (4, .ref od), (5, .int (nI 0))] dL_law_1806 (by decide) rfl ?_
  refine g_aload_n (pc := 1808) C 3 rfl rfl dL_law_1808 ?_
  refine g_aload_n (pc := 1809) C 1 rfl rfl dL_law_1809 ?_
  refine g_iload (pc := 1810) C 6 rfl dL_law_1810 ?_
  refine g_iconst (pc := 1812) (v := 1) C (by decide) dL_law_1812 ?_
  refine g_iadd (pc := 1813) C dL_law_1813 ?_
  refine G.eqs (st' := [.int (nI 1), .ref b, .ref mo]) (congrArg (β := List Value) (fun z9 => [.int z9, .ref b, .ref mo]) (show (((nI 0) + 1) : Int32) = (nI 1) from nI_add _ _)) ?_
  refine g_sld (pc := 1814) C hX hbl hbA (j := 1) (by omega) (by omega) rfl dL_law_1814 ?_
  refine g_callV (pc := 1815) (cells := 301) (slots := 2006) (g := 0) (As := [.int (xs 1)]) (st := []) (T := TX11) (q0 := 3) C (nA := 1) rfl (c_X11_pixel_z mo e0 c1 c2 c3 c4 c5 0 (xs 1) ) q_688 q_689 q_687 q_265 q_686 (by decide +kernel) rfl rfl dL_law_1815 ⟨Nat.le_of_ble_eq_true rfl, Nat.le_of_ble_eq_true rfl⟩ [3] [0, 1, 2] rfl (wr := [(o, .inr (14, [.ref h, .ref pp, .ref x2, .ref x3, .ref x4, .ref o2, .ref o4, .ref o9, .ref o7, .ref o0, .ref o1])), (o1, .inr (5, [.ref d1, .int 0])), (oo, aJ k 1 (fun _ => 0))]) rfl (by decide) (by decide) (by decide) (Nat.le_of_ble_eq_true rfl) ⟨Nat.le_of_ble_eq_true rfl, Nat.le_of_ble_eq_true rfl⟩ (fun rv w1 h1 => ?_)
  obtain ⟨rfl, rfl⟩ := h1
  refine G.aft [0, 1, 2, 3] (ws' := [(o, .inr (14, [.ref h, .ref pp, .ref x2, .ref x3, .ref x4, .ref o2, .ref o4, .ref o9, .ref o7, .ref o0, .ref o1])), (o1, .inr (5, [.ref d1, .int 0])), (oo, aJ k 1 (fun _ => 0)), (mo, .inr (15, [.ref e0, .ref c1, .ref c2, .ref c3, .ref c4, .ref c5, .null, .int (nI 0), .int (nI 0), .int 0, .int 0, .int 1]))]) (st' := [.int 0]) (cells' := 301) (slots' := 2006) (g' := 0) (by decide) rfl rfl rfl rfl rfl ?_
  refine g_istore (pc := 1818) C [(7, .int 0), (6, .int 1), (0, .ref b), (1, .ref o), (2, .ref mo), (3, .ref oo), (4, .ref od), (5, .int (nI 0))] dL_law_1818 (by decide) rfl ?_
  refine g_aload_n (pc := 1820) C 4 rfl rfl dL_law_1820 ?_
  refine g_callV (pc := 1821) (cells := 301) (slots := 2006) (g := 0) (As := []) (st := []) (T := TX11) (q0 := 3) C (nA := 0) rfl (c_X11_thrown mo e0 c1 c2 c3 c4 c5 1 (nI 0) (nI 0) 0 0 ) q_468 q_469 q_467 q_265 q_466 (by decide +kernel) rfl rfl dL_law_1821 ⟨Nat.le_of_ble_eq_true rfl, Nat.le_of_ble_eq_true rfl⟩ [3] [0, 1, 2] rfl (wr := [(o, .inr (14, [.ref h, .ref pp, .ref x2, .ref x3, .ref x4, .ref o2, .ref o4, .ref o9, .ref o7, .ref o0, .ref o1])), (o1, .inr (5, [.ref d1, .int 0])), (oo, aJ k 1 (fun _ => 0))]) rfl (by decide) (by decide) (by decide) (Nat.le_of_ble_eq_true rfl) ⟨Nat.le_of_ble_eq_true rfl, Nat.le_of_ble_eq_true rfl⟩ (fun rv w1 h1 => ?_)
  obtain ⟨rfl, rfl⟩ := h1
  refine G.aft [0, 1, 2, 3] (ws' := [(o, .inr (14, [.ref h, .ref pp, .ref x2, .ref x3, .ref x4, .ref o2, .ref o4, .ref o9, .ref o7, .ref o0, .ref o1])), (o1, .inr (5, [.ref d1, .int 0])), (oo, aJ k 1 (fun _ => 0)), (mo, .inr (15, [.ref e0, .ref c1, .ref c2, .ref c3, .ref c4, .ref c5, .null, .int (nI 0), .int (nI 0), .int 0, .int 0, .int 1]))]) (st' := [.int 1]) (cells' := 301) (slots' := 2006) (g' := 0) (by decide) rfl rfl rfl rfl rfl ?_
  refine g_iload (pc := 1824) C 1 rfl dL_law_1824 ?_
  refine g_icmp_eq (pc := 1826) C 1831 (by decide) dL_law_1826 (fun c_1826 => ?_) (fun c_1826 => ?_)
  · refine g_iload (pc := 1831) C 1 rfl dL_law_1831 ?_
    refine g_if_ne (pc := 1833) C 1848 (by decide) dL_law_1833 (fun c_1833 => ?_) (fun c_1833 => ?_)
    · refine g_goto (pc := 1848) C 1995 (by decide) dL_law_1848 ?_
      refine G.re [] (ws' := []) (by decide) rfl ?_
      refine G.loc [2, 7] (lv' := [(0, .ref b), (5, .int (nI 0))]) rfl ?_
      refine G.widen (k' := 400) (n' := 3000) (g' := 0) (by decide) (by decide) (Nat.zero_le _) ?_
      exact law_end C hr hlk hX hbl hbA
    · exact absurd c_1833 (by decide)
  · exact absurd c_1826 (by decide)
set_option maxRecDepth 100000 in
set_option maxHeartbeats 1000000 in
theorem law_c32 {p : Program} {l : Launch} {e : Env} {s : State} {m : MethodId} {below : List Frame} {meth : Method} {c : Code} {D : va_G} {k : Nat → ClassId} {b : Nat} {xs : Nat → Int32} (C : Cx p l s m #[Value.ref b] c D k (va_A [] s.heap.size) cL_law RL 9) (hr : meth.sig.returnType = some .boolean) (hlk : meth.locks = false) (hX : va_X b 4 xs s s.heap) (hbl : b < s.heap.size) (hbA : ¬ va_A [] s.heap.size b) (c1 : Nat) (c2 : Nat) (c3 : Nat) (c4 : Nat) (c5 : Nat) (dd : Nat) (e0 : Nat) (h : Nat) (jj : Nat) (mo : Nat) (o : Nat) (o0 : Nat) (o1 : Nat) (o2 : Nat) (o4 : Nat) (o7 : Nat) (o9 : Nat) (od : Nat) (oo : Nat) (pp : Nat) (x2 : Nat) (x3 : Nat) (x4 : Nat)  : G p l e room_1 s m #[Value.ref b] below meth c D 9 (va_A [] s.heap.size) (lw_Z below #[Value.ref b] s) [(o, .inr (14, [.ref h, .ref pp, .ref x2, .ref x3, .ref x4, .ref o2, .ref o4, .ref o9, .ref o7, .ref o0, .ref o1])), (h, .inr (7, [.ref jj, .ref dd, .int (nI 0), .int (nI 0)])), (jj, aI k 36 (fun _ => 0)), (dd, aI k 6 (fun _ => 0)), (od, aD k 1 (fun _ => 0)), (mo, .inr (15, [.ref e0, .ref c1, .ref c2, .ref c3, .ref c4, .ref c5, .null, .int (nI 0), .int (nI 0), .int 0, .int 0, .int 0]))] [(0, .ref b), (1, .ref o), (2, .ref mo), (3, .ref oo), (4, .ref od), (5, .int (nI 0))] 300 2000 0 1851 [] := by
  refine g_aload_n (pc := 1851) C 1 rfl rfl dL_law_1851 ?_
  refine g_aload (pc := 1852) C 4 rfl dL_law_1852 ?_
  refine g_callSW (pc := 1854) (cells := 300) (slots := 2000) (g := 0) (As := [.ref o, .ref od]) (st := []) (b := 0) C (nA := 2) rfl (c_L_settledShare_z o h pp x2 x3 x4 o2 o4 o9 o7 o0 o1 jj dd od (fun _ => 0) ) q_691 q_692 q_459 q_690 (by decide +kernel) dL_law_1854 ⟨Nat.le_of_ble_eq_true rfl, Nat.le_of_ble_eq_true rfl⟩ [0, 1, 2, 3, 4] [5] rfl (wr := [(mo, .inr (15, [.ref e0, .ref c1, .ref c2, .ref c3, .ref c4, .ref c5, .null, .int (nI 0), .int (nI 0), .int 0, .int 0, .int 0]))]) rfl (by decide) (by decide) (by decide) (Nat.le_of_ble_eq_true rfl) ⟨Nat.le_of_ble_eq_true rfl, Nat.le_of_ble_eq_true rfl⟩ (fun rv w1 h1 => ?_)
  obtain ⟨rfl, rfl⟩ := h1
  refine G.aft [1, 2, 3, 4, 5, 0] (ws' := [(o, .inr (14, [.ref h, .ref pp, .ref x2, .ref x3, .ref x4, .ref o2, .ref o4, .ref o9, .ref o7, .ref o0, .ref o1])), (h, .inr (7, [.ref jj, .ref dd, .int (nI 0), .int (nI 0)])), (jj, aI k 36 (fun _ => 0)), (dd, aI k 6 (fun _ => 0)), (od, aD k 1 (fun _ => 0)), (mo, .inr (15, [.ref e0, .ref c1, .ref c2, .ref c3, .ref c4, .ref c5, .null, .int (nI 0), .int (nI 0), .int 0, .int 0, .int 0]))]) (st' := [.int 1]) (cells' := 301) (slots' := 2006) (g' := 0) (by decide) rfl rfl rfl rfl rfl ?_
  refine g_istore (pc := 1857) C [(6, .int 1), (0, .ref b), (1, .ref o), (2, .ref mo), (3, .ref oo), (4, .ref od), (5, .int (nI 0))] dL_law_1857 (by decide) rfl ?_
  refine g_aload_n (pc := 1859) C 3 rfl rfl dL_law_1859 ?_
  refine g_callV (pc := 1860) (cells := 301) (slots := 2006) (g := 0) (As := []) (st := []) (T := TX11) (q0 := 5) C (nA := 0) rfl (c_X11_settledShare_z mo e0 c1 c2 c3 c4 c5 0 ) q_695 q_696 q_694 q_265 q_693 (by decide +kernel) rfl rfl dL_law_1860 ⟨Nat.le_of_ble_eq_true rfl, Nat.le_of_ble_eq_true rfl⟩ [5] [0, 1, 2, 3, 4] rfl (wr := [(o, .inr (14, [.ref h, .ref pp, .ref x2, .ref x3, .ref x4, .ref o2, .ref o4, .ref o9, .ref o7, .ref o0, .ref o1])), (h, .inr (7, [.ref jj, .ref dd, .int (nI 0), .int (nI 0)])), (jj, aI k 36 (fun _ => 0)), (dd, aI k 6 (fun _ => 0)), (od, aD k 1 (fun _ => 0))]) rfl (by decide) (by decide) (by decide) (Nat.le_of_ble_eq_true rfl) ⟨Nat.le_of_ble_eq_true rfl, Nat.le_of_ble_eq_true rfl⟩ (fun rv w1 h1 => ?_)
  obtain ⟨rfl, rfl⟩ := h1
  refine G.aft [0, 1, 2, 3, 4, 5] (ws' := [(o, .inr (14, [.ref h, .ref pp, .ref x2, .ref x3, .ref x4, .ref o2, .ref o4, .ref o9, .ref o7, .ref o0, .ref o1])), (h, .inr (7, [.ref jj, .ref dd, .int (nI 0), .int (nI 0)])), (jj, aI k 36 (fun _ => 0)), (dd, aI k 6 (fun _ => 0)), (od, aD k 1 (fun _ => 0)), (mo, .inr (15, [.ref e0, .ref c1, .ref c2, .ref c3, .ref c4, .ref c5, .null, .int (nI 0), .int (nI 0), .int 0, .int 0, .int 1]))]) (st' := [.float 0]) (cells' := 301) (slots' := 2006) (g' := 0) (by decide) rfl rfl rfl rfl rfl ?_
  refine g_fstore (pc := 1863) C [(7, .float 0), (6, .int 1), (0, .ref b), (1, .ref o), (2, .ref mo), (3, .ref oo), (4, .ref od), (5, .int (nI 0))] dL_law_1863 (by decide) rfl ?_
  refine g_aload_n (pc := 1865) C 4 rfl rfl dL_law_1865 ?_
  refine g_callV (pc := 1866) (cells := 301) (slots := 2006) (g := 0) (As := []) (st := []) (T := TX11) (q0 := 5) C (nA := 0) rfl (c_X11_thrown mo e0 c1 c2 c3 c4 c5 1 (nI 0) (nI 0) 0 0 ) q_468 q_469 q_467 q_265 q_466 (by decide +kernel) rfl rfl dL_law_1866 ⟨Nat.le_of_ble_eq_true rfl, Nat.le_of_ble_eq_true rfl⟩ [5] [0, 1, 2, 3, 4] rfl (wr := [(o, .inr (14, [.ref h, .ref pp, .ref x2, .ref x3, .ref x4, .ref o2, .ref o4, .ref o9, .ref o7, .ref o0, .ref o1])), (h, .inr (7, [.ref jj, .ref dd, .int (nI 0), .int (nI 0)])), (jj, aI k 36 (fun _ => 0)), (dd, aI k 6 (fun _ => 0)), (od, aD k 1 (fun _ => 0))]) rfl (by decide) (by decide) (by decide) (Nat.le_of_ble_eq_true rfl) ⟨Nat.le_of_ble_eq_true rfl, Nat.le_of_ble_eq_true rfl⟩ (fun rv w1 h1 => ?_)
  obtain ⟨rfl, rfl⟩ := h1
  refine G.aft [0, 1, 2, 3, 4, 5] (ws' := [(o, .inr (14, [.ref h, .ref pp, .ref x2, .ref x3, .ref x4, .ref o2, .ref o4, .ref o9, .ref o7, .ref o0, .ref o1])), (h, .inr (7, [.ref jj, .ref dd, .int (nI 0), .int (nI 0)])), (jj, aI k 36 (fun _ => 0)), (dd, aI k 6 (fun _ => 0)), (od, aD k 1 (fun _ => 0)), (mo, .inr (15, [.ref e0, .ref c1, .ref c2, .ref c3, .ref c4, .ref c5, .null, .int (nI 0), .int (nI 0), .int 0, .int 0, .int 1]))]) (st' := [.int 1]) (cells' := 301) (slots' := 2006) (g' := 0) (by decide) rfl rfl rfl rfl rfl ?_
  refine g_iload (pc := 1869) C 1 rfl dL_law_1869 ?_
  refine g_icmp_eq (pc := 1871) C 1876 (by decide) dL_law_1871 (fun c_1871 => ?_) (fun c_1871 => ?_)
  · refine g_iload (pc := 1876) C 1 rfl dL_law_1876 ?_
    refine g_if_ne (pc := 1878) C 1914 (by decide) dL_law_1878 (fun c_1878 => ?_) (fun c_1878 => ?_)
    · refine g_goto (pc := 1914) C 1995 (by decide) dL_law_1914 ?_
      refine G.re [] (ws' := []) (by decide) rfl ?_
      refine G.loc [2, 7] (lv' := [(0, .ref b), (5, .int (nI 0))]) rfl ?_
      refine G.widen (k' := 400) (n' := 3000) (g' := 0) (by decide) (by decide) (Nat.zero_le _) ?_
      exact law_end C hr hlk hX hbl hbA
    · exact absurd c_1878 (by decide)
  · exact absurd c_1871 (by decide)
set_option maxRecDepth 100000 in
set_option maxHeartbeats 1000000 in
theorem law_c33 {p : Program} {l : Launch} {e : Env} {s : State} {m : MethodId} {below : List Frame} {meth : Method} {c : Code} {D : va_G} {k : Nat → ClassId} {b : Nat} {xs : Nat → Int32} (C : Cx p l s m #[Value.ref b] c D k (va_A [] s.heap.size) cL_law RL 9) (hr : meth.sig.returnType = some .boolean) (hlk : meth.locks = false) (hX : va_X b 4 xs s s.heap) (hbl : b < s.heap.size) (hbA : ¬ va_A [] s.heap.size b) (c1 : Nat) (c2 : Nat) (c3 : Nat) (c4 : Nat) (c5 : Nat) (dd : Nat) (e0 : Nat) (h : Nat) (jj : Nat) (mo : Nat) (o : Nat) (o0 : Nat) (o1 : Nat) (o2 : Nat) (o4 : Nat) (o7 : Nat) (o9 : Nat) (od : Nat) (oo : Nat) (pp : Nat) (x2 : Nat) (x3 : Nat) (x4 : Nat)  : G p l e room_1 s m #[Value.ref b] below meth c D 9 (va_A [] s.heap.size) (lw_Z below #[Value.ref b] s) [(o, .inr (14, [.ref h, .ref pp, .ref x2, .ref x3, .ref x4, .ref o2, .ref o4, .ref o9, .ref o7, .ref o0, .ref o1])), (h, .inr (7, [.ref jj, .ref dd, .int (nI 0), .int (nI 0)])), (jj, aI k 36 (fun _ => 0)), (dd, aI k 6 (fun _ => 0)), (od, aD k 1 (fun _ => 0)), (mo, .inr (15, [.ref e0, .ref c1, .ref c2, .ref c3, .ref c4, .ref c5, .null, .int (nI 0), .int (nI 0), .int 0, .int 0, .int 0]))] [(0, .ref b), (1, .ref o), (2, .ref mo), (3, .ref oo), (4, .ref od), (5, .int (nI 0))] 300 2000 0 1917 [] := by
  refine g_aload_n (pc := 1917) C 1 rfl rfl dL_law_1917 ?_
  refine g_aload (pc := 1918) C 4 rfl dL_law_1918 ?_
  refine g_callSW (pc := 1920) (cells := 300) (slots := 2000) (g := 0) (As := [.ref o, .ref od]) (st := []) (b := 0) C (nA := 2) rfl (c_L_meanChips_z o h pp x2 x3 x4 o2 o4 o9 o7 o0 o1 jj dd od (fun _ => 0) ) q_698 q_699 q_459 q_697 (by decide +kernel) dL_law_1920 ⟨Nat.le_of_ble_eq_true rfl, Nat.le_of_ble_eq_true rfl⟩ [0, 1, 2, 3, 4] [5] rfl (wr := [(mo, .inr (15, [.ref e0, .ref c1, .ref c2, .ref c3, .ref c4, .ref c5, .null, .int (nI 0), .int (nI 0), .int 0, .int 0, .int 0]))]) rfl (by decide) (by decide) (by decide) (Nat.le_of_ble_eq_true rfl) ⟨Nat.le_of_ble_eq_true rfl, Nat.le_of_ble_eq_true rfl⟩ (fun rv w1 h1 => ?_)
  obtain ⟨rfl, rfl⟩ := h1
  refine G.aft [1, 2, 3, 4, 5, 0] (ws' := [(o, .inr (14, [.ref h, .ref pp, .ref x2, .ref x3, .ref x4, .ref o2, .ref o4, .ref o9, .ref o7, .ref o0, .ref o1])), (h, .inr (7, [.ref jj, .ref dd, .int (nI 0), .int (nI 0)])), (jj, aI k 36 (fun _ => 0)), (dd, aI k 6 (fun _ => 0)), (od, aD k 1 (fun _ => 0)), (mo, .inr (15, [.ref e0, .ref c1, .ref c2, .ref c3, .ref c4, .ref c5, .null, .int (nI 0), .int (nI 0), .int 0, .int 0, .int 0]))]) (st' := [.int 1]) (cells' := 301) (slots' := 2006) (g' := 0) (by decide) rfl rfl rfl rfl rfl ?_
  refine g_istore (pc := 1923) C [(6, .int 1), (0, .ref b), (1, .ref o), (2, .ref mo), (3, .ref oo), (4, .ref od), (5, .int (nI 0))] dL_law_1923 (by decide) rfl ?_
  refine g_aload_n (pc := 1925) C 3 rfl rfl dL_law_1925 ?_
  refine g_callV (pc := 1926) (cells := 301) (slots := 2006) (g := 0) (As := []) (st := []) (T := TX11) (q0 := 5) C (nA := 0) rfl (c_X11_meanChips_z mo e0 c1 c2 c3 c4 c5 0 ) q_702 q_703 q_701 q_265 q_700 (by decide +kernel) rfl rfl dL_law_1926 ⟨Nat.le_of_ble_eq_true rfl, Nat.le_of_ble_eq_true rfl⟩ [5] [0, 1, 2, 3, 4] rfl (wr := [(o, .inr (14, [.ref h, .ref pp, .ref x2, .ref x3, .ref x4, .ref o2, .ref o4, .ref o9, .ref o7, .ref o0, .ref o1])), (h, .inr (7, [.ref jj, .ref dd, .int (nI 0), .int (nI 0)])), (jj, aI k 36 (fun _ => 0)), (dd, aI k 6 (fun _ => 0)), (od, aD k 1 (fun _ => 0))]) rfl (by decide) (by decide) (by decide) (Nat.le_of_ble_eq_true rfl) ⟨Nat.le_of_ble_eq_true rfl, Nat.le_of_ble_eq_true rfl⟩ (fun rv w1 h1 => ?_)
  obtain ⟨rfl, rfl⟩ := h1
  refine G.aft [0, 1, 2, 3, 4, 5] (ws' := [(o, .inr (14, [.ref h, .ref pp, .ref x2, .ref x3, .ref x4, .ref o2, .ref o4, .ref o9, .ref o7, .ref o0, .ref o1])), (h, .inr (7, [.ref jj, .ref dd, .int (nI 0), .int (nI 0)])), (jj, aI k 36 (fun _ => 0)), (dd, aI k 6 (fun _ => 0)), (od, aD k 1 (fun _ => 0)), (mo, .inr (15, [.ref e0, .ref c1, .ref c2, .ref c3, .ref c4, .ref c5, .null, .int (nI 0), .int (nI 0), .int 0, .int 0, .int 1]))]) (st' := [.double 0]) (cells' := 301) (slots' := 2006) (g' := 0) (by decide) rfl rfl rfl rfl rfl ?_
  refine g_dstore (pc := 1929) C [(7, .double 0), (6, .int 1), (0, .ref b), (1, .ref o), (2, .ref mo), (3, .ref oo), (4, .ref od), (5, .int (nI 0))] dL_law_1929 (by decide) rfl ?_
  refine g_aload_n (pc := 1931) C 4 rfl rfl dL_law_1931 ?_
  refine g_callV (pc := 1932) (cells := 301) (slots := 2006) (g := 0) (As := []) (st := []) (T := TX11) (q0 := 5) C (nA := 0) rfl (c_X11_thrown mo e0 c1 c2 c3 c4 c5 1 (nI 0) (nI 0) 0 0 ) q_468 q_469 q_467 q_265 q_466 (by decide +kernel) rfl rfl dL_law_1932 ⟨Nat.le_of_ble_eq_true rfl, Nat.le_of_ble_eq_true rfl⟩ [5] [0, 1, 2, 3, 4] rfl (wr := [(o, .inr (14, [.ref h, .ref pp, .ref x2, .ref x3, .ref x4, .ref o2, .ref o4, .ref o9, .ref o7, .ref o0, .ref o1])), (h, .inr (7, [.ref jj, .ref dd, .int (nI 0), .int (nI 0)])), (jj, aI k 36 (fun _ => 0)), (dd, aI k 6 (fun _ => 0)), (od, aD k 1 (fun _ => 0))]) rfl (by decide) (by decide) (by decide) (Nat.le_of_ble_eq_true rfl) ⟨Nat.le_of_ble_eq_true rfl, Nat.le_of_ble_eq_true rfl⟩ (fun rv w1 h1 => ?_)
  obtain ⟨rfl, rfl⟩ := h1
  refine G.aft [0, 1, 2, 3, 4, 5] (ws' := [(o, .inr (14, [.ref h, .ref pp, .ref x2, .ref x3, .ref x4, .ref o2, .ref o4, .ref o9, .ref o7, .ref o0, .ref o1])), (h, .inr (7, [.ref jj, .ref dd, .int (nI 0), .int (nI 0)])), (jj, aI k 36 (fun _ => 0)), (dd, aI k 6 (fun _ => 0)), (od, aD k 1 (fun _ => 0)), (mo, .inr (15, [.ref e0, .ref c1, .ref c2, .ref c3, .ref c4, .ref c5, .null, .int (nI 0), .int (nI 0), .int 0, .int 0, .int 1]))]) (st' := [.int 1]) (cells' := 301) (slots' := 2006) (g' := 0) (by decide) rfl rfl rfl rfl rfl ?_
  refine g_iload (pc := 1935) C 1 rfl dL_law_1935 ?_
  refine g_icmp_eq (pc := 1937) C 1942 (by decide) dL_law_1937 (fun c_1937 => ?_) (fun c_1937 => ?_)
  · refine g_iload (pc := 1942) C 1 rfl dL_law_1942 ?_
    refine g_if_ne (pc := 1944) C 1979 (by decide) dL_law_1944 (fun c_1944 => ?_) (fun c_1944 => ?_)
    · refine g_goto (pc := 1979) C 1995 (by decide) dL_law_1979 ?_
      refine G.re [] (ws' := []) (by decide) rfl ?_
      refine G.loc [2, 7] (lv' := [(0, .ref b), (5, .int (nI 0))]) rfl ?_
      refine G.widen (k' := 400) (n' := 3000) (g' := 0) (by decide) (by decide) (Nat.zero_le _) ?_
      exact law_end C hr hlk hX hbl hbA
    · exact absurd c_1944 (by decide)
  · exact absurd c_1937 (by decide)
set_option maxRecDepth 100000 in
set_option maxHeartbeats 1000000 in
theorem law_c34 {p : Program} {l : Launch} {e : Env} {s : State} {m : MethodId} {below : List Frame} {meth : Method} {c : Code} {D : va_G} {k : Nat → ClassId} {b : Nat} {xs : Nat → Int32} (C : Cx p l s m #[Value.ref b] c D k (va_A [] s.heap.size) cL_law RL 9) (hr : meth.sig.returnType = some .boolean) (hlk : meth.locks = false) (hX : va_X b 4 xs s s.heap) (hbl : b < s.heap.size) (hbA : ¬ va_A [] s.heap.size b) (c1 : Nat) (c2 : Nat) (c3 : Nat) (c4 : Nat) (c5 : Nat) (dd : Nat) (e0 : Nat) (h : Nat) (jj : Nat) (m1 : Nat) (m2 : Nat) (mo : Nat) (o : Nat) (o0 : Nat) (o1 : Nat) (o2 : Nat) (o4 : Nat) (o7 : Nat) (o9 : Nat) (od : Nat) (oo : Nat) (pp : Nat) (x2 : Nat) (x3 : Nat) (x4 : Nat) (y1 : Nat)  : G p l e room_1 s m #[Value.ref b] below meth c D 9 (va_A [] s.heap.size) (lw_Z below #[Value.ref b] s) [(o, .inr (14, [.ref h, .ref pp, .ref x2, .ref x3, .ref x4, .ref o2, .ref o4, .ref o9, .ref o7, .ref o0, .ref o1])), (h, .inr (7, [.ref jj, .ref dd, .int (nI 0), .int (nI 0)])), (jj, aI k 36 (fun _ => 0)), (dd, aI k 6 (fun _ => 0)), (o4, .inr (8, [.ref h, .ref m1, .ref m2])), (o9, .inr (13, [.ref y1])), (mo, .inr (15, [.ref e0, .ref c1, .ref c2, .ref c3, .ref c4, .ref c5, .null, .int (nI 0), .int (nI 0), .int 0, .int 0, .int 0]))] [(0, .ref b), (1, .ref o), (2, .ref mo), (3, .ref oo), (4, .ref od), (5, .int (nI 0))] 300 2000 0 1982 [] := by
  refine g_aload_n (pc := 1982) C 1 rfl rfl dL_law_1982 ?_
  refine g_callV (pc := 1983) (cells := 300) (slots := 2000) (g := 0) (As := []) (st := []) (T := TX10) (q0 := 0) C (nA := 0) rfl (c_X10_isSound_z o h pp x2 x3 x4 o2 o4 o9 o7 o0 o1 jj dd m1 m2 y1 ) q_706 q_707 q_705 q_203 q_704 (by decide +kernel) rfl rfl dL_law_1983 ⟨Nat.le_of_ble_eq_true rfl, Nat.le_of_ble_eq_true rfl⟩ [0, 1, 2, 3, 4, 5] [6] rfl (wr := [(mo, .inr (15, [.ref e0, .ref c1, .ref c2, .ref c3, .ref c4, .ref c5, .null, .int (nI 0), .int (nI 0), .int 0, .int 0, .int 0]))]) rfl (by decide) (by decide) (by decide) (Nat.le_of_ble_eq_true rfl) ⟨Nat.le_of_ble_eq_true rfl, Nat.le_of_ble_eq_true rfl⟩ (fun rv w1 h1 => ?_)
  obtain ⟨rfl, rfl⟩ := h1
  refine G.aft [1, 2, 3, 4, 5, 6, 0] (ws' := [(o, .inr (14, [.ref h, .ref pp, .ref x2, .ref x3, .ref x4, .ref o2, .ref o4, .ref o9, .ref o7, .ref o0, .ref o1])), (h, .inr (7, [.ref jj, .ref dd, .int (nI 0), .int (nI 0)])), (jj, aI k 36 (fun _ => 0)), (dd, aI k 6 (fun _ => 0)), (o4, .inr (8, [.ref h, .ref m1, .ref m2])), (o9, .inr (13, [.ref y1])), (mo, .inr (15, [.ref e0, .ref c1, .ref c2, .ref c3, .ref c4, .ref c5, .null, .int (nI 0), .int (nI 0), .int 0, .int 0, .int 0]))]) (st' := [.int 1]) (cells' := 300) (slots' := 2000) (g' := 0) (by decide) rfl rfl rfl rfl rfl ?_
  refine g_aload_n (pc := 1986) C 2 rfl rfl dL_law_1986 ?_
  refine g_callV (pc := 1987) (cells := 300) (slots := 2000) (g := 0) (As := []) (st := [.int 1]) (T := TX11) (q0 := 6) C (nA := 0) rfl (c_X11_isSound_z mo e0 c1 c2 c3 c4 c5 0 ) q_710 q_711 q_709 q_265 q_708 (by decide +kernel) rfl rfl dL_law_1987 ⟨Nat.le_of_ble_eq_true rfl, Nat.le_of_ble_eq_true rfl⟩ [6] [0, 1, 2, 3, 4, 5] rfl (wr := [(o, .inr (14, [.ref h, .ref pp, .ref x2, .ref x3, .ref x4, .ref o2, .ref o4, .ref o9, .ref o7, .ref o0, .ref o1])), (h, .inr (7, [.ref jj, .ref dd, .int (nI 0), .int (nI 0)])), (jj, aI k 36 (fun _ => 0)), (dd, aI k 6 (fun _ => 0)), (o4, .inr (8, [.ref h, .ref m1, .ref m2])), (o9, .inr (13, [.ref y1]))]) rfl (by decide) (by decide) (by decide) (Nat.le_of_ble_eq_true rfl) ⟨Nat.le_of_ble_eq_true rfl, Nat.le_of_ble_eq_true rfl⟩ (fun rv w1 h1 => ?_)
  obtain ⟨rfl, rfl⟩ := h1
  refine G.aft [0, 1, 2, 3, 4, 5, 6] (ws' := [(o, .inr (14, [.ref h, .ref pp, .ref x2, .ref x3, .ref x4, .ref o2, .ref o4, .ref o9, .ref o7, .ref o0, .ref o1])), (h, .inr (7, [.ref jj, .ref dd, .int (nI 0), .int (nI 0)])), (jj, aI k 36 (fun _ => 0)), (dd, aI k 6 (fun _ => 0)), (o4, .inr (8, [.ref h, .ref m1, .ref m2])), (o9, .inr (13, [.ref y1])), (mo, .inr (15, [.ref e0, .ref c1, .ref c2, .ref c3, .ref c4, .ref c5, .null, .int (nI 0), .int (nI 0), .int 0, .int 0, .int 0]))]) (st' := [.int 1, .int 1]) (cells' := 300) (slots' := 2000) (g' := 0) (by decide) rfl rfl rfl rfl rfl ?_
  refine g_icmp_eq (pc := 1990) C 1995 (by decide) dL_law_1990 (fun c_1990 => ?_) (fun c_1990 => ?_)
  · refine G.re [] (ws' := []) (by decide) rfl ?_
    refine G.loc [0, 5] (lv' := [(0, .ref b), (5, .int (nI 0))]) rfl ?_
    refine G.widen (k' := 400) (n' := 3000) (g' := 0) (by decide) (by decide) (Nat.zero_le _) ?_
    exact law_end C hr hlk hX hbl hbA
  · exact absurd c_1990 (by decide)
