/-! the law: its loop over the script, a case a call; printed by wip/tools/gen_law.py -/
/-! THE CLAIM OUT OF ONE WALK OF THE LAW'S BODY. Your part is whole_start (and what it stands on); all else here is the same for every law, but numbers. -/
def R_law : String := "EveryHandLaw"
def lw_P (b : Addr) (xs : List Int32) (args : Array Value) (s : State) : Prop := args = #[.ref b] ∧ s.IntsAt b xs ∧ xs.length ≤ 320 ∧ (Jvm.Cond.and given_1 narrow_1).before args s = true
def lw_Q (_ : Array Value) (s : State) (o : Outcome) (t : State) : Prop := o = .returned (some (.int 1)) ∧ Framed s o t [] 600000 7302250
def lw_Z (below : List Frame) (a : Array Value) (s : State) : State → Prop := fun t => ∃ o, t.status = .running ∧ Ended t below o ∧ lw_Q a s o t
/-- the law's own end, with 1 on the stack, nothing written that was there before, its room as the claim has it -/
theorem lw_ret {p : Program} {l : Launch} {e : Env} {s : State} {m : MethodId} {below : List Frame} {meth : Method} {c : Code} {b : Nat} (hx : p.tables.exec = Jvm.exec) (hb : c.code = code) (hr : meth.sig.returnType = ret) (hlocks : meth.locks = false) {pc : Nat} {H : Heap} {ls : Array Slot} (hdg : decode code pc = .ok (.ireturn, 1)) : W p l e room_1 s m #[Value.ref b] below meth c H [] 600000 7302250 (lw_Z below #[Value.ref b] s) (F0 m pc ls [.int 1]) := by
  intro T hT X
  obtain ⟨fs, hret, hrun, hended, hW, hframe⟩ := X.leave (v := some (.int 1)) (hlocks := hlocks) (fun h => by rw [hr] at h; cases h)
  have hmeth' : T.vm.method? m = some meth := X.method'
  refine ⟨T.setFrames fs, ?_, .returned (some (.int 1)), hrun, hended, rfl, ⟨_, rfl⟩, hW, hframe⟩
  jvm_step X.here [X.here.top, hx, hb, hdg, hmeth', hr, ret, narrow_b1]
  (try refine ⟨rfl, ?_⟩); (try refine ⟨rfl, ?_⟩)
  first | (intro acts; rw [hret _ acts rfl rfl rfl]) | rw [hret _ _ rfl rfl rfl]
  exact Steps.refl _
/-- what holds at the law's entry: the machine, the code, the tables' words (any of lw_tbl by 'hts w (by decide +kernel)'), the script of L ints xs at the cell b, what the Statement gives of the start (any of its parts by flat_of_before) -/
def lw_At (p : Program) (s : State) (m : MethodId) (meth : Method) (c : Code) (b L : Nat) (xs : Nat → Int32) : Prop :=
  p.tables.exec = Jvm.exec ∧ c.code = code ∧ meth.sig.returnType = ret ∧ c.maxLocals = 4 ∧ s.vm.findClass R_law = some m.cls ∧ (∀ w ∈ lw_tbl, w.before #[Value.ref b] s = true) ∧ va_X b L xs s s.heap ∧ b < s.heap.size ∧ meth.locks = false ∧ (Jvm.Cond.and given_1 narrow_1).before #[Value.ref b] s = true
abbrev mL : MI := (code, 4, ret, x, room_1)
theorem dL_18 : decode mL.1 18 = .ok (.iload_n 3, 1) := by decide +kernel
theorem dL_19 : decode mL.1 19 = .ok (.aload_n 0, 1) := by decide +kernel
theorem dL_20 : decode mL.1 20 = .ok (.arraylength, 1) := by decide +kernel
theorem dL_21 : decode mL.1 21 = .ok (.iconst 5, 1) := by decide +kernel
theorem dL_22 : decode mL.1 22 = .ok (.isub, 1) := by decide +kernel
theorem dL_23 : decode mL.1 23 = .ok (.if_icmp .gt 1528, 3) := by decide +kernel
theorem dL_26 : decode mL.1 26 = .ok (.aload_n 0, 1) := by decide +kernel
theorem dL_27 : decode mL.1 27 = .ok (.iload_n 3, 1) := by decide +kernel
theorem dL_28 : decode mL.1 28 = .ok (.iaload, 1) := by decide +kernel
theorem dL_29 : decode mL.1 29 = .ok (.bipush 63, 2) := by decide +kernel
theorem dL_31 : decode mL.1 31 = .ok (.iand, 1) := by decide +kernel
theorem dL_32 : decode mL.1 32 = .ok (.tableswitch 1513 0 42 #[188, 251, 264, 287, 320, 353, 412, 455, 488, 531, 554, 587, 620, 643, 666, 689, 712, 745, 768, 791, 814, 827, 860, 903, 926, 959, 972, 995, 1018, 1041, 1074, 1117, 1140, 1193, 1236, 1279, 1322, 1365, 1398, 1441, 1464, 1487, 1500], 188) := by decide +kernel
theorem dL_220 : decode mL.1 220 = .ok (.aload_n 1, 1) := by decide +kernel
theorem dL_221 : decode mL.1 221 = .ok (.aload_n 0, 1) := by decide +kernel
theorem dL_222 : decode mL.1 222 = .ok (.iload_n 3, 1) := by decide +kernel
theorem dL_223 : decode mL.1 223 = .ok (.iconst 1, 1) := by decide +kernel
theorem dL_224 : decode mL.1 224 = .ok (.iadd, 1) := by decide +kernel
theorem dL_225 : decode mL.1 225 = .ok (.iaload, 1) := by decide +kernel
theorem dL_226 : decode mL.1 226 = .ok (.i2l, 1) := by decide +kernel
theorem dL_227 : decode mL.1 227 = .ok (.bipush 32, 2) := by decide +kernel
theorem dL_229 : decode mL.1 229 = .ok (.lshl, 1) := by decide +kernel
theorem dL_230 : decode mL.1 230 = .ok (.aload_n 0, 1) := by decide +kernel
theorem dL_231 : decode mL.1 231 = .ok (.iload_n 3, 1) := by decide +kernel
theorem dL_232 : decode mL.1 232 = .ok (.iconst 2, 1) := by decide +kernel
theorem dL_233 : decode mL.1 233 = .ok (.iadd, 1) := by decide +kernel
theorem dL_234 : decode mL.1 234 = .ok (.iaload, 1) := by decide +kernel
theorem dL_235 : decode mL.1 235 = .ok (.i2l, 1) := by decide +kernel
theorem dL_236 : decode mL.1 236 = .ok (.ldc2_w 13, 3) := by decide +kernel
theorem dL_239 : decode mL.1 239 = .ok (.land, 1) := by decide +kernel
theorem dL_240 : decode mL.1 240 = .ok (.lor, 1) := by decide +kernel
theorem dL_241 : decode mL.1 241 = .ok (.aload_n 0, 1) := by decide +kernel
theorem dL_242 : decode mL.1 242 = .ok (.iload_n 3, 1) := by decide +kernel
theorem dL_243 : decode mL.1 243 = .ok (.iconst 3, 1) := by decide +kernel
theorem dL_244 : decode mL.1 244 = .ok (.iadd, 1) := by decide +kernel
theorem dL_245 : decode mL.1 245 = .ok (.iaload, 1) := by decide +kernel
theorem dL_246 : decode mL.1 246 = .ok (.invokevirtual 15, 3) := by decide +kernel
theorem dL_249 : decode mL.1 249 = .ok (.aload_n 2, 1) := by decide +kernel
theorem dL_250 : decode mL.1 250 = .ok (.aload_n 0, 1) := by decide +kernel
theorem dL_251 : decode mL.1 251 = .ok (.iload_n 3, 1) := by decide +kernel
theorem dL_252 : decode mL.1 252 = .ok (.iconst 1, 1) := by decide +kernel
theorem dL_253 : decode mL.1 253 = .ok (.iadd, 1) := by decide +kernel
theorem dL_254 : decode mL.1 254 = .ok (.iaload, 1) := by decide +kernel
theorem dL_255 : decode mL.1 255 = .ok (.i2l, 1) := by decide +kernel
theorem dL_256 : decode mL.1 256 = .ok (.bipush 32, 2) := by decide +kernel
theorem dL_258 : decode mL.1 258 = .ok (.lshl, 1) := by decide +kernel
theorem dL_259 : decode mL.1 259 = .ok (.aload_n 0, 1) := by decide +kernel
theorem dL_260 : decode mL.1 260 = .ok (.iload_n 3, 1) := by decide +kernel
theorem dL_261 : decode mL.1 261 = .ok (.iconst 2, 1) := by decide +kernel
theorem dL_262 : decode mL.1 262 = .ok (.iadd, 1) := by decide +kernel
theorem dL_263 : decode mL.1 263 = .ok (.iaload, 1) := by decide +kernel
theorem dL_264 : decode mL.1 264 = .ok (.i2l, 1) := by decide +kernel
theorem dL_265 : decode mL.1 265 = .ok (.ldc2_w 13, 3) := by decide +kernel
theorem dL_268 : decode mL.1 268 = .ok (.land, 1) := by decide +kernel
theorem dL_269 : decode mL.1 269 = .ok (.lor, 1) := by decide +kernel
theorem dL_270 : decode mL.1 270 = .ok (.aload_n 0, 1) := by decide +kernel
theorem dL_271 : decode mL.1 271 = .ok (.iload_n 3, 1) := by decide +kernel
theorem dL_272 : decode mL.1 272 = .ok (.iconst 3, 1) := by decide +kernel
theorem dL_273 : decode mL.1 273 = .ok (.iadd, 1) := by decide +kernel
theorem dL_274 : decode mL.1 274 = .ok (.iaload, 1) := by decide +kernel
theorem dL_275 : decode mL.1 275 = .ok (.invokevirtual 19, 3) := by decide +kernel
theorem dL_278 : decode mL.1 278 = .ok (.if_icmp .eq 1267, 3) := by decide +kernel
theorem dL_281 : decode mL.1 281 = .ok (.iconst 0, 1) := by decide +kernel
theorem dL_282 : decode mL.1 282 = .ok (.ireturn, 1) := by decide +kernel
theorem dL_283 : decode mL.1 283 = .ok (.aload_n 1, 1) := by decide +kernel
theorem dL_284 : decode mL.1 284 = .ok (.invokevirtual 20, 3) := by decide +kernel
theorem dL_287 : decode mL.1 287 = .ok (.aload_n 2, 1) := by decide +kernel
theorem dL_288 : decode mL.1 288 = .ok (.invokevirtual 24, 3) := by decide +kernel
theorem dL_291 : decode mL.1 291 = .ok (.if_icmp .eq 1254, 3) := by decide +kernel
theorem dL_294 : decode mL.1 294 = .ok (.iconst 0, 1) := by decide +kernel
theorem dL_295 : decode mL.1 295 = .ok (.ireturn, 1) := by decide +kernel
theorem dL_296 : decode mL.1 296 = .ok (.aload_n 1, 1) := by decide +kernel
theorem dL_297 : decode mL.1 297 = .ok (.aload_n 0, 1) := by decide +kernel
theorem dL_298 : decode mL.1 298 = .ok (.iload_n 3, 1) := by decide +kernel
theorem dL_299 : decode mL.1 299 = .ok (.iconst 1, 1) := by decide +kernel
theorem dL_300 : decode mL.1 300 = .ok (.iadd, 1) := by decide +kernel
theorem dL_301 : decode mL.1 301 = .ok (.iaload, 1) := by decide +kernel
theorem dL_302 : decode mL.1 302 = .ok (.invokevirtual 25, 3) := by decide +kernel
theorem dL_305 : decode mL.1 305 = .ok (.aload_n 2, 1) := by decide +kernel
theorem dL_306 : decode mL.1 306 = .ok (.aload_n 0, 1) := by decide +kernel
theorem dL_307 : decode mL.1 307 = .ok (.iload_n 3, 1) := by decide +kernel
theorem dL_308 : decode mL.1 308 = .ok (.iconst 1, 1) := by decide +kernel
theorem dL_309 : decode mL.1 309 = .ok (.iadd, 1) := by decide +kernel
theorem dL_310 : decode mL.1 310 = .ok (.iaload, 1) := by decide +kernel
theorem dL_311 : decode mL.1 311 = .ok (.invokevirtual 29, 3) := by decide +kernel
theorem dL_314 : decode mL.1 314 = .ok (.if_icmp .eq 1231, 3) := by decide +kernel
theorem dL_317 : decode mL.1 317 = .ok (.iconst 0, 1) := by decide +kernel
theorem dL_318 : decode mL.1 318 = .ok (.ireturn, 1) := by decide +kernel
theorem dL_319 : decode mL.1 319 = .ok (.aload_n 1, 1) := by decide +kernel
theorem dL_320 : decode mL.1 320 = .ok (.aload_n 0, 1) := by decide +kernel
theorem dL_321 : decode mL.1 321 = .ok (.iload_n 3, 1) := by decide +kernel
theorem dL_322 : decode mL.1 322 = .ok (.iconst 1, 1) := by decide +kernel
theorem dL_323 : decode mL.1 323 = .ok (.iadd, 1) := by decide +kernel
theorem dL_324 : decode mL.1 324 = .ok (.iaload, 1) := by decide +kernel
theorem dL_325 : decode mL.1 325 = .ok (.aload_n 0, 1) := by decide +kernel
theorem dL_326 : decode mL.1 326 = .ok (.iload_n 3, 1) := by decide +kernel
theorem dL_327 : decode mL.1 327 = .ok (.iconst 2, 1) := by decide +kernel
theorem dL_328 : decode mL.1 328 = .ok (.iadd, 1) := by decide +kernel
theorem dL_329 : decode mL.1 329 = .ok (.iaload, 1) := by decide +kernel
theorem dL_330 : decode mL.1 330 = .ok (.invokevirtual 30, 3) := by decide +kernel
theorem dL_333 : decode mL.1 333 = .ok (.aload_n 2, 1) := by decide +kernel
theorem dL_334 : decode mL.1 334 = .ok (.aload_n 0, 1) := by decide +kernel
theorem dL_335 : decode mL.1 335 = .ok (.iload_n 3, 1) := by decide +kernel
theorem dL_336 : decode mL.1 336 = .ok (.iconst 1, 1) := by decide +kernel
theorem dL_337 : decode mL.1 337 = .ok (.iadd, 1) := by decide +kernel
theorem dL_338 : decode mL.1 338 = .ok (.iaload, 1) := by decide +kernel
theorem dL_339 : decode mL.1 339 = .ok (.aload_n 0, 1) := by decide +kernel
theorem dL_340 : decode mL.1 340 = .ok (.iload_n 3, 1) := by decide +kernel
theorem dL_341 : decode mL.1 341 = .ok (.iconst 2, 1) := by decide +kernel
theorem dL_342 : decode mL.1 342 = .ok (.iadd, 1) := by decide +kernel
theorem dL_343 : decode mL.1 343 = .ok (.iaload, 1) := by decide +kernel
theorem dL_344 : decode mL.1 344 = .ok (.invokevirtual 34, 3) := by decide +kernel
theorem dL_347 : decode mL.1 347 = .ok (.if_icmp .eq 1198, 3) := by decide +kernel
theorem dL_350 : decode mL.1 350 = .ok (.iconst 0, 1) := by decide +kernel
theorem dL_351 : decode mL.1 351 = .ok (.ireturn, 1) := by decide +kernel
theorem dL_352 : decode mL.1 352 = .ok (.aload_n 1, 1) := by decide +kernel
theorem dL_353 : decode mL.1 353 = .ok (.aload_n 0, 1) := by decide +kernel
theorem dL_354 : decode mL.1 354 = .ok (.iload_n 3, 1) := by decide +kernel
theorem dL_355 : decode mL.1 355 = .ok (.iconst 1, 1) := by decide +kernel
theorem dL_356 : decode mL.1 356 = .ok (.iadd, 1) := by decide +kernel
theorem dL_357 : decode mL.1 357 = .ok (.iaload, 1) := by decide +kernel
theorem dL_358 : decode mL.1 358 = .ok (.aload_n 0, 1) := by decide +kernel
theorem dL_359 : decode mL.1 359 = .ok (.iload_n 3, 1) := by decide +kernel
theorem dL_360 : decode mL.1 360 = .ok (.iconst 2, 1) := by decide +kernel
theorem dL_361 : decode mL.1 361 = .ok (.iadd, 1) := by decide +kernel
theorem dL_362 : decode mL.1 362 = .ok (.iaload, 1) := by decide +kernel
theorem dL_363 : decode mL.1 363 = .ok (.invokevirtual 35, 3) := by decide +kernel
theorem dL_366 : decode mL.1 366 = .ok (.aload_n 2, 1) := by decide +kernel
theorem dL_367 : decode mL.1 367 = .ok (.aload_n 0, 1) := by decide +kernel
theorem dL_368 : decode mL.1 368 = .ok (.iload_n 3, 1) := by decide +kernel
theorem dL_369 : decode mL.1 369 = .ok (.iconst 1, 1) := by decide +kernel
theorem dL_370 : decode mL.1 370 = .ok (.iadd, 1) := by decide +kernel
theorem dL_371 : decode mL.1 371 = .ok (.iaload, 1) := by decide +kernel
theorem dL_372 : decode mL.1 372 = .ok (.aload_n 0, 1) := by decide +kernel
theorem dL_373 : decode mL.1 373 = .ok (.iload_n 3, 1) := by decide +kernel
theorem dL_374 : decode mL.1 374 = .ok (.iconst 2, 1) := by decide +kernel
theorem dL_375 : decode mL.1 375 = .ok (.iadd, 1) := by decide +kernel
theorem dL_376 : decode mL.1 376 = .ok (.iaload, 1) := by decide +kernel
theorem dL_377 : decode mL.1 377 = .ok (.invokevirtual 38, 3) := by decide +kernel
theorem dL_380 : decode mL.1 380 = .ok (.if_icmp .eq 1165, 3) := by decide +kernel
theorem dL_383 : decode mL.1 383 = .ok (.iconst 0, 1) := by decide +kernel
theorem dL_384 : decode mL.1 384 = .ok (.ireturn, 1) := by decide +kernel
theorem dL_385 : decode mL.1 385 = .ok (.aload_n 1, 1) := by decide +kernel
theorem dL_386 : decode mL.1 386 = .ok (.aload_n 0, 1) := by decide +kernel
theorem dL_387 : decode mL.1 387 = .ok (.iload_n 3, 1) := by decide +kernel
theorem dL_388 : decode mL.1 388 = .ok (.iconst 1, 1) := by decide +kernel
theorem dL_389 : decode mL.1 389 = .ok (.iadd, 1) := by decide +kernel
theorem dL_390 : decode mL.1 390 = .ok (.iaload, 1) := by decide +kernel
theorem dL_391 : decode mL.1 391 = .ok (.aload_n 0, 1) := by decide +kernel
theorem dL_392 : decode mL.1 392 = .ok (.iload_n 3, 1) := by decide +kernel
theorem dL_393 : decode mL.1 393 = .ok (.iconst 2, 1) := by decide +kernel
theorem dL_394 : decode mL.1 394 = .ok (.iadd, 1) := by decide +kernel
theorem dL_395 : decode mL.1 395 = .ok (.iaload, 1) := by decide +kernel
theorem dL_396 : decode mL.1 396 = .ok (.aload_n 0, 1) := by decide +kernel
theorem dL_397 : decode mL.1 397 = .ok (.iload_n 3, 1) := by decide +kernel
theorem dL_398 : decode mL.1 398 = .ok (.iconst 3, 1) := by decide +kernel
theorem dL_399 : decode mL.1 399 = .ok (.iadd, 1) := by decide +kernel
theorem dL_400 : decode mL.1 400 = .ok (.iaload, 1) := by decide +kernel
theorem dL_401 : decode mL.1 401 = .ok (.ifCond .eq 7, 3) := by decide +kernel
theorem dL_404 : decode mL.1 404 = .ok (.iconst 1, 1) := by decide +kernel
theorem dL_405 : decode mL.1 405 = .ok (.goto 4, 3) := by decide +kernel
theorem dL_408 : decode mL.1 408 = .ok (.iconst 0, 1) := by decide +kernel
theorem dL_409 : decode mL.1 409 = .ok (.invokevirtual 39, 3) := by decide +kernel
theorem dL_412 : decode mL.1 412 = .ok (.aload_n 2, 1) := by decide +kernel
theorem dL_413 : decode mL.1 413 = .ok (.aload_n 0, 1) := by decide +kernel
theorem dL_414 : decode mL.1 414 = .ok (.iload_n 3, 1) := by decide +kernel
theorem dL_415 : decode mL.1 415 = .ok (.iconst 1, 1) := by decide +kernel
theorem dL_416 : decode mL.1 416 = .ok (.iadd, 1) := by decide +kernel
theorem dL_417 : decode mL.1 417 = .ok (.iaload, 1) := by decide +kernel
theorem dL_418 : decode mL.1 418 = .ok (.aload_n 0, 1) := by decide +kernel
theorem dL_419 : decode mL.1 419 = .ok (.iload_n 3, 1) := by decide +kernel
theorem dL_420 : decode mL.1 420 = .ok (.iconst 2, 1) := by decide +kernel
theorem dL_421 : decode mL.1 421 = .ok (.iadd, 1) := by decide +kernel
theorem dL_422 : decode mL.1 422 = .ok (.iaload, 1) := by decide +kernel
theorem dL_423 : decode mL.1 423 = .ok (.aload_n 0, 1) := by decide +kernel
theorem dL_424 : decode mL.1 424 = .ok (.iload_n 3, 1) := by decide +kernel
theorem dL_425 : decode mL.1 425 = .ok (.iconst 3, 1) := by decide +kernel
theorem dL_426 : decode mL.1 426 = .ok (.iadd, 1) := by decide +kernel
theorem dL_427 : decode mL.1 427 = .ok (.iaload, 1) := by decide +kernel
theorem dL_428 : decode mL.1 428 = .ok (.ifCond .eq 7, 3) := by decide +kernel
theorem dL_431 : decode mL.1 431 = .ok (.iconst 1, 1) := by decide +kernel
theorem dL_432 : decode mL.1 432 = .ok (.goto 4, 3) := by decide +kernel
theorem dL_435 : decode mL.1 435 = .ok (.iconst 0, 1) := by decide +kernel
theorem dL_436 : decode mL.1 436 = .ok (.invokevirtual 43, 3) := by decide +kernel
theorem dL_439 : decode mL.1 439 = .ok (.if_icmp .eq 1106, 3) := by decide +kernel
theorem dL_442 : decode mL.1 442 = .ok (.iconst 0, 1) := by decide +kernel
theorem dL_443 : decode mL.1 443 = .ok (.ireturn, 1) := by decide +kernel
theorem dL_444 : decode mL.1 444 = .ok (.aload_n 1, 1) := by decide +kernel
theorem dL_445 : decode mL.1 445 = .ok (.aload_n 0, 1) := by decide +kernel
theorem dL_446 : decode mL.1 446 = .ok (.iload_n 3, 1) := by decide +kernel
theorem dL_447 : decode mL.1 447 = .ok (.iconst 1, 1) := by decide +kernel
theorem dL_448 : decode mL.1 448 = .ok (.iadd, 1) := by decide +kernel
theorem dL_449 : decode mL.1 449 = .ok (.iaload, 1) := by decide +kernel
theorem dL_450 : decode mL.1 450 = .ok (.aload_n 0, 1) := by decide +kernel
theorem dL_451 : decode mL.1 451 = .ok (.iload_n 3, 1) := by decide +kernel
theorem dL_452 : decode mL.1 452 = .ok (.iconst 2, 1) := by decide +kernel
theorem dL_453 : decode mL.1 453 = .ok (.iadd, 1) := by decide +kernel
theorem dL_454 : decode mL.1 454 = .ok (.iaload, 1) := by decide +kernel
theorem dL_455 : decode mL.1 455 = .ok (.aload_n 0, 1) := by decide +kernel
theorem dL_456 : decode mL.1 456 = .ok (.iload_n 3, 1) := by decide +kernel
theorem dL_457 : decode mL.1 457 = .ok (.iconst 3, 1) := by decide +kernel
theorem dL_458 : decode mL.1 458 = .ok (.iadd, 1) := by decide +kernel
theorem dL_459 : decode mL.1 459 = .ok (.iaload, 1) := by decide +kernel
theorem dL_460 : decode mL.1 460 = .ok (.invokevirtual 44, 3) := by decide +kernel
theorem dL_463 : decode mL.1 463 = .ok (.aload_n 2, 1) := by decide +kernel
theorem dL_464 : decode mL.1 464 = .ok (.aload_n 0, 1) := by decide +kernel
theorem dL_465 : decode mL.1 465 = .ok (.iload_n 3, 1) := by decide +kernel
theorem dL_466 : decode mL.1 466 = .ok (.iconst 1, 1) := by decide +kernel
theorem dL_467 : decode mL.1 467 = .ok (.iadd, 1) := by decide +kernel
theorem dL_468 : decode mL.1 468 = .ok (.iaload, 1) := by decide +kernel
theorem dL_469 : decode mL.1 469 = .ok (.aload_n 0, 1) := by decide +kernel
theorem dL_470 : decode mL.1 470 = .ok (.iload_n 3, 1) := by decide +kernel
theorem dL_471 : decode mL.1 471 = .ok (.iconst 2, 1) := by decide +kernel
theorem dL_472 : decode mL.1 472 = .ok (.iadd, 1) := by decide +kernel
theorem dL_473 : decode mL.1 473 = .ok (.iaload, 1) := by decide +kernel
theorem dL_474 : decode mL.1 474 = .ok (.aload_n 0, 1) := by decide +kernel
theorem dL_475 : decode mL.1 475 = .ok (.iload_n 3, 1) := by decide +kernel
theorem dL_476 : decode mL.1 476 = .ok (.iconst 3, 1) := by decide +kernel
theorem dL_477 : decode mL.1 477 = .ok (.iadd, 1) := by decide +kernel
theorem dL_478 : decode mL.1 478 = .ok (.iaload, 1) := by decide +kernel
theorem dL_479 : decode mL.1 479 = .ok (.invokevirtual 48, 3) := by decide +kernel
theorem dL_482 : decode mL.1 482 = .ok (.if_icmp .eq 1063, 3) := by decide +kernel
theorem dL_485 : decode mL.1 485 = .ok (.iconst 0, 1) := by decide +kernel
theorem dL_486 : decode mL.1 486 = .ok (.ireturn, 1) := by decide +kernel
theorem dL_487 : decode mL.1 487 = .ok (.aload_n 1, 1) := by decide +kernel
theorem dL_488 : decode mL.1 488 = .ok (.aload_n 0, 1) := by decide +kernel
theorem dL_489 : decode mL.1 489 = .ok (.iload_n 3, 1) := by decide +kernel
theorem dL_490 : decode mL.1 490 = .ok (.iconst 1, 1) := by decide +kernel
theorem dL_491 : decode mL.1 491 = .ok (.iadd, 1) := by decide +kernel
theorem dL_492 : decode mL.1 492 = .ok (.iaload, 1) := by decide +kernel
theorem dL_493 : decode mL.1 493 = .ok (.aload_n 0, 1) := by decide +kernel
theorem dL_494 : decode mL.1 494 = .ok (.iload_n 3, 1) := by decide +kernel
theorem dL_495 : decode mL.1 495 = .ok (.iconst 2, 1) := by decide +kernel
theorem dL_496 : decode mL.1 496 = .ok (.iadd, 1) := by decide +kernel
theorem dL_497 : decode mL.1 497 = .ok (.iaload, 1) := by decide +kernel
theorem dL_498 : decode mL.1 498 = .ok (.invokevirtual 49, 3) := by decide +kernel
theorem dL_501 : decode mL.1 501 = .ok (.aload_n 2, 1) := by decide +kernel
theorem dL_502 : decode mL.1 502 = .ok (.aload_n 0, 1) := by decide +kernel
theorem dL_503 : decode mL.1 503 = .ok (.iload_n 3, 1) := by decide +kernel
theorem dL_504 : decode mL.1 504 = .ok (.iconst 1, 1) := by decide +kernel
theorem dL_505 : decode mL.1 505 = .ok (.iadd, 1) := by decide +kernel
theorem dL_506 : decode mL.1 506 = .ok (.iaload, 1) := by decide +kernel
theorem dL_507 : decode mL.1 507 = .ok (.aload_n 0, 1) := by decide +kernel
theorem dL_508 : decode mL.1 508 = .ok (.iload_n 3, 1) := by decide +kernel
theorem dL_509 : decode mL.1 509 = .ok (.iconst 2, 1) := by decide +kernel
theorem dL_510 : decode mL.1 510 = .ok (.iadd, 1) := by decide +kernel
theorem dL_511 : decode mL.1 511 = .ok (.iaload, 1) := by decide +kernel
theorem dL_512 : decode mL.1 512 = .ok (.invokevirtual 52, 3) := by decide +kernel
theorem dL_515 : decode mL.1 515 = .ok (.if_icmp .eq 1030, 3) := by decide +kernel
theorem dL_518 : decode mL.1 518 = .ok (.iconst 0, 1) := by decide +kernel
theorem dL_519 : decode mL.1 519 = .ok (.ireturn, 1) := by decide +kernel
theorem dL_520 : decode mL.1 520 = .ok (.aload_n 1, 1) := by decide +kernel
theorem dL_521 : decode mL.1 521 = .ok (.aload_n 0, 1) := by decide +kernel
theorem dL_522 : decode mL.1 522 = .ok (.iload_n 3, 1) := by decide +kernel
theorem dL_523 : decode mL.1 523 = .ok (.iconst 1, 1) := by decide +kernel
theorem dL_524 : decode mL.1 524 = .ok (.iadd, 1) := by decide +kernel
theorem dL_525 : decode mL.1 525 = .ok (.iaload, 1) := by decide +kernel
theorem dL_526 : decode mL.1 526 = .ok (.aload_n 0, 1) := by decide +kernel
theorem dL_527 : decode mL.1 527 = .ok (.iload_n 3, 1) := by decide +kernel
theorem dL_528 : decode mL.1 528 = .ok (.iconst 2, 1) := by decide +kernel
theorem dL_529 : decode mL.1 529 = .ok (.iadd, 1) := by decide +kernel
theorem dL_530 : decode mL.1 530 = .ok (.iaload, 1) := by decide +kernel
theorem dL_531 : decode mL.1 531 = .ok (.aload_n 0, 1) := by decide +kernel
theorem dL_532 : decode mL.1 532 = .ok (.iload_n 3, 1) := by decide +kernel
theorem dL_533 : decode mL.1 533 = .ok (.iconst 3, 1) := by decide +kernel
theorem dL_534 : decode mL.1 534 = .ok (.iadd, 1) := by decide +kernel
theorem dL_535 : decode mL.1 535 = .ok (.iaload, 1) := by decide +kernel
theorem dL_536 : decode mL.1 536 = .ok (.invokevirtual 53, 3) := by decide +kernel
theorem dL_539 : decode mL.1 539 = .ok (.aload_n 2, 1) := by decide +kernel
theorem dL_540 : decode mL.1 540 = .ok (.aload_n 0, 1) := by decide +kernel
theorem dL_541 : decode mL.1 541 = .ok (.iload_n 3, 1) := by decide +kernel
theorem dL_542 : decode mL.1 542 = .ok (.iconst 1, 1) := by decide +kernel
theorem dL_543 : decode mL.1 543 = .ok (.iadd, 1) := by decide +kernel
theorem dL_544 : decode mL.1 544 = .ok (.iaload, 1) := by decide +kernel
theorem dL_545 : decode mL.1 545 = .ok (.aload_n 0, 1) := by decide +kernel
theorem dL_546 : decode mL.1 546 = .ok (.iload_n 3, 1) := by decide +kernel
theorem dL_547 : decode mL.1 547 = .ok (.iconst 2, 1) := by decide +kernel
theorem dL_548 : decode mL.1 548 = .ok (.iadd, 1) := by decide +kernel
theorem dL_549 : decode mL.1 549 = .ok (.iaload, 1) := by decide +kernel
theorem dL_550 : decode mL.1 550 = .ok (.aload_n 0, 1) := by decide +kernel
theorem dL_551 : decode mL.1 551 = .ok (.iload_n 3, 1) := by decide +kernel
theorem dL_552 : decode mL.1 552 = .ok (.iconst 3, 1) := by decide +kernel
theorem dL_553 : decode mL.1 553 = .ok (.iadd, 1) := by decide +kernel
theorem dL_554 : decode mL.1 554 = .ok (.iaload, 1) := by decide +kernel
theorem dL_555 : decode mL.1 555 = .ok (.invokevirtual 56, 3) := by decide +kernel
theorem dL_558 : decode mL.1 558 = .ok (.if_icmp .eq 987, 3) := by decide +kernel
theorem dL_561 : decode mL.1 561 = .ok (.iconst 0, 1) := by decide +kernel
theorem dL_562 : decode mL.1 562 = .ok (.ireturn, 1) := by decide +kernel
theorem dL_563 : decode mL.1 563 = .ok (.aload_n 1, 1) := by decide +kernel
theorem dL_564 : decode mL.1 564 = .ok (.aload_n 0, 1) := by decide +kernel
theorem dL_565 : decode mL.1 565 = .ok (.iload_n 3, 1) := by decide +kernel
theorem dL_566 : decode mL.1 566 = .ok (.iconst 1, 1) := by decide +kernel
theorem dL_567 : decode mL.1 567 = .ok (.iadd, 1) := by decide +kernel
theorem dL_568 : decode mL.1 568 = .ok (.iaload, 1) := by decide +kernel
theorem dL_569 : decode mL.1 569 = .ok (.invokevirtual 57, 3) := by decide +kernel
theorem dL_572 : decode mL.1 572 = .ok (.aload_n 2, 1) := by decide +kernel
theorem dL_573 : decode mL.1 573 = .ok (.aload_n 0, 1) := by decide +kernel
theorem dL_574 : decode mL.1 574 = .ok (.iload_n 3, 1) := by decide +kernel
theorem dL_575 : decode mL.1 575 = .ok (.iconst 1, 1) := by decide +kernel
theorem dL_576 : decode mL.1 576 = .ok (.iadd, 1) := by decide +kernel
theorem dL_577 : decode mL.1 577 = .ok (.iaload, 1) := by decide +kernel
theorem dL_578 : decode mL.1 578 = .ok (.invokevirtual 60, 3) := by decide +kernel
theorem dL_581 : decode mL.1 581 = .ok (.if_icmp .eq 964, 3) := by decide +kernel
theorem dL_584 : decode mL.1 584 = .ok (.iconst 0, 1) := by decide +kernel
theorem dL_585 : decode mL.1 585 = .ok (.ireturn, 1) := by decide +kernel
theorem dL_586 : decode mL.1 586 = .ok (.aload_n 1, 1) := by decide +kernel
theorem dL_587 : decode mL.1 587 = .ok (.aload_n 0, 1) := by decide +kernel
theorem dL_588 : decode mL.1 588 = .ok (.iload_n 3, 1) := by decide +kernel
theorem dL_589 : decode mL.1 589 = .ok (.iconst 1, 1) := by decide +kernel
theorem dL_590 : decode mL.1 590 = .ok (.iadd, 1) := by decide +kernel
theorem dL_591 : decode mL.1 591 = .ok (.iaload, 1) := by decide +kernel
theorem dL_592 : decode mL.1 592 = .ok (.aload_n 0, 1) := by decide +kernel
theorem dL_593 : decode mL.1 593 = .ok (.iload_n 3, 1) := by decide +kernel
theorem dL_594 : decode mL.1 594 = .ok (.iconst 2, 1) := by decide +kernel
theorem dL_595 : decode mL.1 595 = .ok (.iadd, 1) := by decide +kernel
theorem dL_596 : decode mL.1 596 = .ok (.iaload, 1) := by decide +kernel
theorem dL_597 : decode mL.1 597 = .ok (.invokevirtual 61, 3) := by decide +kernel
theorem dL_600 : decode mL.1 600 = .ok (.aload_n 2, 1) := by decide +kernel
theorem dL_601 : decode mL.1 601 = .ok (.aload_n 0, 1) := by decide +kernel
theorem dL_602 : decode mL.1 602 = .ok (.iload_n 3, 1) := by decide +kernel
theorem dL_603 : decode mL.1 603 = .ok (.iconst 1, 1) := by decide +kernel
theorem dL_604 : decode mL.1 604 = .ok (.iadd, 1) := by decide +kernel
theorem dL_605 : decode mL.1 605 = .ok (.iaload, 1) := by decide +kernel
theorem dL_606 : decode mL.1 606 = .ok (.aload_n 0, 1) := by decide +kernel
theorem dL_607 : decode mL.1 607 = .ok (.iload_n 3, 1) := by decide +kernel
theorem dL_608 : decode mL.1 608 = .ok (.iconst 2, 1) := by decide +kernel
theorem dL_609 : decode mL.1 609 = .ok (.iadd, 1) := by decide +kernel
theorem dL_610 : decode mL.1 610 = .ok (.iaload, 1) := by decide +kernel
theorem dL_611 : decode mL.1 611 = .ok (.invokevirtual 64, 3) := by decide +kernel
theorem dL_614 : decode mL.1 614 = .ok (.if_icmp .eq 931, 3) := by decide +kernel
theorem dL_617 : decode mL.1 617 = .ok (.iconst 0, 1) := by decide +kernel
theorem dL_618 : decode mL.1 618 = .ok (.ireturn, 1) := by decide +kernel
theorem dL_619 : decode mL.1 619 = .ok (.aload_n 1, 1) := by decide +kernel
theorem dL_620 : decode mL.1 620 = .ok (.aload_n 0, 1) := by decide +kernel
theorem dL_621 : decode mL.1 621 = .ok (.iload_n 3, 1) := by decide +kernel
theorem dL_622 : decode mL.1 622 = .ok (.iconst 1, 1) := by decide +kernel
theorem dL_623 : decode mL.1 623 = .ok (.iadd, 1) := by decide +kernel
theorem dL_624 : decode mL.1 624 = .ok (.iaload, 1) := by decide +kernel
theorem dL_625 : decode mL.1 625 = .ok (.aload_n 0, 1) := by decide +kernel
theorem dL_626 : decode mL.1 626 = .ok (.iload_n 3, 1) := by decide +kernel
theorem dL_627 : decode mL.1 627 = .ok (.iconst 2, 1) := by decide +kernel
theorem dL_628 : decode mL.1 628 = .ok (.iadd, 1) := by decide +kernel
theorem dL_629 : decode mL.1 629 = .ok (.iaload, 1) := by decide +kernel
theorem dL_630 : decode mL.1 630 = .ok (.invokevirtual 65, 3) := by decide +kernel
theorem dL_633 : decode mL.1 633 = .ok (.aload_n 2, 1) := by decide +kernel
theorem dL_634 : decode mL.1 634 = .ok (.aload_n 0, 1) := by decide +kernel
theorem dL_635 : decode mL.1 635 = .ok (.iload_n 3, 1) := by decide +kernel
theorem dL_636 : decode mL.1 636 = .ok (.iconst 1, 1) := by decide +kernel
theorem dL_637 : decode mL.1 637 = .ok (.iadd, 1) := by decide +kernel
theorem dL_638 : decode mL.1 638 = .ok (.iaload, 1) := by decide +kernel
theorem dL_639 : decode mL.1 639 = .ok (.aload_n 0, 1) := by decide +kernel
theorem dL_640 : decode mL.1 640 = .ok (.iload_n 3, 1) := by decide +kernel
theorem dL_641 : decode mL.1 641 = .ok (.iconst 2, 1) := by decide +kernel
theorem dL_642 : decode mL.1 642 = .ok (.iadd, 1) := by decide +kernel
theorem dL_643 : decode mL.1 643 = .ok (.iaload, 1) := by decide +kernel
theorem dL_644 : decode mL.1 644 = .ok (.invokevirtual 68, 3) := by decide +kernel
theorem dL_647 : decode mL.1 647 = .ok (.if_icmp .eq 898, 3) := by decide +kernel
theorem dL_650 : decode mL.1 650 = .ok (.iconst 0, 1) := by decide +kernel
theorem dL_651 : decode mL.1 651 = .ok (.ireturn, 1) := by decide +kernel
theorem dL_652 : decode mL.1 652 = .ok (.aload_n 1, 1) := by decide +kernel
theorem dL_653 : decode mL.1 653 = .ok (.aload_n 0, 1) := by decide +kernel
theorem dL_654 : decode mL.1 654 = .ok (.iload_n 3, 1) := by decide +kernel
theorem dL_655 : decode mL.1 655 = .ok (.iconst 1, 1) := by decide +kernel
theorem dL_656 : decode mL.1 656 = .ok (.iadd, 1) := by decide +kernel
theorem dL_657 : decode mL.1 657 = .ok (.iaload, 1) := by decide +kernel
theorem dL_658 : decode mL.1 658 = .ok (.invokevirtual 69, 3) := by decide +kernel
theorem dL_661 : decode mL.1 661 = .ok (.aload_n 2, 1) := by decide +kernel
theorem dL_662 : decode mL.1 662 = .ok (.aload_n 0, 1) := by decide +kernel
theorem dL_663 : decode mL.1 663 = .ok (.iload_n 3, 1) := by decide +kernel
theorem dL_664 : decode mL.1 664 = .ok (.iconst 1, 1) := by decide +kernel
theorem dL_665 : decode mL.1 665 = .ok (.iadd, 1) := by decide +kernel
theorem dL_666 : decode mL.1 666 = .ok (.iaload, 1) := by decide +kernel
theorem dL_667 : decode mL.1 667 = .ok (.invokevirtual 72, 3) := by decide +kernel
theorem dL_670 : decode mL.1 670 = .ok (.if_icmp .eq 875, 3) := by decide +kernel
theorem dL_673 : decode mL.1 673 = .ok (.iconst 0, 1) := by decide +kernel
theorem dL_674 : decode mL.1 674 = .ok (.ireturn, 1) := by decide +kernel
theorem dL_675 : decode mL.1 675 = .ok (.aload_n 1, 1) := by decide +kernel
theorem dL_676 : decode mL.1 676 = .ok (.aload_n 0, 1) := by decide +kernel
theorem dL_677 : decode mL.1 677 = .ok (.iload_n 3, 1) := by decide +kernel
theorem dL_678 : decode mL.1 678 = .ok (.iconst 1, 1) := by decide +kernel
theorem dL_679 : decode mL.1 679 = .ok (.iadd, 1) := by decide +kernel
theorem dL_680 : decode mL.1 680 = .ok (.iaload, 1) := by decide +kernel
theorem dL_681 : decode mL.1 681 = .ok (.invokevirtual 73, 3) := by decide +kernel
theorem dL_684 : decode mL.1 684 = .ok (.aload_n 2, 1) := by decide +kernel
theorem dL_685 : decode mL.1 685 = .ok (.aload_n 0, 1) := by decide +kernel
theorem dL_686 : decode mL.1 686 = .ok (.iload_n 3, 1) := by decide +kernel
theorem dL_687 : decode mL.1 687 = .ok (.iconst 1, 1) := by decide +kernel
theorem dL_688 : decode mL.1 688 = .ok (.iadd, 1) := by decide +kernel
theorem dL_689 : decode mL.1 689 = .ok (.iaload, 1) := by decide +kernel
theorem dL_690 : decode mL.1 690 = .ok (.invokevirtual 76, 3) := by decide +kernel
theorem dL_693 : decode mL.1 693 = .ok (.if_icmp .eq 852, 3) := by decide +kernel
theorem dL_696 : decode mL.1 696 = .ok (.iconst 0, 1) := by decide +kernel
theorem dL_697 : decode mL.1 697 = .ok (.ireturn, 1) := by decide +kernel
theorem dL_698 : decode mL.1 698 = .ok (.aload_n 1, 1) := by decide +kernel
theorem dL_699 : decode mL.1 699 = .ok (.aload_n 0, 1) := by decide +kernel
theorem dL_700 : decode mL.1 700 = .ok (.iload_n 3, 1) := by decide +kernel
theorem dL_701 : decode mL.1 701 = .ok (.iconst 1, 1) := by decide +kernel
theorem dL_702 : decode mL.1 702 = .ok (.iadd, 1) := by decide +kernel
theorem dL_703 : decode mL.1 703 = .ok (.iaload, 1) := by decide +kernel
theorem dL_704 : decode mL.1 704 = .ok (.invokevirtual 77, 3) := by decide +kernel
theorem dL_707 : decode mL.1 707 = .ok (.aload_n 2, 1) := by decide +kernel
theorem dL_708 : decode mL.1 708 = .ok (.aload_n 0, 1) := by decide +kernel
theorem dL_709 : decode mL.1 709 = .ok (.iload_n 3, 1) := by decide +kernel
theorem dL_710 : decode mL.1 710 = .ok (.iconst 1, 1) := by decide +kernel
theorem dL_711 : decode mL.1 711 = .ok (.iadd, 1) := by decide +kernel
theorem dL_712 : decode mL.1 712 = .ok (.iaload, 1) := by decide +kernel
theorem dL_713 : decode mL.1 713 = .ok (.invokevirtual 80, 3) := by decide +kernel
theorem dL_716 : decode mL.1 716 = .ok (.if_icmp .eq 829, 3) := by decide +kernel
theorem dL_719 : decode mL.1 719 = .ok (.iconst 0, 1) := by decide +kernel
theorem dL_720 : decode mL.1 720 = .ok (.ireturn, 1) := by decide +kernel
theorem dL_721 : decode mL.1 721 = .ok (.aload_n 1, 1) := by decide +kernel
theorem dL_722 : decode mL.1 722 = .ok (.aload_n 0, 1) := by decide +kernel
theorem dL_723 : decode mL.1 723 = .ok (.iload_n 3, 1) := by decide +kernel
theorem dL_724 : decode mL.1 724 = .ok (.iconst 1, 1) := by decide +kernel
theorem dL_725 : decode mL.1 725 = .ok (.iadd, 1) := by decide +kernel
theorem dL_726 : decode mL.1 726 = .ok (.iaload, 1) := by decide +kernel
theorem dL_727 : decode mL.1 727 = .ok (.invokevirtual 81, 3) := by decide +kernel
theorem dL_730 : decode mL.1 730 = .ok (.aload_n 2, 1) := by decide +kernel
theorem dL_731 : decode mL.1 731 = .ok (.aload_n 0, 1) := by decide +kernel
theorem dL_732 : decode mL.1 732 = .ok (.iload_n 3, 1) := by decide +kernel
theorem dL_733 : decode mL.1 733 = .ok (.iconst 1, 1) := by decide +kernel
theorem dL_734 : decode mL.1 734 = .ok (.iadd, 1) := by decide +kernel
theorem dL_735 : decode mL.1 735 = .ok (.iaload, 1) := by decide +kernel
theorem dL_736 : decode mL.1 736 = .ok (.invokevirtual 84, 3) := by decide +kernel
theorem dL_739 : decode mL.1 739 = .ok (.if_icmp .eq 806, 3) := by decide +kernel
theorem dL_742 : decode mL.1 742 = .ok (.iconst 0, 1) := by decide +kernel
theorem dL_743 : decode mL.1 743 = .ok (.ireturn, 1) := by decide +kernel
theorem dL_744 : decode mL.1 744 = .ok (.aload_n 1, 1) := by decide +kernel
theorem dL_745 : decode mL.1 745 = .ok (.aload_n 0, 1) := by decide +kernel
theorem dL_746 : decode mL.1 746 = .ok (.iload_n 3, 1) := by decide +kernel
theorem dL_747 : decode mL.1 747 = .ok (.iconst 1, 1) := by decide +kernel
theorem dL_748 : decode mL.1 748 = .ok (.iadd, 1) := by decide +kernel
theorem dL_749 : decode mL.1 749 = .ok (.iaload, 1) := by decide +kernel
theorem dL_750 : decode mL.1 750 = .ok (.aload_n 0, 1) := by decide +kernel
theorem dL_751 : decode mL.1 751 = .ok (.iload_n 3, 1) := by decide +kernel
theorem dL_752 : decode mL.1 752 = .ok (.iconst 2, 1) := by decide +kernel
theorem dL_753 : decode mL.1 753 = .ok (.iadd, 1) := by decide +kernel
theorem dL_754 : decode mL.1 754 = .ok (.iaload, 1) := by decide +kernel
theorem dL_755 : decode mL.1 755 = .ok (.invokevirtual 85, 3) := by decide +kernel
theorem dL_758 : decode mL.1 758 = .ok (.aload_n 2, 1) := by decide +kernel
theorem dL_759 : decode mL.1 759 = .ok (.aload_n 0, 1) := by decide +kernel
theorem dL_760 : decode mL.1 760 = .ok (.iload_n 3, 1) := by decide +kernel
theorem dL_761 : decode mL.1 761 = .ok (.iconst 1, 1) := by decide +kernel
theorem dL_762 : decode mL.1 762 = .ok (.iadd, 1) := by decide +kernel
theorem dL_763 : decode mL.1 763 = .ok (.iaload, 1) := by decide +kernel
theorem dL_764 : decode mL.1 764 = .ok (.aload_n 0, 1) := by decide +kernel
theorem dL_765 : decode mL.1 765 = .ok (.iload_n 3, 1) := by decide +kernel
theorem dL_766 : decode mL.1 766 = .ok (.iconst 2, 1) := by decide +kernel
theorem dL_767 : decode mL.1 767 = .ok (.iadd, 1) := by decide +kernel
theorem dL_768 : decode mL.1 768 = .ok (.iaload, 1) := by decide +kernel
theorem dL_769 : decode mL.1 769 = .ok (.invokevirtual 88, 3) := by decide +kernel
theorem dL_772 : decode mL.1 772 = .ok (.if_icmp .eq 773, 3) := by decide +kernel
theorem dL_775 : decode mL.1 775 = .ok (.iconst 0, 1) := by decide +kernel
theorem dL_776 : decode mL.1 776 = .ok (.ireturn, 1) := by decide +kernel
theorem dL_777 : decode mL.1 777 = .ok (.aload_n 1, 1) := by decide +kernel
theorem dL_778 : decode mL.1 778 = .ok (.aload_n 0, 1) := by decide +kernel
theorem dL_779 : decode mL.1 779 = .ok (.iload_n 3, 1) := by decide +kernel
theorem dL_780 : decode mL.1 780 = .ok (.iconst 1, 1) := by decide +kernel
theorem dL_781 : decode mL.1 781 = .ok (.iadd, 1) := by decide +kernel
theorem dL_782 : decode mL.1 782 = .ok (.iaload, 1) := by decide +kernel
theorem dL_783 : decode mL.1 783 = .ok (.invokevirtual 89, 3) := by decide +kernel
theorem dL_786 : decode mL.1 786 = .ok (.aload_n 2, 1) := by decide +kernel
theorem dL_787 : decode mL.1 787 = .ok (.aload_n 0, 1) := by decide +kernel
theorem dL_788 : decode mL.1 788 = .ok (.iload_n 3, 1) := by decide +kernel
theorem dL_789 : decode mL.1 789 = .ok (.iconst 1, 1) := by decide +kernel
theorem dL_790 : decode mL.1 790 = .ok (.iadd, 1) := by decide +kernel
theorem dL_791 : decode mL.1 791 = .ok (.iaload, 1) := by decide +kernel
theorem dL_792 : decode mL.1 792 = .ok (.invokevirtual 92, 3) := by decide +kernel
theorem dL_795 : decode mL.1 795 = .ok (.if_icmp .eq 750, 3) := by decide +kernel
theorem dL_798 : decode mL.1 798 = .ok (.iconst 0, 1) := by decide +kernel
theorem dL_799 : decode mL.1 799 = .ok (.ireturn, 1) := by decide +kernel
theorem dL_800 : decode mL.1 800 = .ok (.aload_n 1, 1) := by decide +kernel
theorem dL_801 : decode mL.1 801 = .ok (.aload_n 0, 1) := by decide +kernel
theorem dL_802 : decode mL.1 802 = .ok (.iload_n 3, 1) := by decide +kernel
theorem dL_803 : decode mL.1 803 = .ok (.iconst 1, 1) := by decide +kernel
theorem dL_804 : decode mL.1 804 = .ok (.iadd, 1) := by decide +kernel
theorem dL_805 : decode mL.1 805 = .ok (.iaload, 1) := by decide +kernel
theorem dL_806 : decode mL.1 806 = .ok (.invokevirtual 93, 3) := by decide +kernel
theorem dL_809 : decode mL.1 809 = .ok (.aload_n 2, 1) := by decide +kernel
theorem dL_810 : decode mL.1 810 = .ok (.aload_n 0, 1) := by decide +kernel
theorem dL_811 : decode mL.1 811 = .ok (.iload_n 3, 1) := by decide +kernel
theorem dL_812 : decode mL.1 812 = .ok (.iconst 1, 1) := by decide +kernel
theorem dL_813 : decode mL.1 813 = .ok (.iadd, 1) := by decide +kernel
theorem dL_814 : decode mL.1 814 = .ok (.iaload, 1) := by decide +kernel
theorem dL_815 : decode mL.1 815 = .ok (.invokevirtual 96, 3) := by decide +kernel
theorem dL_818 : decode mL.1 818 = .ok (.if_icmp .eq 727, 3) := by decide +kernel
theorem dL_821 : decode mL.1 821 = .ok (.iconst 0, 1) := by decide +kernel
theorem dL_822 : decode mL.1 822 = .ok (.ireturn, 1) := by decide +kernel
theorem dL_823 : decode mL.1 823 = .ok (.aload_n 1, 1) := by decide +kernel
theorem dL_824 : decode mL.1 824 = .ok (.aload_n 0, 1) := by decide +kernel
theorem dL_825 : decode mL.1 825 = .ok (.iload_n 3, 1) := by decide +kernel
theorem dL_826 : decode mL.1 826 = .ok (.iconst 1, 1) := by decide +kernel
theorem dL_827 : decode mL.1 827 = .ok (.iadd, 1) := by decide +kernel
theorem dL_828 : decode mL.1 828 = .ok (.iaload, 1) := by decide +kernel
theorem dL_829 : decode mL.1 829 = .ok (.invokevirtual 97, 3) := by decide +kernel
theorem dL_832 : decode mL.1 832 = .ok (.aload_n 2, 1) := by decide +kernel
theorem dL_833 : decode mL.1 833 = .ok (.aload_n 0, 1) := by decide +kernel
theorem dL_834 : decode mL.1 834 = .ok (.iload_n 3, 1) := by decide +kernel
theorem dL_835 : decode mL.1 835 = .ok (.iconst 1, 1) := by decide +kernel
theorem dL_836 : decode mL.1 836 = .ok (.iadd, 1) := by decide +kernel
theorem dL_837 : decode mL.1 837 = .ok (.iaload, 1) := by decide +kernel
theorem dL_838 : decode mL.1 838 = .ok (.invokevirtual 100, 3) := by decide +kernel
theorem dL_841 : decode mL.1 841 = .ok (.if_icmp .eq 704, 3) := by decide +kernel
theorem dL_844 : decode mL.1 844 = .ok (.iconst 0, 1) := by decide +kernel
theorem dL_845 : decode mL.1 845 = .ok (.ireturn, 1) := by decide +kernel
theorem dL_846 : decode mL.1 846 = .ok (.aload_n 1, 1) := by decide +kernel
theorem dL_847 : decode mL.1 847 = .ok (.invokevirtual 101, 3) := by decide +kernel
theorem dL_850 : decode mL.1 850 = .ok (.aload_n 2, 1) := by decide +kernel
theorem dL_851 : decode mL.1 851 = .ok (.invokevirtual 104, 3) := by decide +kernel
theorem dL_854 : decode mL.1 854 = .ok (.if_icmp .eq 691, 3) := by decide +kernel
theorem dL_857 : decode mL.1 857 = .ok (.iconst 0, 1) := by decide +kernel
theorem dL_858 : decode mL.1 858 = .ok (.ireturn, 1) := by decide +kernel
theorem dL_859 : decode mL.1 859 = .ok (.aload_n 1, 1) := by decide +kernel
theorem dL_860 : decode mL.1 860 = .ok (.aload_n 0, 1) := by decide +kernel
theorem dL_861 : decode mL.1 861 = .ok (.iload_n 3, 1) := by decide +kernel
theorem dL_862 : decode mL.1 862 = .ok (.iconst 1, 1) := by decide +kernel
theorem dL_863 : decode mL.1 863 = .ok (.iadd, 1) := by decide +kernel
theorem dL_864 : decode mL.1 864 = .ok (.iaload, 1) := by decide +kernel
theorem dL_865 : decode mL.1 865 = .ok (.aload_n 0, 1) := by decide +kernel
theorem dL_866 : decode mL.1 866 = .ok (.iload_n 3, 1) := by decide +kernel
theorem dL_867 : decode mL.1 867 = .ok (.iconst 2, 1) := by decide +kernel
theorem dL_868 : decode mL.1 868 = .ok (.iadd, 1) := by decide +kernel
theorem dL_869 : decode mL.1 869 = .ok (.iaload, 1) := by decide +kernel
theorem dL_870 : decode mL.1 870 = .ok (.invokevirtual 105, 3) := by decide +kernel
theorem dL_873 : decode mL.1 873 = .ok (.aload_n 2, 1) := by decide +kernel
theorem dL_874 : decode mL.1 874 = .ok (.aload_n 0, 1) := by decide +kernel
theorem dL_875 : decode mL.1 875 = .ok (.iload_n 3, 1) := by decide +kernel
theorem dL_876 : decode mL.1 876 = .ok (.iconst 1, 1) := by decide +kernel
theorem dL_877 : decode mL.1 877 = .ok (.iadd, 1) := by decide +kernel
theorem dL_878 : decode mL.1 878 = .ok (.iaload, 1) := by decide +kernel
theorem dL_879 : decode mL.1 879 = .ok (.aload_n 0, 1) := by decide +kernel
theorem dL_880 : decode mL.1 880 = .ok (.iload_n 3, 1) := by decide +kernel
theorem dL_881 : decode mL.1 881 = .ok (.iconst 2, 1) := by decide +kernel
theorem dL_882 : decode mL.1 882 = .ok (.iadd, 1) := by decide +kernel
theorem dL_883 : decode mL.1 883 = .ok (.iaload, 1) := by decide +kernel
theorem dL_884 : decode mL.1 884 = .ok (.invokevirtual 108, 3) := by decide +kernel
theorem dL_887 : decode mL.1 887 = .ok (.if_icmp .eq 658, 3) := by decide +kernel
theorem dL_890 : decode mL.1 890 = .ok (.iconst 0, 1) := by decide +kernel
theorem dL_891 : decode mL.1 891 = .ok (.ireturn, 1) := by decide +kernel
theorem dL_892 : decode mL.1 892 = .ok (.aload_n 1, 1) := by decide +kernel
theorem dL_893 : decode mL.1 893 = .ok (.aload_n 0, 1) := by decide +kernel
theorem dL_894 : decode mL.1 894 = .ok (.iload_n 3, 1) := by decide +kernel
theorem dL_895 : decode mL.1 895 = .ok (.iconst 1, 1) := by decide +kernel
theorem dL_896 : decode mL.1 896 = .ok (.iadd, 1) := by decide +kernel
theorem dL_897 : decode mL.1 897 = .ok (.iaload, 1) := by decide +kernel
theorem dL_898 : decode mL.1 898 = .ok (.aload_n 0, 1) := by decide +kernel
theorem dL_899 : decode mL.1 899 = .ok (.iload_n 3, 1) := by decide +kernel
theorem dL_900 : decode mL.1 900 = .ok (.iconst 2, 1) := by decide +kernel
theorem dL_901 : decode mL.1 901 = .ok (.iadd, 1) := by decide +kernel
theorem dL_902 : decode mL.1 902 = .ok (.iaload, 1) := by decide +kernel
theorem dL_903 : decode mL.1 903 = .ok (.aload_n 0, 1) := by decide +kernel
theorem dL_904 : decode mL.1 904 = .ok (.iload_n 3, 1) := by decide +kernel
theorem dL_905 : decode mL.1 905 = .ok (.iconst 3, 1) := by decide +kernel
theorem dL_906 : decode mL.1 906 = .ok (.iadd, 1) := by decide +kernel
theorem dL_907 : decode mL.1 907 = .ok (.iaload, 1) := by decide +kernel
theorem dL_908 : decode mL.1 908 = .ok (.invokevirtual 109, 3) := by decide +kernel
theorem dL_911 : decode mL.1 911 = .ok (.aload_n 2, 1) := by decide +kernel
theorem dL_912 : decode mL.1 912 = .ok (.aload_n 0, 1) := by decide +kernel
theorem dL_913 : decode mL.1 913 = .ok (.iload_n 3, 1) := by decide +kernel
theorem dL_914 : decode mL.1 914 = .ok (.iconst 1, 1) := by decide +kernel
theorem dL_915 : decode mL.1 915 = .ok (.iadd, 1) := by decide +kernel
theorem dL_916 : decode mL.1 916 = .ok (.iaload, 1) := by decide +kernel
theorem dL_917 : decode mL.1 917 = .ok (.aload_n 0, 1) := by decide +kernel
theorem dL_918 : decode mL.1 918 = .ok (.iload_n 3, 1) := by decide +kernel
theorem dL_919 : decode mL.1 919 = .ok (.iconst 2, 1) := by decide +kernel
theorem dL_920 : decode mL.1 920 = .ok (.iadd, 1) := by decide +kernel
theorem dL_921 : decode mL.1 921 = .ok (.iaload, 1) := by decide +kernel
theorem dL_922 : decode mL.1 922 = .ok (.aload_n 0, 1) := by decide +kernel
theorem dL_923 : decode mL.1 923 = .ok (.iload_n 3, 1) := by decide +kernel
theorem dL_924 : decode mL.1 924 = .ok (.iconst 3, 1) := by decide +kernel
theorem dL_925 : decode mL.1 925 = .ok (.iadd, 1) := by decide +kernel
theorem dL_926 : decode mL.1 926 = .ok (.iaload, 1) := by decide +kernel
theorem dL_927 : decode mL.1 927 = .ok (.invokevirtual 112, 3) := by decide +kernel
theorem dL_930 : decode mL.1 930 = .ok (.if_icmp .eq 615, 3) := by decide +kernel
theorem dL_933 : decode mL.1 933 = .ok (.iconst 0, 1) := by decide +kernel
theorem dL_934 : decode mL.1 934 = .ok (.ireturn, 1) := by decide +kernel
theorem dL_935 : decode mL.1 935 = .ok (.aload_n 1, 1) := by decide +kernel
theorem dL_936 : decode mL.1 936 = .ok (.aload_n 0, 1) := by decide +kernel
theorem dL_937 : decode mL.1 937 = .ok (.iload_n 3, 1) := by decide +kernel
theorem dL_938 : decode mL.1 938 = .ok (.iconst 1, 1) := by decide +kernel
theorem dL_939 : decode mL.1 939 = .ok (.iadd, 1) := by decide +kernel
theorem dL_940 : decode mL.1 940 = .ok (.iaload, 1) := by decide +kernel
theorem dL_941 : decode mL.1 941 = .ok (.invokevirtual 113, 3) := by decide +kernel
theorem dL_944 : decode mL.1 944 = .ok (.aload_n 2, 1) := by decide +kernel
theorem dL_945 : decode mL.1 945 = .ok (.aload_n 0, 1) := by decide +kernel
theorem dL_946 : decode mL.1 946 = .ok (.iload_n 3, 1) := by decide +kernel
theorem dL_947 : decode mL.1 947 = .ok (.iconst 1, 1) := by decide +kernel
theorem dL_948 : decode mL.1 948 = .ok (.iadd, 1) := by decide +kernel
theorem dL_949 : decode mL.1 949 = .ok (.iaload, 1) := by decide +kernel
theorem dL_950 : decode mL.1 950 = .ok (.invokevirtual 116, 3) := by decide +kernel
theorem dL_953 : decode mL.1 953 = .ok (.if_icmp .eq 592, 3) := by decide +kernel
theorem dL_956 : decode mL.1 956 = .ok (.iconst 0, 1) := by decide +kernel
theorem dL_957 : decode mL.1 957 = .ok (.ireturn, 1) := by decide +kernel
theorem dL_958 : decode mL.1 958 = .ok (.aload_n 1, 1) := by decide +kernel
theorem dL_959 : decode mL.1 959 = .ok (.aload_n 0, 1) := by decide +kernel
theorem dL_960 : decode mL.1 960 = .ok (.iload_n 3, 1) := by decide +kernel
theorem dL_961 : decode mL.1 961 = .ok (.iconst 1, 1) := by decide +kernel
theorem dL_962 : decode mL.1 962 = .ok (.iadd, 1) := by decide +kernel
theorem dL_963 : decode mL.1 963 = .ok (.iaload, 1) := by decide +kernel
theorem dL_964 : decode mL.1 964 = .ok (.aload_n 0, 1) := by decide +kernel
theorem dL_965 : decode mL.1 965 = .ok (.iload_n 3, 1) := by decide +kernel
theorem dL_966 : decode mL.1 966 = .ok (.iconst 2, 1) := by decide +kernel
theorem dL_967 : decode mL.1 967 = .ok (.iadd, 1) := by decide +kernel
theorem dL_968 : decode mL.1 968 = .ok (.iaload, 1) := by decide +kernel
theorem dL_969 : decode mL.1 969 = .ok (.invokevirtual 117, 3) := by decide +kernel
theorem dL_972 : decode mL.1 972 = .ok (.aload_n 2, 1) := by decide +kernel
theorem dL_973 : decode mL.1 973 = .ok (.aload_n 0, 1) := by decide +kernel
theorem dL_974 : decode mL.1 974 = .ok (.iload_n 3, 1) := by decide +kernel
theorem dL_975 : decode mL.1 975 = .ok (.iconst 1, 1) := by decide +kernel
theorem dL_976 : decode mL.1 976 = .ok (.iadd, 1) := by decide +kernel
theorem dL_977 : decode mL.1 977 = .ok (.iaload, 1) := by decide +kernel
theorem dL_978 : decode mL.1 978 = .ok (.aload_n 0, 1) := by decide +kernel
theorem dL_979 : decode mL.1 979 = .ok (.iload_n 3, 1) := by decide +kernel
theorem dL_980 : decode mL.1 980 = .ok (.iconst 2, 1) := by decide +kernel
theorem dL_981 : decode mL.1 981 = .ok (.iadd, 1) := by decide +kernel
theorem dL_982 : decode mL.1 982 = .ok (.iaload, 1) := by decide +kernel
theorem dL_983 : decode mL.1 983 = .ok (.invokevirtual 120, 3) := by decide +kernel
theorem dL_986 : decode mL.1 986 = .ok (.if_icmp .eq 559, 3) := by decide +kernel
theorem dL_989 : decode mL.1 989 = .ok (.iconst 0, 1) := by decide +kernel
theorem dL_990 : decode mL.1 990 = .ok (.ireturn, 1) := by decide +kernel
theorem dL_991 : decode mL.1 991 = .ok (.aload_n 1, 1) := by decide +kernel
theorem dL_992 : decode mL.1 992 = .ok (.invokevirtual 121, 3) := by decide +kernel
theorem dL_995 : decode mL.1 995 = .ok (.aload_n 2, 1) := by decide +kernel
theorem dL_996 : decode mL.1 996 = .ok (.invokevirtual 124, 3) := by decide +kernel
theorem dL_999 : decode mL.1 999 = .ok (.if_icmp .eq 546, 3) := by decide +kernel
theorem dL_1002 : decode mL.1 1002 = .ok (.iconst 0, 1) := by decide +kernel
theorem dL_1003 : decode mL.1 1003 = .ok (.ireturn, 1) := by decide +kernel
theorem dL_1004 : decode mL.1 1004 = .ok (.aload_n 1, 1) := by decide +kernel
theorem dL_1005 : decode mL.1 1005 = .ok (.aload_n 0, 1) := by decide +kernel
theorem dL_1006 : decode mL.1 1006 = .ok (.iload_n 3, 1) := by decide +kernel
theorem dL_1007 : decode mL.1 1007 = .ok (.iconst 1, 1) := by decide +kernel
theorem dL_1008 : decode mL.1 1008 = .ok (.iadd, 1) := by decide +kernel
theorem dL_1009 : decode mL.1 1009 = .ok (.iaload, 1) := by decide +kernel
theorem dL_1010 : decode mL.1 1010 = .ok (.invokevirtual 125, 3) := by decide +kernel
theorem dL_1013 : decode mL.1 1013 = .ok (.aload_n 2, 1) := by decide +kernel
theorem dL_1014 : decode mL.1 1014 = .ok (.aload_n 0, 1) := by decide +kernel
theorem dL_1015 : decode mL.1 1015 = .ok (.iload_n 3, 1) := by decide +kernel
theorem dL_1016 : decode mL.1 1016 = .ok (.iconst 1, 1) := by decide +kernel
theorem dL_1017 : decode mL.1 1017 = .ok (.iadd, 1) := by decide +kernel
theorem dL_1018 : decode mL.1 1018 = .ok (.iaload, 1) := by decide +kernel
theorem dL_1019 : decode mL.1 1019 = .ok (.invokevirtual 128, 3) := by decide +kernel
theorem dL_1022 : decode mL.1 1022 = .ok (.if_icmp .eq 523, 3) := by decide +kernel
theorem dL_1025 : decode mL.1 1025 = .ok (.iconst 0, 1) := by decide +kernel
theorem dL_1026 : decode mL.1 1026 = .ok (.ireturn, 1) := by decide +kernel
theorem dL_1027 : decode mL.1 1027 = .ok (.aload_n 1, 1) := by decide +kernel
theorem dL_1028 : decode mL.1 1028 = .ok (.aload_n 0, 1) := by decide +kernel
theorem dL_1029 : decode mL.1 1029 = .ok (.iload_n 3, 1) := by decide +kernel
theorem dL_1030 : decode mL.1 1030 = .ok (.iconst 1, 1) := by decide +kernel
theorem dL_1031 : decode mL.1 1031 = .ok (.iadd, 1) := by decide +kernel
theorem dL_1032 : decode mL.1 1032 = .ok (.iaload, 1) := by decide +kernel
theorem dL_1033 : decode mL.1 1033 = .ok (.invokevirtual 129, 3) := by decide +kernel
theorem dL_1036 : decode mL.1 1036 = .ok (.aload_n 2, 1) := by decide +kernel
theorem dL_1037 : decode mL.1 1037 = .ok (.aload_n 0, 1) := by decide +kernel
theorem dL_1038 : decode mL.1 1038 = .ok (.iload_n 3, 1) := by decide +kernel
theorem dL_1039 : decode mL.1 1039 = .ok (.iconst 1, 1) := by decide +kernel
theorem dL_1040 : decode mL.1 1040 = .ok (.iadd, 1) := by decide +kernel
theorem dL_1041 : decode mL.1 1041 = .ok (.iaload, 1) := by decide +kernel
theorem dL_1042 : decode mL.1 1042 = .ok (.invokevirtual 132, 3) := by decide +kernel
theorem dL_1045 : decode mL.1 1045 = .ok (.if_icmp .eq 500, 3) := by decide +kernel
theorem dL_1048 : decode mL.1 1048 = .ok (.iconst 0, 1) := by decide +kernel
theorem dL_1049 : decode mL.1 1049 = .ok (.ireturn, 1) := by decide +kernel
theorem dL_1050 : decode mL.1 1050 = .ok (.aload_n 1, 1) := by decide +kernel
theorem dL_1051 : decode mL.1 1051 = .ok (.aload_n 0, 1) := by decide +kernel
theorem dL_1052 : decode mL.1 1052 = .ok (.iload_n 3, 1) := by decide +kernel
theorem dL_1053 : decode mL.1 1053 = .ok (.iconst 1, 1) := by decide +kernel
theorem dL_1054 : decode mL.1 1054 = .ok (.iadd, 1) := by decide +kernel
theorem dL_1055 : decode mL.1 1055 = .ok (.iaload, 1) := by decide +kernel
theorem dL_1056 : decode mL.1 1056 = .ok (.invokevirtual 133, 3) := by decide +kernel
theorem dL_1059 : decode mL.1 1059 = .ok (.aload_n 2, 1) := by decide +kernel
theorem dL_1060 : decode mL.1 1060 = .ok (.aload_n 0, 1) := by decide +kernel
theorem dL_1061 : decode mL.1 1061 = .ok (.iload_n 3, 1) := by decide +kernel
theorem dL_1062 : decode mL.1 1062 = .ok (.iconst 1, 1) := by decide +kernel
theorem dL_1063 : decode mL.1 1063 = .ok (.iadd, 1) := by decide +kernel
theorem dL_1064 : decode mL.1 1064 = .ok (.iaload, 1) := by decide +kernel
theorem dL_1065 : decode mL.1 1065 = .ok (.invokevirtual 136, 3) := by decide +kernel
theorem dL_1068 : decode mL.1 1068 = .ok (.if_icmp .eq 477, 3) := by decide +kernel
theorem dL_1071 : decode mL.1 1071 = .ok (.iconst 0, 1) := by decide +kernel
theorem dL_1072 : decode mL.1 1072 = .ok (.ireturn, 1) := by decide +kernel
theorem dL_1073 : decode mL.1 1073 = .ok (.aload_n 1, 1) := by decide +kernel
theorem dL_1074 : decode mL.1 1074 = .ok (.aload_n 0, 1) := by decide +kernel
theorem dL_1075 : decode mL.1 1075 = .ok (.iload_n 3, 1) := by decide +kernel
theorem dL_1076 : decode mL.1 1076 = .ok (.iconst 1, 1) := by decide +kernel
theorem dL_1077 : decode mL.1 1077 = .ok (.iadd, 1) := by decide +kernel
theorem dL_1078 : decode mL.1 1078 = .ok (.iaload, 1) := by decide +kernel
theorem dL_1079 : decode mL.1 1079 = .ok (.aload_n 0, 1) := by decide +kernel
theorem dL_1080 : decode mL.1 1080 = .ok (.iload_n 3, 1) := by decide +kernel
theorem dL_1081 : decode mL.1 1081 = .ok (.iconst 2, 1) := by decide +kernel
theorem dL_1082 : decode mL.1 1082 = .ok (.iadd, 1) := by decide +kernel
theorem dL_1083 : decode mL.1 1083 = .ok (.iaload, 1) := by decide +kernel
theorem dL_1084 : decode mL.1 1084 = .ok (.invokevirtual 137, 3) := by decide +kernel
theorem dL_1087 : decode mL.1 1087 = .ok (.aload_n 2, 1) := by decide +kernel
theorem dL_1088 : decode mL.1 1088 = .ok (.aload_n 0, 1) := by decide +kernel
theorem dL_1089 : decode mL.1 1089 = .ok (.iload_n 3, 1) := by decide +kernel
theorem dL_1090 : decode mL.1 1090 = .ok (.iconst 1, 1) := by decide +kernel
theorem dL_1091 : decode mL.1 1091 = .ok (.iadd, 1) := by decide +kernel
theorem dL_1092 : decode mL.1 1092 = .ok (.iaload, 1) := by decide +kernel
theorem dL_1093 : decode mL.1 1093 = .ok (.aload_n 0, 1) := by decide +kernel
theorem dL_1094 : decode mL.1 1094 = .ok (.iload_n 3, 1) := by decide +kernel
theorem dL_1095 : decode mL.1 1095 = .ok (.iconst 2, 1) := by decide +kernel
theorem dL_1096 : decode mL.1 1096 = .ok (.iadd, 1) := by decide +kernel
theorem dL_1097 : decode mL.1 1097 = .ok (.iaload, 1) := by decide +kernel
theorem dL_1098 : decode mL.1 1098 = .ok (.invokevirtual 140, 3) := by decide +kernel
theorem dL_1101 : decode mL.1 1101 = .ok (.if_icmp .eq 444, 3) := by decide +kernel
theorem dL_1104 : decode mL.1 1104 = .ok (.iconst 0, 1) := by decide +kernel
theorem dL_1105 : decode mL.1 1105 = .ok (.ireturn, 1) := by decide +kernel
theorem dL_1106 : decode mL.1 1106 = .ok (.aload_n 1, 1) := by decide +kernel
theorem dL_1107 : decode mL.1 1107 = .ok (.aload_n 0, 1) := by decide +kernel
theorem dL_1108 : decode mL.1 1108 = .ok (.iload_n 3, 1) := by decide +kernel
theorem dL_1109 : decode mL.1 1109 = .ok (.iconst 1, 1) := by decide +kernel
theorem dL_1110 : decode mL.1 1110 = .ok (.iadd, 1) := by decide +kernel
theorem dL_1111 : decode mL.1 1111 = .ok (.iaload, 1) := by decide +kernel
theorem dL_1112 : decode mL.1 1112 = .ok (.aload_n 0, 1) := by decide +kernel
theorem dL_1113 : decode mL.1 1113 = .ok (.iload_n 3, 1) := by decide +kernel
theorem dL_1114 : decode mL.1 1114 = .ok (.iconst 2, 1) := by decide +kernel
theorem dL_1115 : decode mL.1 1115 = .ok (.iadd, 1) := by decide +kernel
theorem dL_1116 : decode mL.1 1116 = .ok (.iaload, 1) := by decide +kernel
theorem dL_1117 : decode mL.1 1117 = .ok (.aload_n 0, 1) := by decide +kernel
theorem dL_1118 : decode mL.1 1118 = .ok (.iload_n 3, 1) := by decide +kernel
theorem dL_1119 : decode mL.1 1119 = .ok (.iconst 3, 1) := by decide +kernel
theorem dL_1120 : decode mL.1 1120 = .ok (.iadd, 1) := by decide +kernel
theorem dL_1121 : decode mL.1 1121 = .ok (.iaload, 1) := by decide +kernel
theorem dL_1122 : decode mL.1 1122 = .ok (.invokevirtual 141, 3) := by decide +kernel
theorem dL_1125 : decode mL.1 1125 = .ok (.aload_n 2, 1) := by decide +kernel
theorem dL_1126 : decode mL.1 1126 = .ok (.aload_n 0, 1) := by decide +kernel
theorem dL_1127 : decode mL.1 1127 = .ok (.iload_n 3, 1) := by decide +kernel
theorem dL_1128 : decode mL.1 1128 = .ok (.iconst 1, 1) := by decide +kernel
theorem dL_1129 : decode mL.1 1129 = .ok (.iadd, 1) := by decide +kernel
theorem dL_1130 : decode mL.1 1130 = .ok (.iaload, 1) := by decide +kernel
theorem dL_1131 : decode mL.1 1131 = .ok (.aload_n 0, 1) := by decide +kernel
theorem dL_1132 : decode mL.1 1132 = .ok (.iload_n 3, 1) := by decide +kernel
theorem dL_1133 : decode mL.1 1133 = .ok (.iconst 2, 1) := by decide +kernel
theorem dL_1134 : decode mL.1 1134 = .ok (.iadd, 1) := by decide +kernel
theorem dL_1135 : decode mL.1 1135 = .ok (.iaload, 1) := by decide +kernel
theorem dL_1136 : decode mL.1 1136 = .ok (.aload_n 0, 1) := by decide +kernel
theorem dL_1137 : decode mL.1 1137 = .ok (.iload_n 3, 1) := by decide +kernel
theorem dL_1138 : decode mL.1 1138 = .ok (.iconst 3, 1) := by decide +kernel
theorem dL_1139 : decode mL.1 1139 = .ok (.iadd, 1) := by decide +kernel
theorem dL_1140 : decode mL.1 1140 = .ok (.iaload, 1) := by decide +kernel
theorem dL_1141 : decode mL.1 1141 = .ok (.invokevirtual 144, 3) := by decide +kernel
theorem dL_1144 : decode mL.1 1144 = .ok (.if_icmp .eq 401, 3) := by decide +kernel
theorem dL_1147 : decode mL.1 1147 = .ok (.iconst 0, 1) := by decide +kernel
theorem dL_1148 : decode mL.1 1148 = .ok (.ireturn, 1) := by decide +kernel
theorem dL_1149 : decode mL.1 1149 = .ok (.aload_n 1, 1) := by decide +kernel
theorem dL_1150 : decode mL.1 1150 = .ok (.aload_n 0, 1) := by decide +kernel
theorem dL_1151 : decode mL.1 1151 = .ok (.iload_n 3, 1) := by decide +kernel
theorem dL_1152 : decode mL.1 1152 = .ok (.iconst 1, 1) := by decide +kernel
theorem dL_1153 : decode mL.1 1153 = .ok (.iadd, 1) := by decide +kernel
theorem dL_1154 : decode mL.1 1154 = .ok (.iaload, 1) := by decide +kernel
theorem dL_1155 : decode mL.1 1155 = .ok (.invokevirtual 145, 3) := by decide +kernel
theorem dL_1158 : decode mL.1 1158 = .ok (.aload_n 2, 1) := by decide +kernel
theorem dL_1159 : decode mL.1 1159 = .ok (.aload_n 0, 1) := by decide +kernel
theorem dL_1160 : decode mL.1 1160 = .ok (.iload_n 3, 1) := by decide +kernel
theorem dL_1161 : decode mL.1 1161 = .ok (.iconst 1, 1) := by decide +kernel
theorem dL_1162 : decode mL.1 1162 = .ok (.iadd, 1) := by decide +kernel
theorem dL_1163 : decode mL.1 1163 = .ok (.iaload, 1) := by decide +kernel
theorem dL_1164 : decode mL.1 1164 = .ok (.invokevirtual 148, 3) := by decide +kernel
theorem dL_1167 : decode mL.1 1167 = .ok (.if_icmp .eq 378, 3) := by decide +kernel
theorem dL_1170 : decode mL.1 1170 = .ok (.iconst 0, 1) := by decide +kernel
theorem dL_1171 : decode mL.1 1171 = .ok (.ireturn, 1) := by decide +kernel
theorem dL_1172 : decode mL.1 1172 = .ok (.aload_n 1, 1) := by decide +kernel
theorem dL_1173 : decode mL.1 1173 = .ok (.aload_n 0, 1) := by decide +kernel
theorem dL_1174 : decode mL.1 1174 = .ok (.iload_n 3, 1) := by decide +kernel
theorem dL_1175 : decode mL.1 1175 = .ok (.iconst 1, 1) := by decide +kernel
theorem dL_1176 : decode mL.1 1176 = .ok (.iadd, 1) := by decide +kernel
theorem dL_1177 : decode mL.1 1177 = .ok (.iaload, 1) := by decide +kernel
theorem dL_1178 : decode mL.1 1178 = .ok (.aload_n 0, 1) := by decide +kernel
theorem dL_1179 : decode mL.1 1179 = .ok (.iload_n 3, 1) := by decide +kernel
theorem dL_1180 : decode mL.1 1180 = .ok (.iconst 2, 1) := by decide +kernel
theorem dL_1181 : decode mL.1 1181 = .ok (.iadd, 1) := by decide +kernel
theorem dL_1182 : decode mL.1 1182 = .ok (.iaload, 1) := by decide +kernel
theorem dL_1183 : decode mL.1 1183 = .ok (.aload_n 0, 1) := by decide +kernel
theorem dL_1184 : decode mL.1 1184 = .ok (.iload_n 3, 1) := by decide +kernel
theorem dL_1185 : decode mL.1 1185 = .ok (.iconst 3, 1) := by decide +kernel
theorem dL_1186 : decode mL.1 1186 = .ok (.iadd, 1) := by decide +kernel
theorem dL_1187 : decode mL.1 1187 = .ok (.iaload, 1) := by decide +kernel
theorem dL_1188 : decode mL.1 1188 = .ok (.aload_n 0, 1) := by decide +kernel
theorem dL_1189 : decode mL.1 1189 = .ok (.iload_n 3, 1) := by decide +kernel
theorem dL_1190 : decode mL.1 1190 = .ok (.iconst 4, 1) := by decide +kernel
theorem dL_1191 : decode mL.1 1191 = .ok (.iadd, 1) := by decide +kernel
theorem dL_1192 : decode mL.1 1192 = .ok (.iaload, 1) := by decide +kernel
theorem dL_1193 : decode mL.1 1193 = .ok (.invokevirtual 149, 3) := by decide +kernel
theorem dL_1196 : decode mL.1 1196 = .ok (.aload_n 2, 1) := by decide +kernel
theorem dL_1197 : decode mL.1 1197 = .ok (.aload_n 0, 1) := by decide +kernel
theorem dL_1198 : decode mL.1 1198 = .ok (.iload_n 3, 1) := by decide +kernel
theorem dL_1199 : decode mL.1 1199 = .ok (.iconst 1, 1) := by decide +kernel
theorem dL_1200 : decode mL.1 1200 = .ok (.iadd, 1) := by decide +kernel
theorem dL_1201 : decode mL.1 1201 = .ok (.iaload, 1) := by decide +kernel
theorem dL_1202 : decode mL.1 1202 = .ok (.aload_n 0, 1) := by decide +kernel
theorem dL_1203 : decode mL.1 1203 = .ok (.iload_n 3, 1) := by decide +kernel
theorem dL_1204 : decode mL.1 1204 = .ok (.iconst 2, 1) := by decide +kernel
theorem dL_1205 : decode mL.1 1205 = .ok (.iadd, 1) := by decide +kernel
theorem dL_1206 : decode mL.1 1206 = .ok (.iaload, 1) := by decide +kernel
theorem dL_1207 : decode mL.1 1207 = .ok (.aload_n 0, 1) := by decide +kernel
theorem dL_1208 : decode mL.1 1208 = .ok (.iload_n 3, 1) := by decide +kernel
theorem dL_1209 : decode mL.1 1209 = .ok (.iconst 3, 1) := by decide +kernel
theorem dL_1210 : decode mL.1 1210 = .ok (.iadd, 1) := by decide +kernel
theorem dL_1211 : decode mL.1 1211 = .ok (.iaload, 1) := by decide +kernel
theorem dL_1212 : decode mL.1 1212 = .ok (.aload_n 0, 1) := by decide +kernel
theorem dL_1213 : decode mL.1 1213 = .ok (.iload_n 3, 1) := by decide +kernel
theorem dL_1214 : decode mL.1 1214 = .ok (.iconst 4, 1) := by decide +kernel
theorem dL_1215 : decode mL.1 1215 = .ok (.iadd, 1) := by decide +kernel
theorem dL_1216 : decode mL.1 1216 = .ok (.iaload, 1) := by decide +kernel
theorem dL_1217 : decode mL.1 1217 = .ok (.invokevirtual 153, 3) := by decide +kernel
theorem dL_1220 : decode mL.1 1220 = .ok (.if_icmp .eq 325, 3) := by decide +kernel
theorem dL_1223 : decode mL.1 1223 = .ok (.iconst 0, 1) := by decide +kernel
theorem dL_1224 : decode mL.1 1224 = .ok (.ireturn, 1) := by decide +kernel
theorem dL_1225 : decode mL.1 1225 = .ok (.aload_n 1, 1) := by decide +kernel
theorem dL_1226 : decode mL.1 1226 = .ok (.aload_n 0, 1) := by decide +kernel
theorem dL_1227 : decode mL.1 1227 = .ok (.iload_n 3, 1) := by decide +kernel
theorem dL_1228 : decode mL.1 1228 = .ok (.iconst 1, 1) := by decide +kernel
theorem dL_1229 : decode mL.1 1229 = .ok (.iadd, 1) := by decide +kernel
theorem dL_1230 : decode mL.1 1230 = .ok (.iaload, 1) := by decide +kernel
theorem dL_1231 : decode mL.1 1231 = .ok (.aload_n 0, 1) := by decide +kernel
theorem dL_1232 : decode mL.1 1232 = .ok (.iload_n 3, 1) := by decide +kernel
theorem dL_1233 : decode mL.1 1233 = .ok (.iconst 2, 1) := by decide +kernel
theorem dL_1234 : decode mL.1 1234 = .ok (.iadd, 1) := by decide +kernel
theorem dL_1235 : decode mL.1 1235 = .ok (.iaload, 1) := by decide +kernel
theorem dL_1236 : decode mL.1 1236 = .ok (.aload_n 0, 1) := by decide +kernel
theorem dL_1237 : decode mL.1 1237 = .ok (.iload_n 3, 1) := by decide +kernel
theorem dL_1238 : decode mL.1 1238 = .ok (.iconst 3, 1) := by decide +kernel
theorem dL_1239 : decode mL.1 1239 = .ok (.iadd, 1) := by decide +kernel
theorem dL_1240 : decode mL.1 1240 = .ok (.iaload, 1) := by decide +kernel
theorem dL_1241 : decode mL.1 1241 = .ok (.invokevirtual 154, 3) := by decide +kernel
theorem dL_1244 : decode mL.1 1244 = .ok (.aload_n 2, 1) := by decide +kernel
theorem dL_1245 : decode mL.1 1245 = .ok (.aload_n 0, 1) := by decide +kernel
theorem dL_1246 : decode mL.1 1246 = .ok (.iload_n 3, 1) := by decide +kernel
theorem dL_1247 : decode mL.1 1247 = .ok (.iconst 1, 1) := by decide +kernel
theorem dL_1248 : decode mL.1 1248 = .ok (.iadd, 1) := by decide +kernel
theorem dL_1249 : decode mL.1 1249 = .ok (.iaload, 1) := by decide +kernel
theorem dL_1250 : decode mL.1 1250 = .ok (.aload_n 0, 1) := by decide +kernel
theorem dL_1251 : decode mL.1 1251 = .ok (.iload_n 3, 1) := by decide +kernel
theorem dL_1252 : decode mL.1 1252 = .ok (.iconst 2, 1) := by decide +kernel
theorem dL_1253 : decode mL.1 1253 = .ok (.iadd, 1) := by decide +kernel
theorem dL_1254 : decode mL.1 1254 = .ok (.iaload, 1) := by decide +kernel
theorem dL_1255 : decode mL.1 1255 = .ok (.aload_n 0, 1) := by decide +kernel
theorem dL_1256 : decode mL.1 1256 = .ok (.iload_n 3, 1) := by decide +kernel
theorem dL_1257 : decode mL.1 1257 = .ok (.iconst 3, 1) := by decide +kernel
theorem dL_1258 : decode mL.1 1258 = .ok (.iadd, 1) := by decide +kernel
theorem dL_1259 : decode mL.1 1259 = .ok (.iaload, 1) := by decide +kernel
theorem dL_1260 : decode mL.1 1260 = .ok (.invokevirtual 157, 3) := by decide +kernel
theorem dL_1263 : decode mL.1 1263 = .ok (.if_icmp .eq 282, 3) := by decide +kernel
theorem dL_1266 : decode mL.1 1266 = .ok (.iconst 0, 1) := by decide +kernel
theorem dL_1267 : decode mL.1 1267 = .ok (.ireturn, 1) := by decide +kernel
theorem dL_1268 : decode mL.1 1268 = .ok (.aload_n 1, 1) := by decide +kernel
theorem dL_1269 : decode mL.1 1269 = .ok (.aload_n 0, 1) := by decide +kernel
theorem dL_1270 : decode mL.1 1270 = .ok (.iload_n 3, 1) := by decide +kernel
theorem dL_1271 : decode mL.1 1271 = .ok (.iconst 1, 1) := by decide +kernel
theorem dL_1272 : decode mL.1 1272 = .ok (.iadd, 1) := by decide +kernel
theorem dL_1273 : decode mL.1 1273 = .ok (.iaload, 1) := by decide +kernel
theorem dL_1274 : decode mL.1 1274 = .ok (.aload_n 0, 1) := by decide +kernel
theorem dL_1275 : decode mL.1 1275 = .ok (.iload_n 3, 1) := by decide +kernel
theorem dL_1276 : decode mL.1 1276 = .ok (.iconst 2, 1) := by decide +kernel
theorem dL_1277 : decode mL.1 1277 = .ok (.iadd, 1) := by decide +kernel
theorem dL_1278 : decode mL.1 1278 = .ok (.iaload, 1) := by decide +kernel
theorem dL_1279 : decode mL.1 1279 = .ok (.aload_n 0, 1) := by decide +kernel
theorem dL_1280 : decode mL.1 1280 = .ok (.iload_n 3, 1) := by decide +kernel
theorem dL_1281 : decode mL.1 1281 = .ok (.iconst 3, 1) := by decide +kernel
theorem dL_1282 : decode mL.1 1282 = .ok (.iadd, 1) := by decide +kernel
theorem dL_1283 : decode mL.1 1283 = .ok (.iaload, 1) := by decide +kernel
theorem dL_1284 : decode mL.1 1284 = .ok (.invokevirtual 158, 3) := by decide +kernel
theorem dL_1287 : decode mL.1 1287 = .ok (.aload_n 2, 1) := by decide +kernel
theorem dL_1288 : decode mL.1 1288 = .ok (.aload_n 0, 1) := by decide +kernel
theorem dL_1289 : decode mL.1 1289 = .ok (.iload_n 3, 1) := by decide +kernel
theorem dL_1290 : decode mL.1 1290 = .ok (.iconst 1, 1) := by decide +kernel
theorem dL_1291 : decode mL.1 1291 = .ok (.iadd, 1) := by decide +kernel
theorem dL_1292 : decode mL.1 1292 = .ok (.iaload, 1) := by decide +kernel
theorem dL_1293 : decode mL.1 1293 = .ok (.aload_n 0, 1) := by decide +kernel
theorem dL_1294 : decode mL.1 1294 = .ok (.iload_n 3, 1) := by decide +kernel
theorem dL_1295 : decode mL.1 1295 = .ok (.iconst 2, 1) := by decide +kernel
theorem dL_1296 : decode mL.1 1296 = .ok (.iadd, 1) := by decide +kernel
theorem dL_1297 : decode mL.1 1297 = .ok (.iaload, 1) := by decide +kernel
theorem dL_1298 : decode mL.1 1298 = .ok (.aload_n 0, 1) := by decide +kernel
theorem dL_1299 : decode mL.1 1299 = .ok (.iload_n 3, 1) := by decide +kernel
theorem dL_1300 : decode mL.1 1300 = .ok (.iconst 3, 1) := by decide +kernel
theorem dL_1301 : decode mL.1 1301 = .ok (.iadd, 1) := by decide +kernel
theorem dL_1302 : decode mL.1 1302 = .ok (.iaload, 1) := by decide +kernel
theorem dL_1303 : decode mL.1 1303 = .ok (.invokevirtual 161, 3) := by decide +kernel
theorem dL_1306 : decode mL.1 1306 = .ok (.if_icmp .eq 239, 3) := by decide +kernel
theorem dL_1309 : decode mL.1 1309 = .ok (.iconst 0, 1) := by decide +kernel
theorem dL_1310 : decode mL.1 1310 = .ok (.ireturn, 1) := by decide +kernel
theorem dL_1311 : decode mL.1 1311 = .ok (.aload_n 1, 1) := by decide +kernel
theorem dL_1312 : decode mL.1 1312 = .ok (.aload_n 0, 1) := by decide +kernel
theorem dL_1313 : decode mL.1 1313 = .ok (.iload_n 3, 1) := by decide +kernel
theorem dL_1314 : decode mL.1 1314 = .ok (.iconst 1, 1) := by decide +kernel
theorem dL_1315 : decode mL.1 1315 = .ok (.iadd, 1) := by decide +kernel
theorem dL_1316 : decode mL.1 1316 = .ok (.iaload, 1) := by decide +kernel
theorem dL_1317 : decode mL.1 1317 = .ok (.aload_n 0, 1) := by decide +kernel
theorem dL_1318 : decode mL.1 1318 = .ok (.iload_n 3, 1) := by decide +kernel
theorem dL_1319 : decode mL.1 1319 = .ok (.iconst 2, 1) := by decide +kernel
theorem dL_1320 : decode mL.1 1320 = .ok (.iadd, 1) := by decide +kernel
theorem dL_1321 : decode mL.1 1321 = .ok (.iaload, 1) := by decide +kernel
theorem dL_1322 : decode mL.1 1322 = .ok (.aload_n 0, 1) := by decide +kernel
theorem dL_1323 : decode mL.1 1323 = .ok (.iload_n 3, 1) := by decide +kernel
theorem dL_1324 : decode mL.1 1324 = .ok (.iconst 3, 1) := by decide +kernel
theorem dL_1325 : decode mL.1 1325 = .ok (.iadd, 1) := by decide +kernel
theorem dL_1326 : decode mL.1 1326 = .ok (.iaload, 1) := by decide +kernel
theorem dL_1327 : decode mL.1 1327 = .ok (.invokevirtual 162, 3) := by decide +kernel
theorem dL_1330 : decode mL.1 1330 = .ok (.aload_n 2, 1) := by decide +kernel
theorem dL_1331 : decode mL.1 1331 = .ok (.aload_n 0, 1) := by decide +kernel
theorem dL_1332 : decode mL.1 1332 = .ok (.iload_n 3, 1) := by decide +kernel
theorem dL_1333 : decode mL.1 1333 = .ok (.iconst 1, 1) := by decide +kernel
theorem dL_1334 : decode mL.1 1334 = .ok (.iadd, 1) := by decide +kernel
theorem dL_1335 : decode mL.1 1335 = .ok (.iaload, 1) := by decide +kernel
theorem dL_1336 : decode mL.1 1336 = .ok (.aload_n 0, 1) := by decide +kernel
theorem dL_1337 : decode mL.1 1337 = .ok (.iload_n 3, 1) := by decide +kernel
theorem dL_1338 : decode mL.1 1338 = .ok (.iconst 2, 1) := by decide +kernel
theorem dL_1339 : decode mL.1 1339 = .ok (.iadd, 1) := by decide +kernel
theorem dL_1340 : decode mL.1 1340 = .ok (.iaload, 1) := by decide +kernel
theorem dL_1341 : decode mL.1 1341 = .ok (.aload_n 0, 1) := by decide +kernel
theorem dL_1342 : decode mL.1 1342 = .ok (.iload_n 3, 1) := by decide +kernel
theorem dL_1343 : decode mL.1 1343 = .ok (.iconst 3, 1) := by decide +kernel
theorem dL_1344 : decode mL.1 1344 = .ok (.iadd, 1) := by decide +kernel
theorem dL_1345 : decode mL.1 1345 = .ok (.iaload, 1) := by decide +kernel
theorem dL_1346 : decode mL.1 1346 = .ok (.invokevirtual 165, 3) := by decide +kernel
theorem dL_1349 : decode mL.1 1349 = .ok (.if_icmp .eq 196, 3) := by decide +kernel
theorem dL_1352 : decode mL.1 1352 = .ok (.iconst 0, 1) := by decide +kernel
theorem dL_1353 : decode mL.1 1353 = .ok (.ireturn, 1) := by decide +kernel
theorem dL_1354 : decode mL.1 1354 = .ok (.aload_n 1, 1) := by decide +kernel
theorem dL_1355 : decode mL.1 1355 = .ok (.aload_n 0, 1) := by decide +kernel
theorem dL_1356 : decode mL.1 1356 = .ok (.iload_n 3, 1) := by decide +kernel
theorem dL_1357 : decode mL.1 1357 = .ok (.iconst 1, 1) := by decide +kernel
theorem dL_1358 : decode mL.1 1358 = .ok (.iadd, 1) := by decide +kernel
theorem dL_1359 : decode mL.1 1359 = .ok (.iaload, 1) := by decide +kernel
theorem dL_1360 : decode mL.1 1360 = .ok (.aload_n 0, 1) := by decide +kernel
theorem dL_1361 : decode mL.1 1361 = .ok (.iload_n 3, 1) := by decide +kernel
theorem dL_1362 : decode mL.1 1362 = .ok (.iconst 2, 1) := by decide +kernel
theorem dL_1363 : decode mL.1 1363 = .ok (.iadd, 1) := by decide +kernel
theorem dL_1364 : decode mL.1 1364 = .ok (.iaload, 1) := by decide +kernel
theorem dL_1365 : decode mL.1 1365 = .ok (.aload_n 0, 1) := by decide +kernel
theorem dL_1366 : decode mL.1 1366 = .ok (.iload_n 3, 1) := by decide +kernel
theorem dL_1367 : decode mL.1 1367 = .ok (.iconst 3, 1) := by decide +kernel
theorem dL_1368 : decode mL.1 1368 = .ok (.iadd, 1) := by decide +kernel
theorem dL_1369 : decode mL.1 1369 = .ok (.iaload, 1) := by decide +kernel
theorem dL_1370 : decode mL.1 1370 = .ok (.invokevirtual 166, 3) := by decide +kernel
theorem dL_1373 : decode mL.1 1373 = .ok (.aload_n 2, 1) := by decide +kernel
theorem dL_1374 : decode mL.1 1374 = .ok (.aload_n 0, 1) := by decide +kernel
theorem dL_1375 : decode mL.1 1375 = .ok (.iload_n 3, 1) := by decide +kernel
theorem dL_1376 : decode mL.1 1376 = .ok (.iconst 1, 1) := by decide +kernel
theorem dL_1377 : decode mL.1 1377 = .ok (.iadd, 1) := by decide +kernel
theorem dL_1378 : decode mL.1 1378 = .ok (.iaload, 1) := by decide +kernel
theorem dL_1379 : decode mL.1 1379 = .ok (.aload_n 0, 1) := by decide +kernel
theorem dL_1380 : decode mL.1 1380 = .ok (.iload_n 3, 1) := by decide +kernel
theorem dL_1381 : decode mL.1 1381 = .ok (.iconst 2, 1) := by decide +kernel
theorem dL_1382 : decode mL.1 1382 = .ok (.iadd, 1) := by decide +kernel
theorem dL_1383 : decode mL.1 1383 = .ok (.iaload, 1) := by decide +kernel
theorem dL_1384 : decode mL.1 1384 = .ok (.aload_n 0, 1) := by decide +kernel
theorem dL_1385 : decode mL.1 1385 = .ok (.iload_n 3, 1) := by decide +kernel
theorem dL_1386 : decode mL.1 1386 = .ok (.iconst 3, 1) := by decide +kernel
theorem dL_1387 : decode mL.1 1387 = .ok (.iadd, 1) := by decide +kernel
theorem dL_1388 : decode mL.1 1388 = .ok (.iaload, 1) := by decide +kernel
theorem dL_1389 : decode mL.1 1389 = .ok (.invokevirtual 169, 3) := by decide +kernel
theorem dL_1392 : decode mL.1 1392 = .ok (.if_icmp .eq 153, 3) := by decide +kernel
theorem dL_1395 : decode mL.1 1395 = .ok (.iconst 0, 1) := by decide +kernel
theorem dL_1396 : decode mL.1 1396 = .ok (.ireturn, 1) := by decide +kernel
theorem dL_1397 : decode mL.1 1397 = .ok (.aload_n 1, 1) := by decide +kernel
theorem dL_1398 : decode mL.1 1398 = .ok (.aload_n 0, 1) := by decide +kernel
theorem dL_1399 : decode mL.1 1399 = .ok (.iload_n 3, 1) := by decide +kernel
theorem dL_1400 : decode mL.1 1400 = .ok (.iconst 1, 1) := by decide +kernel
theorem dL_1401 : decode mL.1 1401 = .ok (.iadd, 1) := by decide +kernel
theorem dL_1402 : decode mL.1 1402 = .ok (.iaload, 1) := by decide +kernel
theorem dL_1403 : decode mL.1 1403 = .ok (.aload_n 0, 1) := by decide +kernel
theorem dL_1404 : decode mL.1 1404 = .ok (.iload_n 3, 1) := by decide +kernel
theorem dL_1405 : decode mL.1 1405 = .ok (.iconst 2, 1) := by decide +kernel
theorem dL_1406 : decode mL.1 1406 = .ok (.iadd, 1) := by decide +kernel
theorem dL_1407 : decode mL.1 1407 = .ok (.iaload, 1) := by decide +kernel
theorem dL_1408 : decode mL.1 1408 = .ok (.invokevirtual 170, 3) := by decide +kernel
theorem dL_1411 : decode mL.1 1411 = .ok (.aload_n 2, 1) := by decide +kernel
theorem dL_1412 : decode mL.1 1412 = .ok (.aload_n 0, 1) := by decide +kernel
theorem dL_1413 : decode mL.1 1413 = .ok (.iload_n 3, 1) := by decide +kernel
theorem dL_1414 : decode mL.1 1414 = .ok (.iconst 1, 1) := by decide +kernel
theorem dL_1415 : decode mL.1 1415 = .ok (.iadd, 1) := by decide +kernel
theorem dL_1416 : decode mL.1 1416 = .ok (.iaload, 1) := by decide +kernel
theorem dL_1417 : decode mL.1 1417 = .ok (.aload_n 0, 1) := by decide +kernel
theorem dL_1418 : decode mL.1 1418 = .ok (.iload_n 3, 1) := by decide +kernel
theorem dL_1419 : decode mL.1 1419 = .ok (.iconst 2, 1) := by decide +kernel
theorem dL_1420 : decode mL.1 1420 = .ok (.iadd, 1) := by decide +kernel
theorem dL_1421 : decode mL.1 1421 = .ok (.iaload, 1) := by decide +kernel
theorem dL_1422 : decode mL.1 1422 = .ok (.invokevirtual 173, 3) := by decide +kernel
theorem dL_1425 : decode mL.1 1425 = .ok (.if_icmp .eq 120, 3) := by decide +kernel
theorem dL_1428 : decode mL.1 1428 = .ok (.iconst 0, 1) := by decide +kernel
theorem dL_1429 : decode mL.1 1429 = .ok (.ireturn, 1) := by decide +kernel
theorem dL_1430 : decode mL.1 1430 = .ok (.aload_n 1, 1) := by decide +kernel
theorem dL_1431 : decode mL.1 1431 = .ok (.aload_n 0, 1) := by decide +kernel
theorem dL_1432 : decode mL.1 1432 = .ok (.iload_n 3, 1) := by decide +kernel
theorem dL_1433 : decode mL.1 1433 = .ok (.iconst 1, 1) := by decide +kernel
theorem dL_1434 : decode mL.1 1434 = .ok (.iadd, 1) := by decide +kernel
theorem dL_1435 : decode mL.1 1435 = .ok (.iaload, 1) := by decide +kernel
theorem dL_1436 : decode mL.1 1436 = .ok (.aload_n 0, 1) := by decide +kernel
theorem dL_1437 : decode mL.1 1437 = .ok (.iload_n 3, 1) := by decide +kernel
theorem dL_1438 : decode mL.1 1438 = .ok (.iconst 2, 1) := by decide +kernel
theorem dL_1439 : decode mL.1 1439 = .ok (.iadd, 1) := by decide +kernel
theorem dL_1440 : decode mL.1 1440 = .ok (.iaload, 1) := by decide +kernel
theorem dL_1441 : decode mL.1 1441 = .ok (.aload_n 0, 1) := by decide +kernel
theorem dL_1442 : decode mL.1 1442 = .ok (.iload_n 3, 1) := by decide +kernel
theorem dL_1443 : decode mL.1 1443 = .ok (.iconst 3, 1) := by decide +kernel
theorem dL_1444 : decode mL.1 1444 = .ok (.iadd, 1) := by decide +kernel
theorem dL_1445 : decode mL.1 1445 = .ok (.iaload, 1) := by decide +kernel
theorem dL_1446 : decode mL.1 1446 = .ok (.invokevirtual 174, 3) := by decide +kernel
theorem dL_1449 : decode mL.1 1449 = .ok (.aload_n 2, 1) := by decide +kernel
theorem dL_1450 : decode mL.1 1450 = .ok (.aload_n 0, 1) := by decide +kernel
theorem dL_1451 : decode mL.1 1451 = .ok (.iload_n 3, 1) := by decide +kernel
theorem dL_1452 : decode mL.1 1452 = .ok (.iconst 1, 1) := by decide +kernel
theorem dL_1453 : decode mL.1 1453 = .ok (.iadd, 1) := by decide +kernel
theorem dL_1454 : decode mL.1 1454 = .ok (.iaload, 1) := by decide +kernel
theorem dL_1455 : decode mL.1 1455 = .ok (.aload_n 0, 1) := by decide +kernel
theorem dL_1456 : decode mL.1 1456 = .ok (.iload_n 3, 1) := by decide +kernel
theorem dL_1457 : decode mL.1 1457 = .ok (.iconst 2, 1) := by decide +kernel
theorem dL_1458 : decode mL.1 1458 = .ok (.iadd, 1) := by decide +kernel
theorem dL_1459 : decode mL.1 1459 = .ok (.iaload, 1) := by decide +kernel
theorem dL_1460 : decode mL.1 1460 = .ok (.aload_n 0, 1) := by decide +kernel
theorem dL_1461 : decode mL.1 1461 = .ok (.iload_n 3, 1) := by decide +kernel
theorem dL_1462 : decode mL.1 1462 = .ok (.iconst 3, 1) := by decide +kernel
theorem dL_1463 : decode mL.1 1463 = .ok (.iadd, 1) := by decide +kernel
theorem dL_1464 : decode mL.1 1464 = .ok (.iaload, 1) := by decide +kernel
theorem dL_1465 : decode mL.1 1465 = .ok (.invokevirtual 177, 3) := by decide +kernel
theorem dL_1468 : decode mL.1 1468 = .ok (.if_icmp .eq 77, 3) := by decide +kernel
theorem dL_1471 : decode mL.1 1471 = .ok (.iconst 0, 1) := by decide +kernel
theorem dL_1472 : decode mL.1 1472 = .ok (.ireturn, 1) := by decide +kernel
theorem dL_1473 : decode mL.1 1473 = .ok (.aload_n 1, 1) := by decide +kernel
theorem dL_1474 : decode mL.1 1474 = .ok (.aload_n 0, 1) := by decide +kernel
theorem dL_1475 : decode mL.1 1475 = .ok (.iload_n 3, 1) := by decide +kernel
theorem dL_1476 : decode mL.1 1476 = .ok (.iconst 1, 1) := by decide +kernel
theorem dL_1477 : decode mL.1 1477 = .ok (.iadd, 1) := by decide +kernel
theorem dL_1478 : decode mL.1 1478 = .ok (.iaload, 1) := by decide +kernel
theorem dL_1479 : decode mL.1 1479 = .ok (.invokevirtual 178, 3) := by decide +kernel
theorem dL_1482 : decode mL.1 1482 = .ok (.aload_n 2, 1) := by decide +kernel
theorem dL_1483 : decode mL.1 1483 = .ok (.aload_n 0, 1) := by decide +kernel
theorem dL_1484 : decode mL.1 1484 = .ok (.iload_n 3, 1) := by decide +kernel
theorem dL_1485 : decode mL.1 1485 = .ok (.iconst 1, 1) := by decide +kernel
theorem dL_1486 : decode mL.1 1486 = .ok (.iadd, 1) := by decide +kernel
theorem dL_1487 : decode mL.1 1487 = .ok (.iaload, 1) := by decide +kernel
theorem dL_1488 : decode mL.1 1488 = .ok (.invokevirtual 181, 3) := by decide +kernel
theorem dL_1491 : decode mL.1 1491 = .ok (.if_icmp .eq 54, 3) := by decide +kernel
theorem dL_1494 : decode mL.1 1494 = .ok (.iconst 0, 1) := by decide +kernel
theorem dL_1495 : decode mL.1 1495 = .ok (.ireturn, 1) := by decide +kernel
theorem dL_1496 : decode mL.1 1496 = .ok (.aload_n 1, 1) := by decide +kernel
theorem dL_1497 : decode mL.1 1497 = .ok (.aload_n 0, 1) := by decide +kernel
theorem dL_1498 : decode mL.1 1498 = .ok (.iload_n 3, 1) := by decide +kernel
theorem dL_1499 : decode mL.1 1499 = .ok (.iconst 1, 1) := by decide +kernel
theorem dL_1500 : decode mL.1 1500 = .ok (.iadd, 1) := by decide +kernel
theorem dL_1501 : decode mL.1 1501 = .ok (.iaload, 1) := by decide +kernel
theorem dL_1502 : decode mL.1 1502 = .ok (.invokevirtual 182, 3) := by decide +kernel
theorem dL_1505 : decode mL.1 1505 = .ok (.aload_n 2, 1) := by decide +kernel
theorem dL_1506 : decode mL.1 1506 = .ok (.aload_n 0, 1) := by decide +kernel
theorem dL_1507 : decode mL.1 1507 = .ok (.iload_n 3, 1) := by decide +kernel
theorem dL_1508 : decode mL.1 1508 = .ok (.iconst 1, 1) := by decide +kernel
theorem dL_1509 : decode mL.1 1509 = .ok (.iadd, 1) := by decide +kernel
theorem dL_1510 : decode mL.1 1510 = .ok (.iaload, 1) := by decide +kernel
theorem dL_1511 : decode mL.1 1511 = .ok (.invokevirtual 185, 3) := by decide +kernel
theorem dL_1514 : decode mL.1 1514 = .ok (.if_icmp .eq 31, 3) := by decide +kernel
theorem dL_1517 : decode mL.1 1517 = .ok (.iconst 0, 1) := by decide +kernel
theorem dL_1518 : decode mL.1 1518 = .ok (.ireturn, 1) := by decide +kernel
theorem dL_1519 : decode mL.1 1519 = .ok (.aload_n 1, 1) := by decide +kernel
theorem dL_1520 : decode mL.1 1520 = .ok (.invokevirtual 186, 3) := by decide +kernel
theorem dL_1523 : decode mL.1 1523 = .ok (.aload_n 2, 1) := by decide +kernel
theorem dL_1524 : decode mL.1 1524 = .ok (.invokevirtual 189, 3) := by decide +kernel
theorem dL_1527 : decode mL.1 1527 = .ok (.if_icmp .eq 18, 3) := by decide +kernel
theorem dL_1530 : decode mL.1 1530 = .ok (.iconst 0, 1) := by decide +kernel
theorem dL_1531 : decode mL.1 1531 = .ok (.ireturn, 1) := by decide +kernel
theorem dL_1532 : decode mL.1 1532 = .ok (.aload_n 1, 1) := by decide +kernel
theorem dL_1533 : decode mL.1 1533 = .ok (.invokevirtual 190, 3) := by decide +kernel
theorem dL_1536 : decode mL.1 1536 = .ok (.aload_n 2, 1) := by decide +kernel
theorem dL_1537 : decode mL.1 1537 = .ok (.invokevirtual 193, 3) := by decide +kernel
theorem dL_1540 : decode mL.1 1540 = .ok (.if_icmp .eq 5, 3) := by decide +kernel
theorem dL_1543 : decode mL.1 1543 = .ok (.iconst 0, 1) := by decide +kernel
theorem dL_1544 : decode mL.1 1544 = .ok (.ireturn, 1) := by decide +kernel
theorem dL_1545 : decode mL.1 1545 = .ok (.iinc 3 5, 3) := by decide +kernel
theorem dL_1548 : decode mL.1 1548 = .ok (.goto (-1530), 3) := by decide +kernel
theorem dL_1551 : decode mL.1 1551 = .ok (.iconst 1, 1) := by decide +kernel
theorem dL_1552 : decode mL.1 1552 = .ok (.ireturn, 1) := by decide +kernel
theorem mlL_15 : Cond.methodLink "EveryHandLaw" 15 ⟨"EveryHand", "feed", "(JI)I"⟩ ∈ GW := gw 273 (by decide +kernel) (by decide +kernel)
theorem mlL_19 : Cond.methodLink "EveryHandLaw" 19 ⟨"EveryHandModel", "feed", "(JI)I"⟩ ∈ GW := gw 926 (by decide +kernel) (by decide +kernel)
theorem mlL_20 : Cond.methodLink "EveryHandLaw" 20 ⟨"EveryHand", "town", "()I"⟩ ∈ GW := gw 277 (by decide +kernel) (by decide +kernel)
theorem mlL_24 : Cond.methodLink "EveryHandLaw" 24 ⟨"EveryHandModel", "town", "()I"⟩ ∈ GW := gw 934 (by decide +kernel) (by decide +kernel)
theorem mlL_25 : Cond.methodLink "EveryHandLaw" 25 ⟨"EveryHand", "person", "(I)I"⟩ ∈ GW := gw 413 (by decide +kernel) (by decide +kernel)
theorem mlL_29 : Cond.methodLink "EveryHandLaw" 29 ⟨"EveryHandModel", "person", "(I)I"⟩ ∈ GW := gw 997 (by decide +kernel) (by decide +kernel)
theorem mlL_30 : Cond.methodLink "EveryHandLaw" 30 ⟨"EveryHand", "personOf", "(II)I"⟩ ∈ GW := gw 421 (by decide +kernel) (by decide +kernel)
theorem mlL_34 : Cond.methodLink "EveryHandLaw" 34 ⟨"EveryHandModel", "personOf", "(II)I"⟩ ∈ GW := gw 1001 (by decide +kernel) (by decide +kernel)
theorem mlL_35 : Cond.methodLink "EveryHandLaw" 35 ⟨"EveryHand", "rank", "(II)I"⟩ ∈ GW := gw 449 (by decide +kernel) (by decide +kernel)
theorem mlL_38 : Cond.methodLink "EveryHandLaw" 38 ⟨"EveryHandModel", "rank", "(II)I"⟩ ∈ GW := gw 1028 (by decide +kernel) (by decide +kernel)
theorem mlL_39 : Cond.methodLink "EveryHandLaw" 39 ⟨"EveryHand", "know", "(IIZ)I"⟩ ∈ GW := gw 453 (by decide +kernel) (by decide +kernel)
theorem mlL_43 : Cond.methodLink "EveryHandLaw" 43 ⟨"EveryHandModel", "know", "(IIZ)I"⟩ ∈ GW := gw 1032 (by decide +kernel) (by decide +kernel)
theorem mlL_44 : Cond.methodLink "EveryHandLaw" 44 ⟨"EveryHand", "coin", "(III)I"⟩ ∈ GW := gw 462 (by decide +kernel) (by decide +kernel)
theorem mlL_48 : Cond.methodLink "EveryHandLaw" 48 ⟨"EveryHandModel", "coin", "(III)I"⟩ ∈ GW := gw 1040 (by decide +kernel) (by decide +kernel)
theorem mlL_49 : Cond.methodLink "EveryHandLaw" 49 ⟨"EveryHand", "coinOf", "(II)I"⟩ ∈ GW := gw 473 (by decide +kernel) (by decide +kernel)
theorem mlL_52 : Cond.methodLink "EveryHandLaw" 52 ⟨"EveryHandModel", "coinOf", "(II)I"⟩ ∈ GW := gw 1044 (by decide +kernel) (by decide +kernel)
theorem mlL_53 : Cond.methodLink "EveryHandLaw" 53 ⟨"EveryHand", "stamp", "(III)I"⟩ ∈ GW := gw 494 (by decide +kernel) (by decide +kernel)
theorem mlL_56 : Cond.methodLink "EveryHandLaw" 56 ⟨"EveryHandModel", "stamp", "(III)I"⟩ ∈ GW := gw 1064 (by decide +kernel) (by decide +kernel)
theorem mlL_57 : Cond.methodLink "EveryHandLaw" 57 ⟨"EveryHand", "clean", "(I)I"⟩ ∈ GW := gw 498 (by decide +kernel) (by decide +kernel)
theorem mlL_60 : Cond.methodLink "EveryHandLaw" 60 ⟨"EveryHandModel", "clean", "(I)I"⟩ ∈ GW := gw 1068 (by decide +kernel) (by decide +kernel)
theorem mlL_61 : Cond.methodLink "EveryHandLaw" 61 ⟨"EveryHand", "may", "(II)I"⟩ ∈ GW := gw 508 (by decide +kernel) (by decide +kernel)
theorem mlL_64 : Cond.methodLink "EveryHandLaw" 64 ⟨"EveryHandModel", "may", "(II)I"⟩ ∈ GW := gw 1075 (by decide +kernel) (by decide +kernel)
theorem mlL_65 : Cond.methodLink "EveryHandLaw" 65 ⟨"EveryHand", "give", "(II)I"⟩ ∈ GW := gw 513 (by decide +kernel) (by decide +kernel)
theorem mlL_68 : Cond.methodLink "EveryHandLaw" 68 ⟨"EveryHandModel", "give", "(II)I"⟩ ∈ GW := gw 1079 (by decide +kernel) (by decide +kernel)
theorem mlL_69 : Cond.methodLink "EveryHandLaw" 69 ⟨"EveryHand", "lot", "(I)I"⟩ ∈ GW := gw 525 (by decide +kernel) (by decide +kernel)
theorem mlL_72 : Cond.methodLink "EveryHandLaw" 72 ⟨"EveryHandModel", "lot", "(I)I"⟩ ∈ GW := gw 1095 (by decide +kernel) (by decide +kernel)
theorem mlL_73 : Cond.methodLink "EveryHandLaw" 73 ⟨"EveryHand", "lots", "(I)I"⟩ ∈ GW := gw 535 (by decide +kernel) (by decide +kernel)
theorem mlL_76 : Cond.methodLink "EveryHandLaw" 76 ⟨"EveryHandModel", "lots", "(I)I"⟩ ∈ GW := gw 1100 (by decide +kernel) (by decide +kernel)
theorem mlL_77 : Cond.methodLink "EveryHandLaw" 77 ⟨"EveryHand", "melt", "(I)I"⟩ ∈ GW := gw 543 (by decide +kernel) (by decide +kernel)
theorem mlL_80 : Cond.methodLink "EveryHandLaw" 80 ⟨"EveryHandModel", "melt", "(I)I"⟩ ∈ GW := gw 1109 (by decide +kernel) (by decide +kernel)
theorem mlL_81 : Cond.methodLink "EveryHandLaw" 81 ⟨"EveryHand", "left", "(I)I"⟩ ∈ GW := gw 548 (by decide +kernel) (by decide +kernel)
theorem mlL_84 : Cond.methodLink "EveryHandLaw" 84 ⟨"EveryHandModel", "left", "(I)I"⟩ ∈ GW := gw 1113 (by decide +kernel) (by decide +kernel)
theorem mlL_85 : Cond.methodLink "EveryHandLaw" 85 ⟨"EveryHand", "row", "(II)I"⟩ ∈ GW := gw 582 (by decide +kernel) (by decide +kernel)
theorem mlL_88 : Cond.methodLink "EveryHandLaw" 88 ⟨"EveryHandModel", "row", "(II)I"⟩ ∈ GW := gw 1145 (by decide +kernel) (by decide +kernel)
theorem mlL_89 : Cond.methodLink "EveryHandLaw" 89 ⟨"EveryHand", "through", "(I)I"⟩ ∈ GW := gw 590 (by decide +kernel) (by decide +kernel)
theorem mlL_92 : Cond.methodLink "EveryHandLaw" 92 ⟨"EveryHandModel", "through", "(I)I"⟩ ∈ GW := gw 1133 (by decide +kernel) (by decide +kernel)
theorem mlL_93 : Cond.methodLink "EveryHandLaw" 93 ⟨"EveryHand", "ways", "(I)I"⟩ ∈ GW := gw 594 (by decide +kernel) (by decide +kernel)
theorem mlL_96 : Cond.methodLink "EveryHandLaw" 96 ⟨"EveryHandModel", "ways", "(I)I"⟩ ∈ GW := gw 1137 (by decide +kernel) (by decide +kernel)
theorem mlL_97 : Cond.methodLink "EveryHandLaw" 97 ⟨"EveryHand", "last", "(I)I"⟩ ∈ GW := gw 598 (by decide +kernel) (by decide +kernel)
theorem mlL_100 : Cond.methodLink "EveryHandLaw" 100 ⟨"EveryHandModel", "last", "(I)I"⟩ ∈ GW := gw 1141 (by decide +kernel) (by decide +kernel)
theorem mlL_101 : Cond.methodLink "EveryHandLaw" 101 ⟨"EveryHand", "stuck", "()I"⟩ ∈ GW := gw 602 (by decide +kernel) (by decide +kernel)
theorem mlL_104 : Cond.methodLink "EveryHandLaw" 104 ⟨"EveryHandModel", "stuck", "()I"⟩ ∈ GW := gw 1153 (by decide +kernel) (by decide +kernel)
theorem mlL_105 : Cond.methodLink "EveryHandLaw" 105 ⟨"EveryHand", "best", "(II)I"⟩ ∈ GW := gw 606 (by decide +kernel) (by decide +kernel)
theorem mlL_108 : Cond.methodLink "EveryHandLaw" 108 ⟨"EveryHandModel", "best", "(II)I"⟩ ∈ GW := gw 1157 (by decide +kernel) (by decide +kernel)
theorem mlL_109 : Cond.methodLink "EveryHandLaw" 109 ⟨"EveryHand", "paid", "(III)I"⟩ ∈ GW := gw 610 (by decide +kernel) (by decide +kernel)
theorem mlL_112 : Cond.methodLink "EveryHandLaw" 112 ⟨"EveryHandModel", "paid", "(III)I"⟩ ∈ GW := gw 1161 (by decide +kernel) (by decide +kernel)
theorem mlL_113 : Cond.methodLink "EveryHandLaw" 113 ⟨"EveryHand", "friend", "(I)I"⟩ ∈ GW := gw 620 (by decide +kernel) (by decide +kernel)
theorem mlL_116 : Cond.methodLink "EveryHandLaw" 116 ⟨"EveryHandModel", "friend", "(I)I"⟩ ∈ GW := gw 1169 (by decide +kernel) (by decide +kernel)
theorem mlL_117 : Cond.methodLink "EveryHandLaw" 117 ⟨"EveryHand", "heir", "(II)I"⟩ ∈ GW := gw 628 (by decide +kernel) (by decide +kernel)
theorem mlL_120 : Cond.methodLink "EveryHandLaw" 120 ⟨"EveryHandModel", "heir", "(II)I"⟩ ∈ GW := gw 1173 (by decide +kernel) (by decide +kernel)
theorem mlL_121 : Cond.methodLink "EveryHandLaw" 121 ⟨"EveryHand", "least", "()I"⟩ ∈ GW := gw 632 (by decide +kernel) (by decide +kernel)
theorem mlL_124 : Cond.methodLink "EveryHandLaw" 124 ⟨"EveryHandModel", "least", "()I"⟩ ∈ GW := gw 1180 (by decide +kernel) (by decide +kernel)
theorem mlL_125 : Cond.methodLink "EveryHandLaw" 125 ⟨"EveryHand", "all", "(I)I"⟩ ∈ GW := gw 636 (by decide +kernel) (by decide +kernel)
theorem mlL_128 : Cond.methodLink "EveryHandLaw" 128 ⟨"EveryHandModel", "all", "(I)I"⟩ ∈ GW := gw 1184 (by decide +kernel) (by decide +kernel)
theorem mlL_129 : Cond.methodLink "EveryHandLaw" 129 ⟨"EveryHand", "seed", "(I)I"⟩ ∈ GW := gw 652 (by decide +kernel) (by decide +kernel)
theorem mlL_132 : Cond.methodLink "EveryHandLaw" 132 ⟨"EveryHandModel", "seed", "(I)I"⟩ ∈ GW := gw 1188 (by decide +kernel) (by decide +kernel)
theorem mlL_133 : Cond.methodLink "EveryHandLaw" 133 ⟨"EveryHand", "prove", "(I)I"⟩ ∈ GW := gw 656 (by decide +kernel) (by decide +kernel)
theorem mlL_136 : Cond.methodLink "EveryHandLaw" 136 ⟨"EveryHandModel", "prove", "(I)I"⟩ ∈ GW := gw 1192 (by decide +kernel) (by decide +kernel)
theorem mlL_137 : Cond.methodLink "EveryHandLaw" 137 ⟨"EveryHand", "rowOf", "(II)I"⟩ ∈ GW := gw 660 (by decide +kernel) (by decide +kernel)
theorem mlL_140 : Cond.methodLink "EveryHandLaw" 140 ⟨"EveryHandModel", "rowOf", "(II)I"⟩ ∈ GW := gw 1196 (by decide +kernel) (by decide +kernel)
theorem mlL_141 : Cond.methodLink "EveryHandLaw" 141 ⟨"EveryHand", "alterRow", "(III)I"⟩ ∈ GW := gw 668 (by decide +kernel) (by decide +kernel)
theorem mlL_144 : Cond.methodLink "EveryHandLaw" 144 ⟨"EveryHandModel", "alterRow", "(III)I"⟩ ∈ GW := gw 1204 (by decide +kernel) (by decide +kernel)
theorem mlL_145 : Cond.methodLink "EveryHandLaw" 145 ⟨"EveryHand", "judge", "(I)I"⟩ ∈ GW := gw 672 (by decide +kernel) (by decide +kernel)
theorem mlL_148 : Cond.methodLink "EveryHandLaw" 148 ⟨"EveryHandModel", "judge", "(I)I"⟩ ∈ GW := gw 1208 (by decide +kernel) (by decide +kernel)
theorem mlL_149 : Cond.methodLink "EveryHandLaw" 149 ⟨"EveryHand", "ranks", "(IIII)I"⟩ ∈ GW := gw 677 (by decide +kernel) (by decide +kernel)
theorem mlL_153 : Cond.methodLink "EveryHandLaw" 153 ⟨"EveryHandModel", "ranks", "(IIII)I"⟩ ∈ GW := gw 1212 (by decide +kernel) (by decide +kernel)
theorem mlL_154 : Cond.methodLink "EveryHandLaw" 154 ⟨"EveryHand", "sheet", "(III)I"⟩ ∈ GW := gw 691 (by decide +kernel) (by decide +kernel)
theorem mlL_157 : Cond.methodLink "EveryHandLaw" 157 ⟨"EveryHandModel", "sheet", "(III)I"⟩ ∈ GW := gw 1224 (by decide +kernel) (by decide +kernel)
theorem mlL_158 : Cond.methodLink "EveryHandLaw" 158 ⟨"EveryHand", "put", "(III)I"⟩ ∈ GW := gw 699 (by decide +kernel) (by decide +kernel)
theorem mlL_161 : Cond.methodLink "EveryHandLaw" 161 ⟨"EveryHandModel", "put", "(III)I"⟩ ∈ GW := gw 1228 (by decide +kernel) (by decide +kernel)
theorem mlL_162 : Cond.methodLink "EveryHandLaw" 162 ⟨"EveryHand", "item", "(III)I"⟩ ∈ GW := gw 707 (by decide +kernel) (by decide +kernel)
theorem mlL_165 : Cond.methodLink "EveryHandLaw" 165 ⟨"EveryHandModel", "item", "(III)I"⟩ ∈ GW := gw 1232 (by decide +kernel) (by decide +kernel)
theorem mlL_166 : Cond.methodLink "EveryHandLaw" 166 ⟨"EveryHand", "shelf", "(III)I"⟩ ∈ GW := gw 711 (by decide +kernel) (by decide +kernel)
theorem mlL_169 : Cond.methodLink "EveryHandLaw" 169 ⟨"EveryHandModel", "shelf", "(III)I"⟩ ∈ GW := gw 1236 (by decide +kernel) (by decide +kernel)
theorem mlL_170 : Cond.methodLink "EveryHandLaw" 170 ⟨"EveryHand", "taken", "(II)I"⟩ ∈ GW := gw 727 (by decide +kernel) (by decide +kernel)
theorem mlL_173 : Cond.methodLink "EveryHandLaw" 173 ⟨"EveryHandModel", "taken", "(II)I"⟩ ∈ GW := gw 1244 (by decide +kernel) (by decide +kernel)
theorem mlL_174 : Cond.methodLink "EveryHandLaw" 174 ⟨"EveryHand", "act", "(III)I"⟩ ∈ GW := gw 740 (by decide +kernel) (by decide +kernel)
theorem mlL_177 : Cond.methodLink "EveryHandLaw" 177 ⟨"EveryHandModel", "act", "(III)I"⟩ ∈ GW := gw 1255 (by decide +kernel) (by decide +kernel)
theorem mlL_178 : Cond.methodLink "EveryHandLaw" 178 ⟨"EveryHand", "trace", "(I)I"⟩ ∈ GW := gw 766 (by decide +kernel) (by decide +kernel)
theorem mlL_181 : Cond.methodLink "EveryHandLaw" 181 ⟨"EveryHandModel", "trace", "(I)I"⟩ ∈ GW := gw 1299 (by decide +kernel) (by decide +kernel)
theorem mlL_182 : Cond.methodLink "EveryHandLaw" 182 ⟨"EveryHand", "many", "(I)I"⟩ ∈ GW := gw 770 (by decide +kernel) (by decide +kernel)
theorem mlL_185 : Cond.methodLink "EveryHandLaw" 185 ⟨"EveryHandModel", "many", "(I)I"⟩ ∈ GW := gw 1303 (by decide +kernel) (by decide +kernel)
theorem mlL_186 : Cond.methodLink "EveryHandLaw" 186 ⟨"EveryHand", "keep", "()I"⟩ ∈ GW := gw 774 (by decide +kernel) (by decide +kernel)
theorem mlL_189 : Cond.methodLink "EveryHandLaw" 189 ⟨"EveryHandModel", "keep", "()I"⟩ ∈ GW := gw 1307 (by decide +kernel) (by decide +kernel)
theorem mlL_190 : Cond.methodLink "EveryHandLaw" 190 ⟨"EveryHand", "again", "()I"⟩ ∈ GW := gw 785 (by decide +kernel) (by decide +kernel)
theorem mlL_193 : Cond.methodLink "EveryHandLaw" 193 ⟨"EveryHandModel", "again", "()I"⟩ ∈ GW := gw 1319 (by decide +kernel) (by decide +kernel)
theorem cL_13 : Cond.constantLong "EveryHandLaw" 13 4294967295 ∈ GW := gw 1323 (by decide +kernel) (by decide +kernel)
def FLw (b L : Nat) (xs : Nat → Int32) (E : Ev) : VF := (fun below args s => lw_Z below args s, 100, 6000, fun s => va_X b L xs s s.heap ∧ b < s.heap.size ∧ E.1 200 = b ∧ ∀ k, k < 67 → s.heap.size ≤ E.1 k)
section LWR
variable {E : Ev} {b L : Nat} {xs : Nat → Int32} {pc n : Nat} {ls : List (Nat × Value)} {st : List Value} {σ : St}
theorem nAA {E : Ev} {b : Nat} {s : State} (h1 : b < s.heap.size) (h2 : ∀ k, k < 67 → s.heap.size ≤ E.1 k) : ¬ AA E b := by
  rintro ⟨k, hk, rfl⟩
  have := h2 k hk
  omega
theorem V.sld {i : Int32} (hd : decode mL.1 pc = .ok (.iaload, 1)) (hi : ib i L = true) (hn : pc + 1 = n) (kk : V E mL (FLw b L xs E) n ls (.int (xs (ix i)) :: st) σ) : V E mL (FLw b L xs E) pc ls (.int i :: .ref 200 :: st) σ := by
  subst hn; intro p l e s m args below meth c C H locs la hP hS hl
  obtain ⟨g1, g2, g3, g4⟩ := C.2.2.2.2.2.2.2.2
  have h := va_sld (hexec := C.1) (hb := C.2.1) (A := AA E) (rest := st.map (cv E)) (l := l) (e := e) (R := room_1) (below := below) (meth := meth) (cells := 100) (slots := 6000) (Q := lw_Z below args s) (ls := la) g1 g2 (nAA g2 g4) hS (ib_in.mp hi) hd (kk p l e s m args below meth c C H locs la hP hS hl)
  rw [← g3] at h
  exact h
theorem V.slenL (hd : decode mL.1 pc = .ok (.arraylength, 1)) (hn : pc + 1 = n) (kk : V E mL (FLw b L xs E) n ls (.int (nI L) :: st) σ) : V E mL (FLw b L xs E) pc ls (.ref 200 :: st) σ := by
  subst hn; intro p l e s m args below meth c C H locs la hP hS hl
  obtain ⟨g1, g2, g3, g4⟩ := C.2.2.2.2.2.2.2.2
  have h := va_slen (hexec := C.1) (hb := C.2.1) (A := AA E) (rest := st.map (cv E)) (l := l) (e := e) (R := room_1) (below := below) (meth := meth) (cells := 100) (slots := 6000) (Q := lw_Z below args s) (ls := la) g1 g2 (nAA g2 g4) hS hd (kk p l e s m args below meth c C H locs la hP hS hl)
  rw [← g3] at h
  exact h
theorem lw_ret2 {p : Program} {l : Launch} {e : Env} {s : State} {m : MethodId} {args : Array Value} {below : List Frame} {meth : Method} {c : Code} (hx : p.tables.exec = Jvm.exec) (hb : c.code = code) (hr : meth.sig.returnType = ret) (hlocks : meth.locks = false) {pc : Nat} {H : Heap} {ls : Array Slot} (hdg : decode code pc = .ok (.ireturn, 1)) : W p l e room_1 s m args below meth c H [] 600000 7302250 (lw_Z below args s) (F0 m pc ls [.int 1]) := by
  intro T hT X
  obtain ⟨fs, hret, hrun, hended, hW, hframe⟩ := X.leave (v := some (.int 1)) (hlocks := hlocks) (fun h => by rw [hr] at h; cases h)
  have hmeth' : T.vm.method? m = some meth := X.method'
  refine ⟨T.setFrames fs, ?_, .returned (some (.int 1)), hrun, hended, rfl, ⟨_, rfl⟩, hW, hframe⟩
  jvm_step X.here [X.here.top, hx, hb, hdg, hmeth', hr, ret, narrow_b1]
  (try refine ⟨rfl, ?_⟩); (try refine ⟨rfl, ?_⟩)
  first | (intro acts; rw [hret _ acts rfl rfl rfl]) | rw [hret _ _ rfl rfl rfl]
  exact Steps.refl _
theorem V.lret (hd : decode mL.1 pc = .ok (.ireturn, 1)) : V E mL (FLw b L xs E) pc ls [.int 1] σ := by
  intro p l e s m args below meth c C H locs la hP hS hl
  obtain ⟨g1, g2, g3, g4⟩ := C.2.2.2.2.2.2.2.2
  refine W.widen (k := 600000) (n := 7302250) (by show 100 ≤ _; omega) (by show 6000 ≤ _; omega) ?_
  refine va_forget (fun q hq => ?_) (lw_ret2 C.1 C.2.1 C.2.2.2.1 C.2.2.2.2.1 hd)
  obtain ⟨k, hk, e⟩ := hS.2.2 q hq
  rw [e]
  exact g4 k hk
end LWR
/-- feed: both answer alike, and what holds goes on holding -/
def St_feed (I : St → Prop) : Prop := ∀ (σ : St) (a1 : Int64) (a2 : Int32), I σ → ∃ (r : Int32) (σ1 σ2 : St), (fE_feed σ a1 a2 = some (r, σ1)) ∧ (fM_feed σ1 a1 a2 = some (r, σ2)) ∧ I σ2
/-- town: both answer alike, and what holds goes on holding -/
def St_town (I : St → Prop) : Prop := ∀ (σ : St), I σ → ∃ (r : Int32) (σ1 σ2 : St), (fE_town σ = some (r, σ1)) ∧ (fM_town σ1 = some (r, σ2)) ∧ I σ2
/-- person: both answer alike, and what holds goes on holding -/
def St_person (I : St → Prop) : Prop := ∀ (σ : St) (a1 : Int32), I σ → ∃ (r : Int32) (σ1 σ2 : St), (fE_person σ a1 = some (r, σ1)) ∧ (fM_person σ1 a1 = some (r, σ2)) ∧ I σ2
/-- personOf: both answer alike, and what holds goes on holding -/
def St_personOf (I : St → Prop) : Prop := ∀ (σ : St) (a1 : Int32) (a2 : Int32), I σ → ∃ (r : Int32) (σ1 σ2 : St), (fE_personOf σ a1 a2 = some r ∧ σ1 = σ) ∧ (fM_personOf σ1 a1 a2 = some r ∧ σ2 = σ1) ∧ I σ2
/-- rank: both answer alike, and what holds goes on holding -/
def St_rank (I : St → Prop) : Prop := ∀ (σ : St) (a1 : Int32) (a2 : Int32), I σ → ∃ (r : Int32) (σ1 σ2 : St), (fE_rank σ a1 a2 = some (r, σ1)) ∧ (fM_rank σ1 a1 a2 = some (r, σ2)) ∧ I σ2
/-- know: both answer alike, and what holds goes on holding -/
def St_know (I : St → Prop) : Prop := ∀ (σ : St) (a1 : Int32) (a2 : Int32) (a3 : Int32), I σ → b01 a3 → ∃ (r : Int32) (σ1 σ2 : St), (fE_know σ a1 a2 a3 = some (r, σ1)) ∧ (fM_know σ1 a1 a2 a3 = some (r, σ2)) ∧ I σ2
/-- coin: both answer alike, and what holds goes on holding -/
def St_coin (I : St → Prop) : Prop := ∀ (σ : St) (a1 : Int32) (a2 : Int32) (a3 : Int32), I σ → ∃ (r : Int32) (σ1 σ2 : St), (fE_coin σ a1 a2 a3 = some (r, σ1)) ∧ (fM_coin σ1 a1 a2 a3 = some (r, σ2)) ∧ I σ2
/-- coinOf: both answer alike, and what holds goes on holding -/
def St_coinOf (I : St → Prop) : Prop := ∀ (σ : St) (a1 : Int32) (a2 : Int32), I σ → ∃ (r : Int32) (σ1 σ2 : St), (fE_coinOf σ a1 a2 = some r ∧ σ1 = σ) ∧ (fM_coinOf σ1 a1 a2 = some r ∧ σ2 = σ1) ∧ I σ2
/-- stamp: both answer alike, and what holds goes on holding -/
def St_stamp (I : St → Prop) : Prop := ∀ (σ : St) (a1 : Int32) (a2 : Int32) (a3 : Int32), I σ → ∃ (r : Int32) (σ1 σ2 : St), (fE_stamp σ a1 a2 a3 = some (r, σ1)) ∧ (fM_stamp σ1 a1 a2 a3 = some (r, σ2)) ∧ I σ2
/-- clean: both answer alike, and what holds goes on holding -/
def St_clean (I : St → Prop) : Prop := ∀ (σ : St) (a1 : Int32), I σ → ∃ (r : Int32) (σ1 σ2 : St), (fE_clean σ a1 = some (r, σ1)) ∧ (fM_clean σ1 a1 = some (r, σ2)) ∧ I σ2
/-- may: both answer alike, and what holds goes on holding -/
def St_may (I : St → Prop) : Prop := ∀ (σ : St) (a1 : Int32) (a2 : Int32), I σ → ∃ (r : Int32) (σ1 σ2 : St), (fE_may σ a1 a2 = some r ∧ σ1 = σ) ∧ (fM_may σ1 a1 a2 = some r ∧ σ2 = σ1) ∧ I σ2
/-- give: both answer alike, and what holds goes on holding -/
def St_give (I : St → Prop) : Prop := ∀ (σ : St) (a1 : Int32) (a2 : Int32), I σ → ∃ (r : Int32) (σ1 σ2 : St), (fE_give σ a1 a2 = some (r, σ1)) ∧ (fM_give σ1 a1 a2 = some (r, σ2)) ∧ I σ2
/-- lot: both answer alike, and what holds goes on holding -/
def St_lot (I : St → Prop) : Prop := ∀ (σ : St) (a1 : Int32), I σ → ∃ (r : Int32) (σ1 σ2 : St), (fE_lot σ a1 = some (r, σ1)) ∧ (fM_lot σ1 a1 = some (r, σ2)) ∧ I σ2
/-- lots: both answer alike, and what holds goes on holding -/
def St_lots (I : St → Prop) : Prop := ∀ (σ : St) (a1 : Int32), I σ → ∃ (r : Int32) (σ1 σ2 : St), (fE_lots σ a1 = some (r, σ1)) ∧ (fM_lots σ1 a1 = some (r, σ2)) ∧ I σ2
/-- melt: both answer alike, and what holds goes on holding -/
def St_melt (I : St → Prop) : Prop := ∀ (σ : St) (a1 : Int32), I σ → ∃ (r : Int32) (σ1 σ2 : St), (fE_melt σ a1 = some (r, σ1)) ∧ (fM_melt σ1 a1 = some (r, σ2)) ∧ I σ2
/-- left: both answer alike, and what holds goes on holding -/
def St_left (I : St → Prop) : Prop := ∀ (σ : St) (a1 : Int32), I σ → ∃ (r : Int32) (σ1 σ2 : St), (fE_left σ a1 = some (r, σ1)) ∧ (fM_left σ1 a1 = some (r, σ2)) ∧ I σ2
/-- row: both answer alike, and what holds goes on holding -/
def St_row (I : St → Prop) : Prop := ∀ (σ : St) (a1 : Int32) (a2 : Int32), I σ → ∃ (r : Int32) (σ1 σ2 : St), (fE_row σ a1 a2 = some (r, σ1)) ∧ (fM_row σ1 a1 a2 = some (r, σ2)) ∧ I σ2
/-- through: both answer alike, and what holds goes on holding -/
def St_through (I : St → Prop) : Prop := ∀ (σ : St) (a1 : Int32), I σ → ∃ (r : Int32) (σ1 σ2 : St), (fE_through σ a1 = some (r, σ1)) ∧ (fM_through σ1 a1 = some (r, σ2)) ∧ I σ2
/-- ways: both answer alike, and what holds goes on holding -/
def St_ways (I : St → Prop) : Prop := ∀ (σ : St) (a1 : Int32), I σ → ∃ (r : Int32) (σ1 σ2 : St), (fE_ways σ a1 = some (r, σ1)) ∧ (fM_ways σ1 a1 = some (r, σ2)) ∧ I σ2
/-- last: both answer alike, and what holds goes on holding -/
def St_last (I : St → Prop) : Prop := ∀ (σ : St) (a1 : Int32), I σ → ∃ (r : Int32) (σ1 σ2 : St), (fE_last σ a1 = some (r, σ1)) ∧ (fM_last σ1 a1 = some (r, σ2)) ∧ I σ2
/-- stuck: both answer alike, and what holds goes on holding -/
def St_stuck (I : St → Prop) : Prop := ∀ (σ : St), I σ → ∃ (r : Int32) (σ1 σ2 : St), (fE_stuck σ = some r ∧ σ1 = σ) ∧ (fM_stuck σ1 = some r ∧ σ2 = σ1) ∧ I σ2
/-- best: both answer alike, and what holds goes on holding -/
def St_best (I : St → Prop) : Prop := ∀ (σ : St) (a1 : Int32) (a2 : Int32), I σ → ∃ (r : Int32) (σ1 σ2 : St), (fE_best σ a1 a2 = some (r, σ1)) ∧ (fM_best σ1 a1 a2 = some (r, σ2)) ∧ I σ2
/-- paid: both answer alike, and what holds goes on holding -/
def St_paid (I : St → Prop) : Prop := ∀ (σ : St) (a1 : Int32) (a2 : Int32) (a3 : Int32), I σ → ∃ (r : Int32) (σ1 σ2 : St), (fE_paid σ a1 a2 a3 = some r ∧ σ1 = σ) ∧ (fM_paid σ1 a1 a2 a3 = some r ∧ σ2 = σ1) ∧ I σ2
/-- friend: both answer alike, and what holds goes on holding -/
def St_friend (I : St → Prop) : Prop := ∀ (σ : St) (a1 : Int32), I σ → ∃ (r : Int32) (σ1 σ2 : St), (fE_friend σ a1 = some (r, σ1)) ∧ (fM_friend σ1 a1 = some (r, σ2)) ∧ I σ2
/-- heir: both answer alike, and what holds goes on holding -/
def St_heir (I : St → Prop) : Prop := ∀ (σ : St) (a1 : Int32) (a2 : Int32), I σ → ∃ (r : Int32) (σ1 σ2 : St), (fE_heir σ a1 a2 = some r ∧ σ1 = σ) ∧ (fM_heir σ1 a1 a2 = some r ∧ σ2 = σ1) ∧ I σ2
/-- least: both answer alike, and what holds goes on holding -/
def St_least (I : St → Prop) : Prop := ∀ (σ : St), I σ → ∃ (r : Int32) (σ1 σ2 : St), (fE_least σ = some (r, σ1)) ∧ (fM_least σ1 = some (r, σ2)) ∧ I σ2
/-- all: both answer alike, and what holds goes on holding -/
def St_all (I : St → Prop) : Prop := ∀ (σ : St) (a1 : Int32), I σ → ∃ (r : Int32) (σ1 σ2 : St), (fE_all σ a1 = some (r, σ1)) ∧ (fM_all σ1 a1 = some (r, σ2)) ∧ I σ2
/-- seed: both answer alike, and what holds goes on holding -/
def St_seed (I : St → Prop) : Prop := ∀ (σ : St) (a1 : Int32), I σ → ∃ (r : Int32) (σ1 σ2 : St), (fE_seed σ a1 = some (r, σ1)) ∧ (fM_seed σ1 a1 = some (r, σ2)) ∧ I σ2
/-- prove: both answer alike, and what holds goes on holding -/
def St_prove (I : St → Prop) : Prop := ∀ (σ : St) (a1 : Int32), I σ → ∃ (r : Int32) (σ1 σ2 : St), (fE_prove σ a1 = some (r, σ1)) ∧ (fM_prove σ1 a1 = some (r, σ2)) ∧ I σ2
/-- rowOf: both answer alike, and what holds goes on holding -/
def St_rowOf (I : St → Prop) : Prop := ∀ (σ : St) (a1 : Int32) (a2 : Int32), I σ → ∃ (r : Int32) (σ1 σ2 : St), (fE_rowOf σ a1 a2 = some r ∧ σ1 = σ) ∧ (fM_rowOf σ1 a1 a2 = some r ∧ σ2 = σ1) ∧ I σ2
/-- alterRow: both answer alike, and what holds goes on holding -/
def St_alterRow (I : St → Prop) : Prop := ∀ (σ : St) (a1 : Int32) (a2 : Int32) (a3 : Int32), I σ → ∃ (r : Int32) (σ1 σ2 : St), (fE_alterRow σ a1 a2 a3 = some (r, σ1)) ∧ (fM_alterRow σ1 a1 a2 a3 = some (r, σ2)) ∧ I σ2
/-- judge: both answer alike, and what holds goes on holding -/
def St_judge (I : St → Prop) : Prop := ∀ (σ : St) (a1 : Int32), I σ → ∃ (r : Int32) (σ1 σ2 : St), (fE_judge σ a1 = some (r, σ1)) ∧ (fM_judge σ1 a1 = some (r, σ2)) ∧ I σ2
/-- ranks: both answer alike, and what holds goes on holding -/
def St_ranks (I : St → Prop) : Prop := ∀ (σ : St) (a1 : Int32) (a2 : Int32) (a3 : Int32) (a4 : Int32), I σ → ∃ (r : Int32) (σ1 σ2 : St), (fE_ranks σ a1 a2 a3 a4 = some (r, σ1)) ∧ (fM_ranks σ1 a1 a2 a3 a4 = some (r, σ2)) ∧ I σ2
/-- sheet: both answer alike, and what holds goes on holding -/
def St_sheet (I : St → Prop) : Prop := ∀ (σ : St) (a1 : Int32) (a2 : Int32) (a3 : Int32), I σ → ∃ (r : Int32) (σ1 σ2 : St), (fE_sheet σ a1 a2 a3 = some (r, σ1)) ∧ (fM_sheet σ1 a1 a2 a3 = some (r, σ2)) ∧ I σ2
/-- put: both answer alike, and what holds goes on holding -/
def St_put (I : St → Prop) : Prop := ∀ (σ : St) (a1 : Int32) (a2 : Int32) (a3 : Int32), I σ → ∃ (r : Int32) (σ1 σ2 : St), (fE_put σ a1 a2 a3 = some (r, σ1)) ∧ (fM_put σ1 a1 a2 a3 = some (r, σ2)) ∧ I σ2
/-- item: both answer alike, and what holds goes on holding -/
def St_item (I : St → Prop) : Prop := ∀ (σ : St) (a1 : Int32) (a2 : Int32) (a3 : Int32), I σ → ∃ (r : Int32) (σ1 σ2 : St), (fE_item σ a1 a2 a3 = some r ∧ σ1 = σ) ∧ (fM_item σ1 a1 a2 a3 = some r ∧ σ2 = σ1) ∧ I σ2
/-- shelf: both answer alike, and what holds goes on holding -/
def St_shelf (I : St → Prop) : Prop := ∀ (σ : St) (a1 : Int32) (a2 : Int32) (a3 : Int32), I σ → ∃ (r : Int32) (σ1 σ2 : St), (fE_shelf σ a1 a2 a3 = some (r, σ1)) ∧ (fM_shelf σ1 a1 a2 a3 = some (r, σ2)) ∧ I σ2
/-- taken: both answer alike, and what holds goes on holding -/
def St_taken (I : St → Prop) : Prop := ∀ (σ : St) (a1 : Int32) (a2 : Int32), I σ → ∃ (r : Int32) (σ1 σ2 : St), (fE_taken σ a1 a2 = some r ∧ σ1 = σ) ∧ (fM_taken σ1 a1 a2 = some r ∧ σ2 = σ1) ∧ I σ2
/-- act: both answer alike, and what holds goes on holding -/
def St_act (I : St → Prop) : Prop := ∀ (σ : St) (a1 : Int32) (a2 : Int32) (a3 : Int32), I σ → ∃ (r : Int32) (σ1 σ2 : St), (fE_act σ a1 a2 a3 = some (r, σ1)) ∧ (fM_act σ1 a1 a2 a3 = some (r, σ2)) ∧ I σ2
/-- trace: both answer alike, and what holds goes on holding -/
def St_trace (I : St → Prop) : Prop := ∀ (σ : St) (a1 : Int32), I σ → ∃ (r : Int32) (σ1 σ2 : St), (fE_trace σ a1 = some r ∧ σ1 = σ) ∧ (fM_trace σ1 a1 = some r ∧ σ2 = σ1) ∧ I σ2
/-- many: both answer alike, and what holds goes on holding -/
def St_many (I : St → Prop) : Prop := ∀ (σ : St) (a1 : Int32), I σ → ∃ (r : Int32) (σ1 σ2 : St), (fE_many σ a1 = some r ∧ σ1 = σ) ∧ (fM_many σ1 a1 = r ∧ σ2 = σ1) ∧ I σ2
/-- keep: both answer alike, and what holds goes on holding -/
def St_keep (I : St → Prop) : Prop := ∀ (σ : St), I σ → ∃ (r : Int32) (σ1 σ2 : St), (fE_keep σ = some (r, σ1)) ∧ (fM_keep σ1 = some (r, σ2)) ∧ I σ2
/-- again: both answer alike, and what holds goes on holding -/
def St_again (I : St → Prop) : Prop := ∀ (σ : St), I σ → ∃ (r : Int32) (σ1 σ2 : St), (fE_again σ = some (r, σ1)) ∧ (fM_again σ1 = some (r, σ2)) ∧ I σ2
def AllSt (I : St → Prop) : Prop := St_feed I ∧ St_town I ∧ St_person I ∧ St_personOf I ∧ St_rank I ∧ St_know I ∧ St_coin I ∧ St_coinOf I ∧ St_stamp I ∧ St_clean I ∧ St_may I ∧ St_give I ∧ St_lot I ∧ St_lots I ∧ St_melt I ∧ St_left I ∧ St_row I ∧ St_through I ∧ St_ways I ∧ St_last I ∧ St_stuck I ∧ St_best I ∧ St_paid I ∧ St_friend I ∧ St_heir I ∧ St_least I ∧ St_all I ∧ St_seed I ∧ St_prove I ∧ St_rowOf I ∧ St_alterRow I ∧ St_judge I ∧ St_ranks I ∧ St_sheet I ∧ St_put I ∧ St_item I ∧ St_shelf I ∧ St_taken I ∧ St_act I ∧ St_trace I ∧ St_many I ∧ St_keep I ∧ St_again I
theorem lwc_feed {E : Ev} {b L : Nat} {xs : Nat → Int32} {I : St → Prop} {σ : St} {i : Int32} (HS : St_feed I) (hI : I σ) (h1 : ib (i + (1 : Int32)) L = true) (h2 : ib (i + (2 : Int32)) L = true) (h3 : ib (i + (3 : Int32)) L = true) (h4 : ib (i + (4 : Int32)) L = true) (kk : ∀ τ, I τ → V E mL (FLw b L xs E) 1545 [(0, .ref 200), (1, .ref 0), (2, .ref 44), (3, .int i)] [] τ) : V E mL (FLw b L xs E) 220 [(0, .ref 200), (1, .ref 0), (2, .ref 44), (3, .int i)] [] σ := by
  obtain ⟨r, σ1, σ2, e1, e2, hI2⟩ := HS σ (((xs (ix (i + (1 : Int32)))).toInt64 <<< ((32 : Int32).toInt64 &&& 63)) ||| ((xs (ix (i + (2 : Int32)))).toInt64 &&& (4294967295 : Int64))) (xs (ix (i + (3 : Int32)))) hI
  refine V.aloadn 1 dL_220 rfl rfl ?_
  refine V.aloadn 0 dL_221 rfl rfl ?_
  refine V.iloadn 3 dL_222 rfl rfl ?_
  refine V.iconst (1 : Int32) dL_223 lc1 rfl ?_
  refine V.iadd dL_224 rfl ?_
  refine V.sld dL_225 h1 rfl ?_
  refine V.i2l dL_226 rfl ?_
  refine V.bipush (32 : Int32) dL_227 (by decide) rfl ?_
  refine V.lshl dL_229 rfl ?_
  refine V.aloadn 0 dL_230 rfl rfl ?_
  refine V.iloadn 3 dL_231 rfl rfl ?_
  refine V.iconst (2 : Int32) dL_232 lc2 rfl ?_
  refine V.iadd dL_233 rfl ?_
  refine V.sld dL_234 h2 rfl ?_
  refine V.i2l dL_235 rfl ?_
  refine V.ldc2 (4294967295 : Int64) dL_236 cL_13 rfl ?_
  refine V.land dL_239 rfl ?_
  refine V.lor dL_240 rfl ?_
  refine V.aloadn 0 dL_241 rfl rfl ?_
  refine V.iloadn 3 dL_242 rfl rfl ?_
  refine V.iconst (3 : Int32) dL_243 lc3 rfl ?_
  refine V.iadd dL_244 rfl ?_
  refine V.sld dL_245 h3 rfl ?_
  refine V.callvi 0 [.long (((xs (ix (i + (1 : Int32)))).toInt64 <<< ((32 : Int32).toInt64 &&& 63)) ||| ((xs (ix (i + (2 : Int32)))).toInt64 &&& (4294967295 : Int64))), .int (xs (ix (i + (3 : Int32))))] dL_246 (kE_feed e1) mlL_15 myE_feed mnE_feed ⟨rfl, rfl, by decide, by decide⟩ (rfl : kd 0 = (5, 0)) (by decide) rfl (Nat.le_of_ble_eq_true rfl) ⟨by show 100 ≤ _; decide, by show 6000 ≤ _; decide⟩ rfl ?_
  refine V.aloadn 2 dL_249 rfl rfl ?_
  refine V.aloadn 0 dL_250 rfl rfl ?_
  refine V.iloadn 3 dL_251 rfl rfl ?_
  refine V.iconst (1 : Int32) dL_252 lc1 rfl ?_
  refine V.iadd dL_253 rfl ?_
  refine V.sld dL_254 h1 rfl ?_
  refine V.i2l dL_255 rfl ?_
  refine V.bipush (32 : Int32) dL_256 (by decide) rfl ?_
  refine V.lshl dL_258 rfl ?_
  refine V.aloadn 0 dL_259 rfl rfl ?_
  refine V.iloadn 3 dL_260 rfl rfl ?_
  refine V.iconst (2 : Int32) dL_261 lc2 rfl ?_
  refine V.iadd dL_262 rfl ?_
  refine V.sld dL_263 h2 rfl ?_
  refine V.i2l dL_264 rfl ?_
  refine V.ldc2 (4294967295 : Int64) dL_265 cL_13 rfl ?_
  refine V.land dL_268 rfl ?_
  refine V.lor dL_269 rfl ?_
  refine V.aloadn 0 dL_270 rfl rfl ?_
  refine V.iloadn 3 dL_271 rfl rfl ?_
  refine V.iconst (3 : Int32) dL_272 lc3 rfl ?_
  refine V.iadd dL_273 rfl ?_
  refine V.sld dL_274 h3 rfl ?_
  refine V.callvi 44 [.long (((xs (ix (i + (1 : Int32)))).toInt64 <<< ((32 : Int32).toInt64 &&& 63)) ||| ((xs (ix (i + (2 : Int32)))).toInt64 &&& (4294967295 : Int64))), .int (xs (ix (i + (3 : Int32))))] dL_275 (kM_feed e2) mlL_19 myM_feed mnM_feed ⟨rfl, rfl, by decide, by decide⟩ (rfl : kd 44 = (6, 0)) (by decide) rfl (Nat.le_of_ble_eq_true rfl) ⟨by show 100 ≤ _; decide, by show 6000 ≤ _; decide⟩ rfl ?_
  refine V.icmpeq 1545 dL_278 rfl rfl (fun _ => kk σ2 hI2) (fun g => absurd rfl g)
theorem lwc_town {E : Ev} {b L : Nat} {xs : Nat → Int32} {I : St → Prop} {σ : St} {i : Int32} (HS : St_town I) (hI : I σ) (h1 : ib (i + (1 : Int32)) L = true) (h2 : ib (i + (2 : Int32)) L = true) (h3 : ib (i + (3 : Int32)) L = true) (h4 : ib (i + (4 : Int32)) L = true) (kk : ∀ τ, I τ → V E mL (FLw b L xs E) 1545 [(0, .ref 200), (1, .ref 0), (2, .ref 44), (3, .int i)] [] τ) : V E mL (FLw b L xs E) 283 [(0, .ref 200), (1, .ref 0), (2, .ref 44), (3, .int i)] [] σ := by
  obtain ⟨r, σ1, σ2, e1, e2, hI2⟩ := HS σ hI
  refine V.aloadn 1 dL_283 rfl rfl ?_
  refine V.callvi 0 [] dL_284 (kE_town e1) mlL_20 myE_town mnE_town ⟨rfl, rfl, by decide, by decide⟩ (rfl : kd 0 = (5, 0)) (by decide) rfl (Nat.le_of_ble_eq_true rfl) ⟨by show 100 ≤ _; decide, by show 6000 ≤ _; decide⟩ rfl ?_
  refine V.aloadn 2 dL_287 rfl rfl ?_
  refine V.callvi 44 [] dL_288 (kM_town e2) mlL_24 myM_town mnM_town ⟨rfl, rfl, by decide, by decide⟩ (rfl : kd 44 = (6, 0)) (by decide) rfl (Nat.le_of_ble_eq_true rfl) ⟨by show 100 ≤ _; decide, by show 6000 ≤ _; decide⟩ rfl ?_
  refine V.icmpeq 1545 dL_291 rfl rfl (fun _ => kk σ2 hI2) (fun g => absurd rfl g)
theorem lwc_person {E : Ev} {b L : Nat} {xs : Nat → Int32} {I : St → Prop} {σ : St} {i : Int32} (HS : St_person I) (hI : I σ) (h1 : ib (i + (1 : Int32)) L = true) (h2 : ib (i + (2 : Int32)) L = true) (h3 : ib (i + (3 : Int32)) L = true) (h4 : ib (i + (4 : Int32)) L = true) (kk : ∀ τ, I τ → V E mL (FLw b L xs E) 1545 [(0, .ref 200), (1, .ref 0), (2, .ref 44), (3, .int i)] [] τ) : V E mL (FLw b L xs E) 296 [(0, .ref 200), (1, .ref 0), (2, .ref 44), (3, .int i)] [] σ := by
  obtain ⟨r, σ1, σ2, e1, e2, hI2⟩ := HS σ (xs (ix (i + (1 : Int32)))) hI
  refine V.aloadn 1 dL_296 rfl rfl ?_
  refine V.aloadn 0 dL_297 rfl rfl ?_
  refine V.iloadn 3 dL_298 rfl rfl ?_
  refine V.iconst (1 : Int32) dL_299 lc1 rfl ?_
  refine V.iadd dL_300 rfl ?_
  refine V.sld dL_301 h1 rfl ?_
  refine V.callvi 0 [.int (xs (ix (i + (1 : Int32))))] dL_302 (kE_person e1) mlL_25 myE_person mnE_person ⟨rfl, rfl, by decide, by decide⟩ (rfl : kd 0 = (5, 0)) (by decide) rfl (Nat.le_of_ble_eq_true rfl) ⟨by show 100 ≤ _; decide, by show 6000 ≤ _; decide⟩ rfl ?_
  refine V.aloadn 2 dL_305 rfl rfl ?_
  refine V.aloadn 0 dL_306 rfl rfl ?_
  refine V.iloadn 3 dL_307 rfl rfl ?_
  refine V.iconst (1 : Int32) dL_308 lc1 rfl ?_
  refine V.iadd dL_309 rfl ?_
  refine V.sld dL_310 h1 rfl ?_
  refine V.callvi 44 [.int (xs (ix (i + (1 : Int32))))] dL_311 (kM_person e2) mlL_29 myM_person mnM_person ⟨rfl, rfl, by decide, by decide⟩ (rfl : kd 44 = (6, 0)) (by decide) rfl (Nat.le_of_ble_eq_true rfl) ⟨by show 100 ≤ _; decide, by show 6000 ≤ _; decide⟩ rfl ?_
  refine V.icmpeq 1545 dL_314 rfl rfl (fun _ => kk σ2 hI2) (fun g => absurd rfl g)
theorem lwc_personOf {E : Ev} {b L : Nat} {xs : Nat → Int32} {I : St → Prop} {σ : St} {i : Int32} (HS : St_personOf I) (hI : I σ) (h1 : ib (i + (1 : Int32)) L = true) (h2 : ib (i + (2 : Int32)) L = true) (h3 : ib (i + (3 : Int32)) L = true) (h4 : ib (i + (4 : Int32)) L = true) (kk : ∀ τ, I τ → V E mL (FLw b L xs E) 1545 [(0, .ref 200), (1, .ref 0), (2, .ref 44), (3, .int i)] [] τ) : V E mL (FLw b L xs E) 319 [(0, .ref 200), (1, .ref 0), (2, .ref 44), (3, .int i)] [] σ := by
  obtain ⟨r, σ1, σ2, e1, e2, hI2⟩ := HS σ (xs (ix (i + (1 : Int32)))) (xs (ix (i + (2 : Int32)))) hI
  obtain ⟨e1, rfl⟩ := e1
  obtain ⟨e2, rfl⟩ := e2
  refine V.aloadn 1 dL_319 rfl rfl ?_
  refine V.aloadn 0 dL_320 rfl rfl ?_
  refine V.iloadn 3 dL_321 rfl rfl ?_
  refine V.iconst (1 : Int32) dL_322 lc1 rfl ?_
  refine V.iadd dL_323 rfl ?_
  refine V.sld dL_324 h1 rfl ?_
  refine V.aloadn 0 dL_325 rfl rfl ?_
  refine V.iloadn 3 dL_326 rfl rfl ?_
  refine V.iconst (2 : Int32) dL_327 lc2 rfl ?_
  refine V.iadd dL_328 rfl ?_
  refine V.sld dL_329 h2 rfl ?_
  refine V.callvi 0 [.int (xs (ix (i + (1 : Int32)))), .int (xs (ix (i + (2 : Int32))))] dL_330 (kE_personOf e1) mlL_30 myE_personOf mnE_personOf ⟨rfl, rfl, by decide, by decide⟩ (rfl : kd 0 = (5, 0)) (by decide) rfl (Nat.le_of_ble_eq_true rfl) ⟨by show 100 ≤ _; decide, by show 6000 ≤ _; decide⟩ rfl ?_
  refine V.aloadn 2 dL_333 rfl rfl ?_
  refine V.aloadn 0 dL_334 rfl rfl ?_
  refine V.iloadn 3 dL_335 rfl rfl ?_
  refine V.iconst (1 : Int32) dL_336 lc1 rfl ?_
  refine V.iadd dL_337 rfl ?_
  refine V.sld dL_338 h1 rfl ?_
  refine V.aloadn 0 dL_339 rfl rfl ?_
  refine V.iloadn 3 dL_340 rfl rfl ?_
  refine V.iconst (2 : Int32) dL_341 lc2 rfl ?_
  refine V.iadd dL_342 rfl ?_
  refine V.sld dL_343 h2 rfl ?_
  refine V.callvi 44 [.int (xs (ix (i + (1 : Int32)))), .int (xs (ix (i + (2 : Int32))))] dL_344 (kM_personOf e2) mlL_34 myM_personOf mnM_personOf ⟨rfl, rfl, by decide, by decide⟩ (rfl : kd 44 = (6, 0)) (by decide) rfl (Nat.le_of_ble_eq_true rfl) ⟨by show 100 ≤ _; decide, by show 6000 ≤ _; decide⟩ rfl ?_
  refine V.icmpeq 1545 dL_347 rfl rfl (fun _ => kk σ2 hI2) (fun g => absurd rfl g)
theorem lwc_rank {E : Ev} {b L : Nat} {xs : Nat → Int32} {I : St → Prop} {σ : St} {i : Int32} (HS : St_rank I) (hI : I σ) (h1 : ib (i + (1 : Int32)) L = true) (h2 : ib (i + (2 : Int32)) L = true) (h3 : ib (i + (3 : Int32)) L = true) (h4 : ib (i + (4 : Int32)) L = true) (kk : ∀ τ, I τ → V E mL (FLw b L xs E) 1545 [(0, .ref 200), (1, .ref 0), (2, .ref 44), (3, .int i)] [] τ) : V E mL (FLw b L xs E) 352 [(0, .ref 200), (1, .ref 0), (2, .ref 44), (3, .int i)] [] σ := by
  obtain ⟨r, σ1, σ2, e1, e2, hI2⟩ := HS σ (xs (ix (i + (1 : Int32)))) (xs (ix (i + (2 : Int32)))) hI
  refine V.aloadn 1 dL_352 rfl rfl ?_
  refine V.aloadn 0 dL_353 rfl rfl ?_
  refine V.iloadn 3 dL_354 rfl rfl ?_
  refine V.iconst (1 : Int32) dL_355 lc1 rfl ?_
  refine V.iadd dL_356 rfl ?_
  refine V.sld dL_357 h1 rfl ?_
  refine V.aloadn 0 dL_358 rfl rfl ?_
  refine V.iloadn 3 dL_359 rfl rfl ?_
  refine V.iconst (2 : Int32) dL_360 lc2 rfl ?_
  refine V.iadd dL_361 rfl ?_
  refine V.sld dL_362 h2 rfl ?_
  refine V.callvi 0 [.int (xs (ix (i + (1 : Int32)))), .int (xs (ix (i + (2 : Int32))))] dL_363 (kE_rank e1) mlL_35 myE_rank mnE_rank ⟨rfl, rfl, by decide, by decide⟩ (rfl : kd 0 = (5, 0)) (by decide) rfl (Nat.le_of_ble_eq_true rfl) ⟨by show 100 ≤ _; decide, by show 6000 ≤ _; decide⟩ rfl ?_
  refine V.aloadn 2 dL_366 rfl rfl ?_
  refine V.aloadn 0 dL_367 rfl rfl ?_
  refine V.iloadn 3 dL_368 rfl rfl ?_
  refine V.iconst (1 : Int32) dL_369 lc1 rfl ?_
  refine V.iadd dL_370 rfl ?_
  refine V.sld dL_371 h1 rfl ?_
  refine V.aloadn 0 dL_372 rfl rfl ?_
  refine V.iloadn 3 dL_373 rfl rfl ?_
  refine V.iconst (2 : Int32) dL_374 lc2 rfl ?_
  refine V.iadd dL_375 rfl ?_
  refine V.sld dL_376 h2 rfl ?_
  refine V.callvi 44 [.int (xs (ix (i + (1 : Int32)))), .int (xs (ix (i + (2 : Int32))))] dL_377 (kM_rank e2) mlL_38 myM_rank mnM_rank ⟨rfl, rfl, by decide, by decide⟩ (rfl : kd 44 = (6, 0)) (by decide) rfl (Nat.le_of_ble_eq_true rfl) ⟨by show 100 ≤ _; decide, by show 6000 ≤ _; decide⟩ rfl ?_
  refine V.icmpeq 1545 dL_380 rfl rfl (fun _ => kk σ2 hI2) (fun g => absurd rfl g)
theorem lwc_know {E : Ev} {b L : Nat} {xs : Nat → Int32} {I : St → Prop} {σ : St} {i : Int32} (HS : St_know I) (hI : I σ) (h1 : ib (i + (1 : Int32)) L = true) (h2 : ib (i + (2 : Int32)) L = true) (h3 : ib (i + (3 : Int32)) L = true) (h4 : ib (i + (4 : Int32)) L = true) (kk : ∀ τ, I τ → V E mL (FLw b L xs E) 1545 [(0, .ref 200), (1, .ref 0), (2, .ref 44), (3, .int i)] [] τ) : V E mL (FLw b L xs E) 385 [(0, .ref 200), (1, .ref 0), (2, .ref 44), (3, .int i)] [] σ := by
  obtain ⟨r, σ1, σ2, e1, e2, hI2⟩ := HS σ (xs (ix (i + (1 : Int32)))) (xs (ix (i + (2 : Int32)))) (if (xs (ix (i + (3 : Int32)))) = 0 then (0 : Int32) else (1 : Int32)) hI (b01_i b01_0 b01_1)
  refine V.aloadn 1 dL_385 rfl rfl ?_
  refine V.aloadn 0 dL_386 rfl rfl ?_
  refine V.iloadn 3 dL_387 rfl rfl ?_
  refine V.iconst (1 : Int32) dL_388 lc1 rfl ?_
  refine V.iadd dL_389 rfl ?_
  refine V.sld dL_390 h1 rfl ?_
  refine V.aloadn 0 dL_391 rfl rfl ?_
  refine V.iloadn 3 dL_392 rfl rfl ?_
  refine V.iconst (2 : Int32) dL_393 lc2 rfl ?_
  refine V.iadd dL_394 rfl ?_
  refine V.sld dL_395 h2 rfl ?_
  refine V.aloadn 0 dL_396 rfl rfl ?_
  refine V.iloadn 3 dL_397 rfl rfl ?_
  refine V.iconst (3 : Int32) dL_398 lc3 rfl ?_
  refine V.iadd dL_399 rfl ?_
  refine V.sld dL_400 h3 rfl ?_
  have JJ : V E mL (FLw b L xs E) 409 [(0, .ref 200), (1, .ref 0), (2, .ref 44), (3, .int i)] [.int (if (xs (ix (i + (3 : Int32)))) = 0 then (0 : Int32) else (1 : Int32)), .int (xs (ix (i + (2 : Int32)))), .int (xs (ix (i + (1 : Int32)))), .ref 0] σ := by
    refine V.callvi 0 [.int (xs (ix (i + (1 : Int32)))), .int (xs (ix (i + (2 : Int32)))), .int (if (xs (ix (i + (3 : Int32)))) = 0 then (0 : Int32) else (1 : Int32))] dL_409 (kE_know e1) mlL_39 myE_know mnE_know ⟨rfl, rfl, by decide, by decide⟩ (rfl : kd 0 = (5, 0)) (by decide) rfl (Nat.le_of_ble_eq_true rfl) ⟨by show 100 ≤ _; decide, by show 6000 ≤ _; decide⟩ rfl ?_
    refine V.aloadn 2 dL_412 rfl rfl ?_
    refine V.aloadn 0 dL_413 rfl rfl ?_
    refine V.iloadn 3 dL_414 rfl rfl ?_
    refine V.iconst (1 : Int32) dL_415 lc1 rfl ?_
    refine V.iadd dL_416 rfl ?_
    refine V.sld dL_417 h1 rfl ?_
    refine V.aloadn 0 dL_418 rfl rfl ?_
    refine V.iloadn 3 dL_419 rfl rfl ?_
    refine V.iconst (2 : Int32) dL_420 lc2 rfl ?_
    refine V.iadd dL_421 rfl ?_
    refine V.sld dL_422 h2 rfl ?_
    refine V.aloadn 0 dL_423 rfl rfl ?_
    refine V.iloadn 3 dL_424 rfl rfl ?_
    refine V.iconst (3 : Int32) dL_425 lc3 rfl ?_
    refine V.iadd dL_426 rfl ?_
    refine V.sld dL_427 h3 rfl ?_
    have JJ : V E mL (FLw b L xs E) 436 [(0, .ref 200), (1, .ref 0), (2, .ref 44), (3, .int i)] [.int (if (xs (ix (i + (3 : Int32)))) = 0 then (0 : Int32) else (1 : Int32)), .int (xs (ix (i + (2 : Int32)))), .int (xs (ix (i + (1 : Int32)))), .ref 44, .int r] σ1 := by
      refine V.callvi 44 [.int (xs (ix (i + (1 : Int32)))), .int (xs (ix (i + (2 : Int32)))), .int (if (xs (ix (i + (3 : Int32)))) = 0 then (0 : Int32) else (1 : Int32))] dL_436 (kM_know e2) mlL_43 myM_know mnM_know ⟨rfl, rfl, by decide, by decide⟩ (rfl : kd 44 = (6, 0)) (by decide) rfl (Nat.le_of_ble_eq_true rfl) ⟨by show 100 ≤ _; decide, by show 6000 ≤ _; decide⟩ rfl ?_
      refine V.icmpeq 1545 dL_439 rfl rfl (fun _ => kk σ2 hI2) (fun g => absurd rfl g)
    refine V.ifeq 435 dL_428 rfl rfl (fun g => ?_) (fun g => ?_)
    · refine V.iconst (0 : Int32) dL_435 lc0 rfl ?_
      exact V.top (if_pos g).symm JJ
    · refine V.iconst (1 : Int32) dL_431 lc1 rfl ?_
      refine V.goto 436 dL_432 rfl ?_
      exact V.top (if_neg g).symm JJ
  refine V.ifeq 408 dL_401 rfl rfl (fun g => ?_) (fun g => ?_)
  · refine V.iconst (0 : Int32) dL_408 lc0 rfl ?_
    exact V.top (if_pos g).symm JJ
  · refine V.iconst (1 : Int32) dL_404 lc1 rfl ?_
    refine V.goto 409 dL_405 rfl ?_
    exact V.top (if_neg g).symm JJ
theorem lwc_coin {E : Ev} {b L : Nat} {xs : Nat → Int32} {I : St → Prop} {σ : St} {i : Int32} (HS : St_coin I) (hI : I σ) (h1 : ib (i + (1 : Int32)) L = true) (h2 : ib (i + (2 : Int32)) L = true) (h3 : ib (i + (3 : Int32)) L = true) (h4 : ib (i + (4 : Int32)) L = true) (kk : ∀ τ, I τ → V E mL (FLw b L xs E) 1545 [(0, .ref 200), (1, .ref 0), (2, .ref 44), (3, .int i)] [] τ) : V E mL (FLw b L xs E) 444 [(0, .ref 200), (1, .ref 0), (2, .ref 44), (3, .int i)] [] σ := by
  obtain ⟨r, σ1, σ2, e1, e2, hI2⟩ := HS σ (xs (ix (i + (1 : Int32)))) (xs (ix (i + (2 : Int32)))) (xs (ix (i + (3 : Int32)))) hI
  refine V.aloadn 1 dL_444 rfl rfl ?_
  refine V.aloadn 0 dL_445 rfl rfl ?_
  refine V.iloadn 3 dL_446 rfl rfl ?_
  refine V.iconst (1 : Int32) dL_447 lc1 rfl ?_
  refine V.iadd dL_448 rfl ?_
  refine V.sld dL_449 h1 rfl ?_
  refine V.aloadn 0 dL_450 rfl rfl ?_
  refine V.iloadn 3 dL_451 rfl rfl ?_
  refine V.iconst (2 : Int32) dL_452 lc2 rfl ?_
  refine V.iadd dL_453 rfl ?_
  refine V.sld dL_454 h2 rfl ?_
  refine V.aloadn 0 dL_455 rfl rfl ?_
  refine V.iloadn 3 dL_456 rfl rfl ?_
  refine V.iconst (3 : Int32) dL_457 lc3 rfl ?_
  refine V.iadd dL_458 rfl ?_
  refine V.sld dL_459 h3 rfl ?_
  refine V.callvi 0 [.int (xs (ix (i + (1 : Int32)))), .int (xs (ix (i + (2 : Int32)))), .int (xs (ix (i + (3 : Int32))))] dL_460 (kE_coin e1) mlL_44 myE_coin mnE_coin ⟨rfl, rfl, by decide, by decide⟩ (rfl : kd 0 = (5, 0)) (by decide) rfl (Nat.le_of_ble_eq_true rfl) ⟨by show 100 ≤ _; decide, by show 6000 ≤ _; decide⟩ rfl ?_
  refine V.aloadn 2 dL_463 rfl rfl ?_
  refine V.aloadn 0 dL_464 rfl rfl ?_
  refine V.iloadn 3 dL_465 rfl rfl ?_
  refine V.iconst (1 : Int32) dL_466 lc1 rfl ?_
  refine V.iadd dL_467 rfl ?_
  refine V.sld dL_468 h1 rfl ?_
  refine V.aloadn 0 dL_469 rfl rfl ?_
  refine V.iloadn 3 dL_470 rfl rfl ?_
  refine V.iconst (2 : Int32) dL_471 lc2 rfl ?_
  refine V.iadd dL_472 rfl ?_
  refine V.sld dL_473 h2 rfl ?_
  refine V.aloadn 0 dL_474 rfl rfl ?_
  refine V.iloadn 3 dL_475 rfl rfl ?_
  refine V.iconst (3 : Int32) dL_476 lc3 rfl ?_
  refine V.iadd dL_477 rfl ?_
  refine V.sld dL_478 h3 rfl ?_
  refine V.callvi 44 [.int (xs (ix (i + (1 : Int32)))), .int (xs (ix (i + (2 : Int32)))), .int (xs (ix (i + (3 : Int32))))] dL_479 (kM_coin e2) mlL_48 myM_coin mnM_coin ⟨rfl, rfl, by decide, by decide⟩ (rfl : kd 44 = (6, 0)) (by decide) rfl (Nat.le_of_ble_eq_true rfl) ⟨by show 100 ≤ _; decide, by show 6000 ≤ _; decide⟩ rfl ?_
  refine V.icmpeq 1545 dL_482 rfl rfl (fun _ => kk σ2 hI2) (fun g => absurd rfl g)
theorem lwc_coinOf {E : Ev} {b L : Nat} {xs : Nat → Int32} {I : St → Prop} {σ : St} {i : Int32} (HS : St_coinOf I) (hI : I σ) (h1 : ib (i + (1 : Int32)) L = true) (h2 : ib (i + (2 : Int32)) L = true) (h3 : ib (i + (3 : Int32)) L = true) (h4 : ib (i + (4 : Int32)) L = true) (kk : ∀ τ, I τ → V E mL (FLw b L xs E) 1545 [(0, .ref 200), (1, .ref 0), (2, .ref 44), (3, .int i)] [] τ) : V E mL (FLw b L xs E) 487 [(0, .ref 200), (1, .ref 0), (2, .ref 44), (3, .int i)] [] σ := by
  obtain ⟨r, σ1, σ2, e1, e2, hI2⟩ := HS σ (xs (ix (i + (1 : Int32)))) (xs (ix (i + (2 : Int32)))) hI
  obtain ⟨e1, rfl⟩ := e1
  obtain ⟨e2, rfl⟩ := e2
  refine V.aloadn 1 dL_487 rfl rfl ?_
  refine V.aloadn 0 dL_488 rfl rfl ?_
  refine V.iloadn 3 dL_489 rfl rfl ?_
  refine V.iconst (1 : Int32) dL_490 lc1 rfl ?_
  refine V.iadd dL_491 rfl ?_
  refine V.sld dL_492 h1 rfl ?_
  refine V.aloadn 0 dL_493 rfl rfl ?_
  refine V.iloadn 3 dL_494 rfl rfl ?_
  refine V.iconst (2 : Int32) dL_495 lc2 rfl ?_
  refine V.iadd dL_496 rfl ?_
  refine V.sld dL_497 h2 rfl ?_
  refine V.callvi 0 [.int (xs (ix (i + (1 : Int32)))), .int (xs (ix (i + (2 : Int32))))] dL_498 (kE_coinOf e1) mlL_49 myE_coinOf mnE_coinOf ⟨rfl, rfl, by decide, by decide⟩ (rfl : kd 0 = (5, 0)) (by decide) rfl (Nat.le_of_ble_eq_true rfl) ⟨by show 100 ≤ _; decide, by show 6000 ≤ _; decide⟩ rfl ?_
  refine V.aloadn 2 dL_501 rfl rfl ?_
  refine V.aloadn 0 dL_502 rfl rfl ?_
  refine V.iloadn 3 dL_503 rfl rfl ?_
  refine V.iconst (1 : Int32) dL_504 lc1 rfl ?_
  refine V.iadd dL_505 rfl ?_
  refine V.sld dL_506 h1 rfl ?_
  refine V.aloadn 0 dL_507 rfl rfl ?_
  refine V.iloadn 3 dL_508 rfl rfl ?_
  refine V.iconst (2 : Int32) dL_509 lc2 rfl ?_
  refine V.iadd dL_510 rfl ?_
  refine V.sld dL_511 h2 rfl ?_
  refine V.callvi 44 [.int (xs (ix (i + (1 : Int32)))), .int (xs (ix (i + (2 : Int32))))] dL_512 (kM_coinOf e2) mlL_52 myM_coinOf mnM_coinOf ⟨rfl, rfl, by decide, by decide⟩ (rfl : kd 44 = (6, 0)) (by decide) rfl (Nat.le_of_ble_eq_true rfl) ⟨by show 100 ≤ _; decide, by show 6000 ≤ _; decide⟩ rfl ?_
  refine V.icmpeq 1545 dL_515 rfl rfl (fun _ => kk σ2 hI2) (fun g => absurd rfl g)
theorem lwc_stamp {E : Ev} {b L : Nat} {xs : Nat → Int32} {I : St → Prop} {σ : St} {i : Int32} (HS : St_stamp I) (hI : I σ) (h1 : ib (i + (1 : Int32)) L = true) (h2 : ib (i + (2 : Int32)) L = true) (h3 : ib (i + (3 : Int32)) L = true) (h4 : ib (i + (4 : Int32)) L = true) (kk : ∀ τ, I τ → V E mL (FLw b L xs E) 1545 [(0, .ref 200), (1, .ref 0), (2, .ref 44), (3, .int i)] [] τ) : V E mL (FLw b L xs E) 520 [(0, .ref 200), (1, .ref 0), (2, .ref 44), (3, .int i)] [] σ := by
  obtain ⟨r, σ1, σ2, e1, e2, hI2⟩ := HS σ (xs (ix (i + (1 : Int32)))) (xs (ix (i + (2 : Int32)))) (xs (ix (i + (3 : Int32)))) hI
  refine V.aloadn 1 dL_520 rfl rfl ?_
  refine V.aloadn 0 dL_521 rfl rfl ?_
  refine V.iloadn 3 dL_522 rfl rfl ?_
  refine V.iconst (1 : Int32) dL_523 lc1 rfl ?_
  refine V.iadd dL_524 rfl ?_
  refine V.sld dL_525 h1 rfl ?_
  refine V.aloadn 0 dL_526 rfl rfl ?_
  refine V.iloadn 3 dL_527 rfl rfl ?_
  refine V.iconst (2 : Int32) dL_528 lc2 rfl ?_
  refine V.iadd dL_529 rfl ?_
  refine V.sld dL_530 h2 rfl ?_
  refine V.aloadn 0 dL_531 rfl rfl ?_
  refine V.iloadn 3 dL_532 rfl rfl ?_
  refine V.iconst (3 : Int32) dL_533 lc3 rfl ?_
  refine V.iadd dL_534 rfl ?_
  refine V.sld dL_535 h3 rfl ?_
  refine V.callvi 0 [.int (xs (ix (i + (1 : Int32)))), .int (xs (ix (i + (2 : Int32)))), .int (xs (ix (i + (3 : Int32))))] dL_536 (kE_stamp e1) mlL_53 myE_stamp mnE_stamp ⟨rfl, rfl, by decide, by decide⟩ (rfl : kd 0 = (5, 0)) (by decide) rfl (Nat.le_of_ble_eq_true rfl) ⟨by show 100 ≤ _; decide, by show 6000 ≤ _; decide⟩ rfl ?_
  refine V.aloadn 2 dL_539 rfl rfl ?_
  refine V.aloadn 0 dL_540 rfl rfl ?_
  refine V.iloadn 3 dL_541 rfl rfl ?_
  refine V.iconst (1 : Int32) dL_542 lc1 rfl ?_
  refine V.iadd dL_543 rfl ?_
  refine V.sld dL_544 h1 rfl ?_
  refine V.aloadn 0 dL_545 rfl rfl ?_
  refine V.iloadn 3 dL_546 rfl rfl ?_
  refine V.iconst (2 : Int32) dL_547 lc2 rfl ?_
  refine V.iadd dL_548 rfl ?_
  refine V.sld dL_549 h2 rfl ?_
  refine V.aloadn 0 dL_550 rfl rfl ?_
  refine V.iloadn 3 dL_551 rfl rfl ?_
  refine V.iconst (3 : Int32) dL_552 lc3 rfl ?_
  refine V.iadd dL_553 rfl ?_
  refine V.sld dL_554 h3 rfl ?_
  refine V.callvi 44 [.int (xs (ix (i + (1 : Int32)))), .int (xs (ix (i + (2 : Int32)))), .int (xs (ix (i + (3 : Int32))))] dL_555 (kM_stamp e2) mlL_56 myM_stamp mnM_stamp ⟨rfl, rfl, by decide, by decide⟩ (rfl : kd 44 = (6, 0)) (by decide) rfl (Nat.le_of_ble_eq_true rfl) ⟨by show 100 ≤ _; decide, by show 6000 ≤ _; decide⟩ rfl ?_
  refine V.icmpeq 1545 dL_558 rfl rfl (fun _ => kk σ2 hI2) (fun g => absurd rfl g)
theorem lwc_clean {E : Ev} {b L : Nat} {xs : Nat → Int32} {I : St → Prop} {σ : St} {i : Int32} (HS : St_clean I) (hI : I σ) (h1 : ib (i + (1 : Int32)) L = true) (h2 : ib (i + (2 : Int32)) L = true) (h3 : ib (i + (3 : Int32)) L = true) (h4 : ib (i + (4 : Int32)) L = true) (kk : ∀ τ, I τ → V E mL (FLw b L xs E) 1545 [(0, .ref 200), (1, .ref 0), (2, .ref 44), (3, .int i)] [] τ) : V E mL (FLw b L xs E) 563 [(0, .ref 200), (1, .ref 0), (2, .ref 44), (3, .int i)] [] σ := by
  obtain ⟨r, σ1, σ2, e1, e2, hI2⟩ := HS σ (xs (ix (i + (1 : Int32)))) hI
  refine V.aloadn 1 dL_563 rfl rfl ?_
  refine V.aloadn 0 dL_564 rfl rfl ?_
  refine V.iloadn 3 dL_565 rfl rfl ?_
  refine V.iconst (1 : Int32) dL_566 lc1 rfl ?_
  refine V.iadd dL_567 rfl ?_
  refine V.sld dL_568 h1 rfl ?_
  refine V.callvi 0 [.int (xs (ix (i + (1 : Int32))))] dL_569 (kE_clean e1) mlL_57 myE_clean mnE_clean ⟨rfl, rfl, by decide, by decide⟩ (rfl : kd 0 = (5, 0)) (by decide) rfl (Nat.le_of_ble_eq_true rfl) ⟨by show 100 ≤ _; decide, by show 6000 ≤ _; decide⟩ rfl ?_
  refine V.aloadn 2 dL_572 rfl rfl ?_
  refine V.aloadn 0 dL_573 rfl rfl ?_
  refine V.iloadn 3 dL_574 rfl rfl ?_
  refine V.iconst (1 : Int32) dL_575 lc1 rfl ?_
  refine V.iadd dL_576 rfl ?_
  refine V.sld dL_577 h1 rfl ?_
  refine V.callvi 44 [.int (xs (ix (i + (1 : Int32))))] dL_578 (kM_clean e2) mlL_60 myM_clean mnM_clean ⟨rfl, rfl, by decide, by decide⟩ (rfl : kd 44 = (6, 0)) (by decide) rfl (Nat.le_of_ble_eq_true rfl) ⟨by show 100 ≤ _; decide, by show 6000 ≤ _; decide⟩ rfl ?_
  refine V.icmpeq 1545 dL_581 rfl rfl (fun _ => kk σ2 hI2) (fun g => absurd rfl g)
theorem lwc_may {E : Ev} {b L : Nat} {xs : Nat → Int32} {I : St → Prop} {σ : St} {i : Int32} (HS : St_may I) (hI : I σ) (h1 : ib (i + (1 : Int32)) L = true) (h2 : ib (i + (2 : Int32)) L = true) (h3 : ib (i + (3 : Int32)) L = true) (h4 : ib (i + (4 : Int32)) L = true) (kk : ∀ τ, I τ → V E mL (FLw b L xs E) 1545 [(0, .ref 200), (1, .ref 0), (2, .ref 44), (3, .int i)] [] τ) : V E mL (FLw b L xs E) 586 [(0, .ref 200), (1, .ref 0), (2, .ref 44), (3, .int i)] [] σ := by
  obtain ⟨r, σ1, σ2, e1, e2, hI2⟩ := HS σ (xs (ix (i + (1 : Int32)))) (xs (ix (i + (2 : Int32)))) hI
  obtain ⟨e1, rfl⟩ := e1
  obtain ⟨e2, rfl⟩ := e2
  refine V.aloadn 1 dL_586 rfl rfl ?_
  refine V.aloadn 0 dL_587 rfl rfl ?_
  refine V.iloadn 3 dL_588 rfl rfl ?_
  refine V.iconst (1 : Int32) dL_589 lc1 rfl ?_
  refine V.iadd dL_590 rfl ?_
  refine V.sld dL_591 h1 rfl ?_
  refine V.aloadn 0 dL_592 rfl rfl ?_
  refine V.iloadn 3 dL_593 rfl rfl ?_
  refine V.iconst (2 : Int32) dL_594 lc2 rfl ?_
  refine V.iadd dL_595 rfl ?_
  refine V.sld dL_596 h2 rfl ?_
  refine V.callvi 0 [.int (xs (ix (i + (1 : Int32)))), .int (xs (ix (i + (2 : Int32))))] dL_597 (kE_may e1) mlL_61 myE_may mnE_may ⟨rfl, rfl, by decide, by decide⟩ (rfl : kd 0 = (5, 0)) (by decide) rfl (Nat.le_of_ble_eq_true rfl) ⟨by show 100 ≤ _; decide, by show 6000 ≤ _; decide⟩ rfl ?_
  refine V.aloadn 2 dL_600 rfl rfl ?_
  refine V.aloadn 0 dL_601 rfl rfl ?_
  refine V.iloadn 3 dL_602 rfl rfl ?_
  refine V.iconst (1 : Int32) dL_603 lc1 rfl ?_
  refine V.iadd dL_604 rfl ?_
  refine V.sld dL_605 h1 rfl ?_
  refine V.aloadn 0 dL_606 rfl rfl ?_
  refine V.iloadn 3 dL_607 rfl rfl ?_
  refine V.iconst (2 : Int32) dL_608 lc2 rfl ?_
  refine V.iadd dL_609 rfl ?_
  refine V.sld dL_610 h2 rfl ?_
  refine V.callvi 44 [.int (xs (ix (i + (1 : Int32)))), .int (xs (ix (i + (2 : Int32))))] dL_611 (kM_may e2) mlL_64 myM_may mnM_may ⟨rfl, rfl, by decide, by decide⟩ (rfl : kd 44 = (6, 0)) (by decide) rfl (Nat.le_of_ble_eq_true rfl) ⟨by show 100 ≤ _; decide, by show 6000 ≤ _; decide⟩ rfl ?_
  refine V.icmpeq 1545 dL_614 rfl rfl (fun _ => kk σ2 hI2) (fun g => absurd rfl g)
theorem lwc_give {E : Ev} {b L : Nat} {xs : Nat → Int32} {I : St → Prop} {σ : St} {i : Int32} (HS : St_give I) (hI : I σ) (h1 : ib (i + (1 : Int32)) L = true) (h2 : ib (i + (2 : Int32)) L = true) (h3 : ib (i + (3 : Int32)) L = true) (h4 : ib (i + (4 : Int32)) L = true) (kk : ∀ τ, I τ → V E mL (FLw b L xs E) 1545 [(0, .ref 200), (1, .ref 0), (2, .ref 44), (3, .int i)] [] τ) : V E mL (FLw b L xs E) 619 [(0, .ref 200), (1, .ref 0), (2, .ref 44), (3, .int i)] [] σ := by
  obtain ⟨r, σ1, σ2, e1, e2, hI2⟩ := HS σ (xs (ix (i + (1 : Int32)))) (xs (ix (i + (2 : Int32)))) hI
  refine V.aloadn 1 dL_619 rfl rfl ?_
  refine V.aloadn 0 dL_620 rfl rfl ?_
  refine V.iloadn 3 dL_621 rfl rfl ?_
  refine V.iconst (1 : Int32) dL_622 lc1 rfl ?_
  refine V.iadd dL_623 rfl ?_
  refine V.sld dL_624 h1 rfl ?_
  refine V.aloadn 0 dL_625 rfl rfl ?_
  refine V.iloadn 3 dL_626 rfl rfl ?_
  refine V.iconst (2 : Int32) dL_627 lc2 rfl ?_
  refine V.iadd dL_628 rfl ?_
  refine V.sld dL_629 h2 rfl ?_
  refine V.callvi 0 [.int (xs (ix (i + (1 : Int32)))), .int (xs (ix (i + (2 : Int32))))] dL_630 (kE_give e1) mlL_65 myE_give mnE_give ⟨rfl, rfl, by decide, by decide⟩ (rfl : kd 0 = (5, 0)) (by decide) rfl (Nat.le_of_ble_eq_true rfl) ⟨by show 100 ≤ _; decide, by show 6000 ≤ _; decide⟩ rfl ?_
  refine V.aloadn 2 dL_633 rfl rfl ?_
  refine V.aloadn 0 dL_634 rfl rfl ?_
  refine V.iloadn 3 dL_635 rfl rfl ?_
  refine V.iconst (1 : Int32) dL_636 lc1 rfl ?_
  refine V.iadd dL_637 rfl ?_
  refine V.sld dL_638 h1 rfl ?_
  refine V.aloadn 0 dL_639 rfl rfl ?_
  refine V.iloadn 3 dL_640 rfl rfl ?_
  refine V.iconst (2 : Int32) dL_641 lc2 rfl ?_
  refine V.iadd dL_642 rfl ?_
  refine V.sld dL_643 h2 rfl ?_
  refine V.callvi 44 [.int (xs (ix (i + (1 : Int32)))), .int (xs (ix (i + (2 : Int32))))] dL_644 (kM_give e2) mlL_68 myM_give mnM_give ⟨rfl, rfl, by decide, by decide⟩ (rfl : kd 44 = (6, 0)) (by decide) rfl (Nat.le_of_ble_eq_true rfl) ⟨by show 100 ≤ _; decide, by show 6000 ≤ _; decide⟩ rfl ?_
  refine V.icmpeq 1545 dL_647 rfl rfl (fun _ => kk σ2 hI2) (fun g => absurd rfl g)
theorem lwc_lot {E : Ev} {b L : Nat} {xs : Nat → Int32} {I : St → Prop} {σ : St} {i : Int32} (HS : St_lot I) (hI : I σ) (h1 : ib (i + (1 : Int32)) L = true) (h2 : ib (i + (2 : Int32)) L = true) (h3 : ib (i + (3 : Int32)) L = true) (h4 : ib (i + (4 : Int32)) L = true) (kk : ∀ τ, I τ → V E mL (FLw b L xs E) 1545 [(0, .ref 200), (1, .ref 0), (2, .ref 44), (3, .int i)] [] τ) : V E mL (FLw b L xs E) 652 [(0, .ref 200), (1, .ref 0), (2, .ref 44), (3, .int i)] [] σ := by
  obtain ⟨r, σ1, σ2, e1, e2, hI2⟩ := HS σ (xs (ix (i + (1 : Int32)))) hI
  refine V.aloadn 1 dL_652 rfl rfl ?_
  refine V.aloadn 0 dL_653 rfl rfl ?_
  refine V.iloadn 3 dL_654 rfl rfl ?_
  refine V.iconst (1 : Int32) dL_655 lc1 rfl ?_
  refine V.iadd dL_656 rfl ?_
  refine V.sld dL_657 h1 rfl ?_
  refine V.callvi 0 [.int (xs (ix (i + (1 : Int32))))] dL_658 (kE_lot e1) mlL_69 myE_lot mnE_lot ⟨rfl, rfl, by decide, by decide⟩ (rfl : kd 0 = (5, 0)) (by decide) rfl (Nat.le_of_ble_eq_true rfl) ⟨by show 100 ≤ _; decide, by show 6000 ≤ _; decide⟩ rfl ?_
  refine V.aloadn 2 dL_661 rfl rfl ?_
  refine V.aloadn 0 dL_662 rfl rfl ?_
  refine V.iloadn 3 dL_663 rfl rfl ?_
  refine V.iconst (1 : Int32) dL_664 lc1 rfl ?_
  refine V.iadd dL_665 rfl ?_
  refine V.sld dL_666 h1 rfl ?_
  refine V.callvi 44 [.int (xs (ix (i + (1 : Int32))))] dL_667 (kM_lot e2) mlL_72 myM_lot mnM_lot ⟨rfl, rfl, by decide, by decide⟩ (rfl : kd 44 = (6, 0)) (by decide) rfl (Nat.le_of_ble_eq_true rfl) ⟨by show 100 ≤ _; decide, by show 6000 ≤ _; decide⟩ rfl ?_
  refine V.icmpeq 1545 dL_670 rfl rfl (fun _ => kk σ2 hI2) (fun g => absurd rfl g)
theorem lwc_lots {E : Ev} {b L : Nat} {xs : Nat → Int32} {I : St → Prop} {σ : St} {i : Int32} (HS : St_lots I) (hI : I σ) (h1 : ib (i + (1 : Int32)) L = true) (h2 : ib (i + (2 : Int32)) L = true) (h3 : ib (i + (3 : Int32)) L = true) (h4 : ib (i + (4 : Int32)) L = true) (kk : ∀ τ, I τ → V E mL (FLw b L xs E) 1545 [(0, .ref 200), (1, .ref 0), (2, .ref 44), (3, .int i)] [] τ) : V E mL (FLw b L xs E) 675 [(0, .ref 200), (1, .ref 0), (2, .ref 44), (3, .int i)] [] σ := by
  obtain ⟨r, σ1, σ2, e1, e2, hI2⟩ := HS σ (xs (ix (i + (1 : Int32)))) hI
  refine V.aloadn 1 dL_675 rfl rfl ?_
  refine V.aloadn 0 dL_676 rfl rfl ?_
  refine V.iloadn 3 dL_677 rfl rfl ?_
  refine V.iconst (1 : Int32) dL_678 lc1 rfl ?_
  refine V.iadd dL_679 rfl ?_
  refine V.sld dL_680 h1 rfl ?_
  refine V.callvi 0 [.int (xs (ix (i + (1 : Int32))))] dL_681 (kE_lots e1) mlL_73 myE_lots mnE_lots ⟨rfl, rfl, by decide, by decide⟩ (rfl : kd 0 = (5, 0)) (by decide) rfl (Nat.le_of_ble_eq_true rfl) ⟨by show 100 ≤ _; decide, by show 6000 ≤ _; decide⟩ rfl ?_
  refine V.aloadn 2 dL_684 rfl rfl ?_
  refine V.aloadn 0 dL_685 rfl rfl ?_
  refine V.iloadn 3 dL_686 rfl rfl ?_
  refine V.iconst (1 : Int32) dL_687 lc1 rfl ?_
  refine V.iadd dL_688 rfl ?_
  refine V.sld dL_689 h1 rfl ?_
  refine V.callvi 44 [.int (xs (ix (i + (1 : Int32))))] dL_690 (kM_lots e2) mlL_76 myM_lots mnM_lots ⟨rfl, rfl, by decide, by decide⟩ (rfl : kd 44 = (6, 0)) (by decide) rfl (Nat.le_of_ble_eq_true rfl) ⟨by show 100 ≤ _; decide, by show 6000 ≤ _; decide⟩ rfl ?_
  refine V.icmpeq 1545 dL_693 rfl rfl (fun _ => kk σ2 hI2) (fun g => absurd rfl g)
theorem lwc_melt {E : Ev} {b L : Nat} {xs : Nat → Int32} {I : St → Prop} {σ : St} {i : Int32} (HS : St_melt I) (hI : I σ) (h1 : ib (i + (1 : Int32)) L = true) (h2 : ib (i + (2 : Int32)) L = true) (h3 : ib (i + (3 : Int32)) L = true) (h4 : ib (i + (4 : Int32)) L = true) (kk : ∀ τ, I τ → V E mL (FLw b L xs E) 1545 [(0, .ref 200), (1, .ref 0), (2, .ref 44), (3, .int i)] [] τ) : V E mL (FLw b L xs E) 698 [(0, .ref 200), (1, .ref 0), (2, .ref 44), (3, .int i)] [] σ := by
  obtain ⟨r, σ1, σ2, e1, e2, hI2⟩ := HS σ (xs (ix (i + (1 : Int32)))) hI
  refine V.aloadn 1 dL_698 rfl rfl ?_
  refine V.aloadn 0 dL_699 rfl rfl ?_
  refine V.iloadn 3 dL_700 rfl rfl ?_
  refine V.iconst (1 : Int32) dL_701 lc1 rfl ?_
  refine V.iadd dL_702 rfl ?_
  refine V.sld dL_703 h1 rfl ?_
  refine V.callvi 0 [.int (xs (ix (i + (1 : Int32))))] dL_704 (kE_melt e1) mlL_77 myE_melt mnE_melt ⟨rfl, rfl, by decide, by decide⟩ (rfl : kd 0 = (5, 0)) (by decide) rfl (Nat.le_of_ble_eq_true rfl) ⟨by show 100 ≤ _; decide, by show 6000 ≤ _; decide⟩ rfl ?_
  refine V.aloadn 2 dL_707 rfl rfl ?_
  refine V.aloadn 0 dL_708 rfl rfl ?_
  refine V.iloadn 3 dL_709 rfl rfl ?_
  refine V.iconst (1 : Int32) dL_710 lc1 rfl ?_
  refine V.iadd dL_711 rfl ?_
  refine V.sld dL_712 h1 rfl ?_
  refine V.callvi 44 [.int (xs (ix (i + (1 : Int32))))] dL_713 (kM_melt e2) mlL_80 myM_melt mnM_melt ⟨rfl, rfl, by decide, by decide⟩ (rfl : kd 44 = (6, 0)) (by decide) rfl (Nat.le_of_ble_eq_true rfl) ⟨by show 100 ≤ _; decide, by show 6000 ≤ _; decide⟩ rfl ?_
  refine V.icmpeq 1545 dL_716 rfl rfl (fun _ => kk σ2 hI2) (fun g => absurd rfl g)
theorem lwc_left {E : Ev} {b L : Nat} {xs : Nat → Int32} {I : St → Prop} {σ : St} {i : Int32} (HS : St_left I) (hI : I σ) (h1 : ib (i + (1 : Int32)) L = true) (h2 : ib (i + (2 : Int32)) L = true) (h3 : ib (i + (3 : Int32)) L = true) (h4 : ib (i + (4 : Int32)) L = true) (kk : ∀ τ, I τ → V E mL (FLw b L xs E) 1545 [(0, .ref 200), (1, .ref 0), (2, .ref 44), (3, .int i)] [] τ) : V E mL (FLw b L xs E) 721 [(0, .ref 200), (1, .ref 0), (2, .ref 44), (3, .int i)] [] σ := by
  obtain ⟨r, σ1, σ2, e1, e2, hI2⟩ := HS σ (xs (ix (i + (1 : Int32)))) hI
  refine V.aloadn 1 dL_721 rfl rfl ?_
  refine V.aloadn 0 dL_722 rfl rfl ?_
  refine V.iloadn 3 dL_723 rfl rfl ?_
  refine V.iconst (1 : Int32) dL_724 lc1 rfl ?_
  refine V.iadd dL_725 rfl ?_
  refine V.sld dL_726 h1 rfl ?_
  refine V.callvi 0 [.int (xs (ix (i + (1 : Int32))))] dL_727 (kE_left e1) mlL_81 myE_left mnE_left ⟨rfl, rfl, by decide, by decide⟩ (rfl : kd 0 = (5, 0)) (by decide) rfl (Nat.le_of_ble_eq_true rfl) ⟨by show 100 ≤ _; decide, by show 6000 ≤ _; decide⟩ rfl ?_
  refine V.aloadn 2 dL_730 rfl rfl ?_
  refine V.aloadn 0 dL_731 rfl rfl ?_
  refine V.iloadn 3 dL_732 rfl rfl ?_
  refine V.iconst (1 : Int32) dL_733 lc1 rfl ?_
  refine V.iadd dL_734 rfl ?_
  refine V.sld dL_735 h1 rfl ?_
  refine V.callvi 44 [.int (xs (ix (i + (1 : Int32))))] dL_736 (kM_left e2) mlL_84 myM_left mnM_left ⟨rfl, rfl, by decide, by decide⟩ (rfl : kd 44 = (6, 0)) (by decide) rfl (Nat.le_of_ble_eq_true rfl) ⟨by show 100 ≤ _; decide, by show 6000 ≤ _; decide⟩ rfl ?_
  refine V.icmpeq 1545 dL_739 rfl rfl (fun _ => kk σ2 hI2) (fun g => absurd rfl g)
theorem lwc_row {E : Ev} {b L : Nat} {xs : Nat → Int32} {I : St → Prop} {σ : St} {i : Int32} (HS : St_row I) (hI : I σ) (h1 : ib (i + (1 : Int32)) L = true) (h2 : ib (i + (2 : Int32)) L = true) (h3 : ib (i + (3 : Int32)) L = true) (h4 : ib (i + (4 : Int32)) L = true) (kk : ∀ τ, I τ → V E mL (FLw b L xs E) 1545 [(0, .ref 200), (1, .ref 0), (2, .ref 44), (3, .int i)] [] τ) : V E mL (FLw b L xs E) 744 [(0, .ref 200), (1, .ref 0), (2, .ref 44), (3, .int i)] [] σ := by
  obtain ⟨r, σ1, σ2, e1, e2, hI2⟩ := HS σ (xs (ix (i + (1 : Int32)))) (xs (ix (i + (2 : Int32)))) hI
  refine V.aloadn 1 dL_744 rfl rfl ?_
  refine V.aloadn 0 dL_745 rfl rfl ?_
  refine V.iloadn 3 dL_746 rfl rfl ?_
  refine V.iconst (1 : Int32) dL_747 lc1 rfl ?_
  refine V.iadd dL_748 rfl ?_
  refine V.sld dL_749 h1 rfl ?_
  refine V.aloadn 0 dL_750 rfl rfl ?_
  refine V.iloadn 3 dL_751 rfl rfl ?_
  refine V.iconst (2 : Int32) dL_752 lc2 rfl ?_
  refine V.iadd dL_753 rfl ?_
  refine V.sld dL_754 h2 rfl ?_
  refine V.callvi 0 [.int (xs (ix (i + (1 : Int32)))), .int (xs (ix (i + (2 : Int32))))] dL_755 (kE_row e1) mlL_85 myE_row mnE_row ⟨rfl, rfl, by decide, by decide⟩ (rfl : kd 0 = (5, 0)) (by decide) rfl (Nat.le_of_ble_eq_true rfl) ⟨by show 100 ≤ _; decide, by show 6000 ≤ _; decide⟩ rfl ?_
  refine V.aloadn 2 dL_758 rfl rfl ?_
  refine V.aloadn 0 dL_759 rfl rfl ?_
  refine V.iloadn 3 dL_760 rfl rfl ?_
  refine V.iconst (1 : Int32) dL_761 lc1 rfl ?_
  refine V.iadd dL_762 rfl ?_
  refine V.sld dL_763 h1 rfl ?_
  refine V.aloadn 0 dL_764 rfl rfl ?_
  refine V.iloadn 3 dL_765 rfl rfl ?_
  refine V.iconst (2 : Int32) dL_766 lc2 rfl ?_
  refine V.iadd dL_767 rfl ?_
  refine V.sld dL_768 h2 rfl ?_
  refine V.callvi 44 [.int (xs (ix (i + (1 : Int32)))), .int (xs (ix (i + (2 : Int32))))] dL_769 (kM_row e2) mlL_88 myM_row mnM_row ⟨rfl, rfl, by decide, by decide⟩ (rfl : kd 44 = (6, 0)) (by decide) rfl (Nat.le_of_ble_eq_true rfl) ⟨by show 100 ≤ _; decide, by show 6000 ≤ _; decide⟩ rfl ?_
  refine V.icmpeq 1545 dL_772 rfl rfl (fun _ => kk σ2 hI2) (fun g => absurd rfl g)
theorem lwc_through {E : Ev} {b L : Nat} {xs : Nat → Int32} {I : St → Prop} {σ : St} {i : Int32} (HS : St_through I) (hI : I σ) (h1 : ib (i + (1 : Int32)) L = true) (h2 : ib (i + (2 : Int32)) L = true) (h3 : ib (i + (3 : Int32)) L = true) (h4 : ib (i + (4 : Int32)) L = true) (kk : ∀ τ, I τ → V E mL (FLw b L xs E) 1545 [(0, .ref 200), (1, .ref 0), (2, .ref 44), (3, .int i)] [] τ) : V E mL (FLw b L xs E) 777 [(0, .ref 200), (1, .ref 0), (2, .ref 44), (3, .int i)] [] σ := by
  obtain ⟨r, σ1, σ2, e1, e2, hI2⟩ := HS σ (xs (ix (i + (1 : Int32)))) hI
  refine V.aloadn 1 dL_777 rfl rfl ?_
  refine V.aloadn 0 dL_778 rfl rfl ?_
  refine V.iloadn 3 dL_779 rfl rfl ?_
  refine V.iconst (1 : Int32) dL_780 lc1 rfl ?_
  refine V.iadd dL_781 rfl ?_
  refine V.sld dL_782 h1 rfl ?_
  refine V.callvi 0 [.int (xs (ix (i + (1 : Int32))))] dL_783 (kE_through e1) mlL_89 myE_through mnE_through ⟨rfl, rfl, by decide, by decide⟩ (rfl : kd 0 = (5, 0)) (by decide) rfl (Nat.le_of_ble_eq_true rfl) ⟨by show 100 ≤ _; decide, by show 6000 ≤ _; decide⟩ rfl ?_
  refine V.aloadn 2 dL_786 rfl rfl ?_
  refine V.aloadn 0 dL_787 rfl rfl ?_
  refine V.iloadn 3 dL_788 rfl rfl ?_
  refine V.iconst (1 : Int32) dL_789 lc1 rfl ?_
  refine V.iadd dL_790 rfl ?_
  refine V.sld dL_791 h1 rfl ?_
  refine V.callvi 44 [.int (xs (ix (i + (1 : Int32))))] dL_792 (kM_through e2) mlL_92 myM_through mnM_through ⟨rfl, rfl, by decide, by decide⟩ (rfl : kd 44 = (6, 0)) (by decide) rfl (Nat.le_of_ble_eq_true rfl) ⟨by show 100 ≤ _; decide, by show 6000 ≤ _; decide⟩ rfl ?_
  refine V.icmpeq 1545 dL_795 rfl rfl (fun _ => kk σ2 hI2) (fun g => absurd rfl g)
theorem lwc_ways {E : Ev} {b L : Nat} {xs : Nat → Int32} {I : St → Prop} {σ : St} {i : Int32} (HS : St_ways I) (hI : I σ) (h1 : ib (i + (1 : Int32)) L = true) (h2 : ib (i + (2 : Int32)) L = true) (h3 : ib (i + (3 : Int32)) L = true) (h4 : ib (i + (4 : Int32)) L = true) (kk : ∀ τ, I τ → V E mL (FLw b L xs E) 1545 [(0, .ref 200), (1, .ref 0), (2, .ref 44), (3, .int i)] [] τ) : V E mL (FLw b L xs E) 800 [(0, .ref 200), (1, .ref 0), (2, .ref 44), (3, .int i)] [] σ := by
  obtain ⟨r, σ1, σ2, e1, e2, hI2⟩ := HS σ (xs (ix (i + (1 : Int32)))) hI
  refine V.aloadn 1 dL_800 rfl rfl ?_
  refine V.aloadn 0 dL_801 rfl rfl ?_
  refine V.iloadn 3 dL_802 rfl rfl ?_
  refine V.iconst (1 : Int32) dL_803 lc1 rfl ?_
  refine V.iadd dL_804 rfl ?_
  refine V.sld dL_805 h1 rfl ?_
  refine V.callvi 0 [.int (xs (ix (i + (1 : Int32))))] dL_806 (kE_ways e1) mlL_93 myE_ways mnE_ways ⟨rfl, rfl, by decide, by decide⟩ (rfl : kd 0 = (5, 0)) (by decide) rfl (Nat.le_of_ble_eq_true rfl) ⟨by show 100 ≤ _; decide, by show 6000 ≤ _; decide⟩ rfl ?_
  refine V.aloadn 2 dL_809 rfl rfl ?_
  refine V.aloadn 0 dL_810 rfl rfl ?_
  refine V.iloadn 3 dL_811 rfl rfl ?_
  refine V.iconst (1 : Int32) dL_812 lc1 rfl ?_
  refine V.iadd dL_813 rfl ?_
  refine V.sld dL_814 h1 rfl ?_
  refine V.callvi 44 [.int (xs (ix (i + (1 : Int32))))] dL_815 (kM_ways e2) mlL_96 myM_ways mnM_ways ⟨rfl, rfl, by decide, by decide⟩ (rfl : kd 44 = (6, 0)) (by decide) rfl (Nat.le_of_ble_eq_true rfl) ⟨by show 100 ≤ _; decide, by show 6000 ≤ _; decide⟩ rfl ?_
  refine V.icmpeq 1545 dL_818 rfl rfl (fun _ => kk σ2 hI2) (fun g => absurd rfl g)
theorem lwc_last {E : Ev} {b L : Nat} {xs : Nat → Int32} {I : St → Prop} {σ : St} {i : Int32} (HS : St_last I) (hI : I σ) (h1 : ib (i + (1 : Int32)) L = true) (h2 : ib (i + (2 : Int32)) L = true) (h3 : ib (i + (3 : Int32)) L = true) (h4 : ib (i + (4 : Int32)) L = true) (kk : ∀ τ, I τ → V E mL (FLw b L xs E) 1545 [(0, .ref 200), (1, .ref 0), (2, .ref 44), (3, .int i)] [] τ) : V E mL (FLw b L xs E) 823 [(0, .ref 200), (1, .ref 0), (2, .ref 44), (3, .int i)] [] σ := by
  obtain ⟨r, σ1, σ2, e1, e2, hI2⟩ := HS σ (xs (ix (i + (1 : Int32)))) hI
  refine V.aloadn 1 dL_823 rfl rfl ?_
  refine V.aloadn 0 dL_824 rfl rfl ?_
  refine V.iloadn 3 dL_825 rfl rfl ?_
  refine V.iconst (1 : Int32) dL_826 lc1 rfl ?_
  refine V.iadd dL_827 rfl ?_
  refine V.sld dL_828 h1 rfl ?_
  refine V.callvi 0 [.int (xs (ix (i + (1 : Int32))))] dL_829 (kE_last e1) mlL_97 myE_last mnE_last ⟨rfl, rfl, by decide, by decide⟩ (rfl : kd 0 = (5, 0)) (by decide) rfl (Nat.le_of_ble_eq_true rfl) ⟨by show 100 ≤ _; decide, by show 6000 ≤ _; decide⟩ rfl ?_
  refine V.aloadn 2 dL_832 rfl rfl ?_
  refine V.aloadn 0 dL_833 rfl rfl ?_
  refine V.iloadn 3 dL_834 rfl rfl ?_
  refine V.iconst (1 : Int32) dL_835 lc1 rfl ?_
  refine V.iadd dL_836 rfl ?_
  refine V.sld dL_837 h1 rfl ?_
  refine V.callvi 44 [.int (xs (ix (i + (1 : Int32))))] dL_838 (kM_last e2) mlL_100 myM_last mnM_last ⟨rfl, rfl, by decide, by decide⟩ (rfl : kd 44 = (6, 0)) (by decide) rfl (Nat.le_of_ble_eq_true rfl) ⟨by show 100 ≤ _; decide, by show 6000 ≤ _; decide⟩ rfl ?_
  refine V.icmpeq 1545 dL_841 rfl rfl (fun _ => kk σ2 hI2) (fun g => absurd rfl g)
theorem lwc_stuck {E : Ev} {b L : Nat} {xs : Nat → Int32} {I : St → Prop} {σ : St} {i : Int32} (HS : St_stuck I) (hI : I σ) (h1 : ib (i + (1 : Int32)) L = true) (h2 : ib (i + (2 : Int32)) L = true) (h3 : ib (i + (3 : Int32)) L = true) (h4 : ib (i + (4 : Int32)) L = true) (kk : ∀ τ, I τ → V E mL (FLw b L xs E) 1545 [(0, .ref 200), (1, .ref 0), (2, .ref 44), (3, .int i)] [] τ) : V E mL (FLw b L xs E) 846 [(0, .ref 200), (1, .ref 0), (2, .ref 44), (3, .int i)] [] σ := by
  obtain ⟨r, σ1, σ2, e1, e2, hI2⟩ := HS σ hI
  obtain ⟨e1, rfl⟩ := e1
  obtain ⟨e2, rfl⟩ := e2
  refine V.aloadn 1 dL_846 rfl rfl ?_
  refine V.callvi 0 [] dL_847 (kE_stuck e1) mlL_101 myE_stuck mnE_stuck ⟨rfl, rfl, by decide, by decide⟩ (rfl : kd 0 = (5, 0)) (by decide) rfl (Nat.le_of_ble_eq_true rfl) ⟨by show 100 ≤ _; decide, by show 6000 ≤ _; decide⟩ rfl ?_
  refine V.aloadn 2 dL_850 rfl rfl ?_
  refine V.callvi 44 [] dL_851 (kM_stuck e2) mlL_104 myM_stuck mnM_stuck ⟨rfl, rfl, by decide, by decide⟩ (rfl : kd 44 = (6, 0)) (by decide) rfl (Nat.le_of_ble_eq_true rfl) ⟨by show 100 ≤ _; decide, by show 6000 ≤ _; decide⟩ rfl ?_
  refine V.icmpeq 1545 dL_854 rfl rfl (fun _ => kk σ2 hI2) (fun g => absurd rfl g)
theorem lwc_best {E : Ev} {b L : Nat} {xs : Nat → Int32} {I : St → Prop} {σ : St} {i : Int32} (HS : St_best I) (hI : I σ) (h1 : ib (i + (1 : Int32)) L = true) (h2 : ib (i + (2 : Int32)) L = true) (h3 : ib (i + (3 : Int32)) L = true) (h4 : ib (i + (4 : Int32)) L = true) (kk : ∀ τ, I τ → V E mL (FLw b L xs E) 1545 [(0, .ref 200), (1, .ref 0), (2, .ref 44), (3, .int i)] [] τ) : V E mL (FLw b L xs E) 859 [(0, .ref 200), (1, .ref 0), (2, .ref 44), (3, .int i)] [] σ := by
  obtain ⟨r, σ1, σ2, e1, e2, hI2⟩ := HS σ (xs (ix (i + (1 : Int32)))) (xs (ix (i + (2 : Int32)))) hI
  refine V.aloadn 1 dL_859 rfl rfl ?_
  refine V.aloadn 0 dL_860 rfl rfl ?_
  refine V.iloadn 3 dL_861 rfl rfl ?_
  refine V.iconst (1 : Int32) dL_862 lc1 rfl ?_
  refine V.iadd dL_863 rfl ?_
  refine V.sld dL_864 h1 rfl ?_
  refine V.aloadn 0 dL_865 rfl rfl ?_
  refine V.iloadn 3 dL_866 rfl rfl ?_
  refine V.iconst (2 : Int32) dL_867 lc2 rfl ?_
  refine V.iadd dL_868 rfl ?_
  refine V.sld dL_869 h2 rfl ?_
  refine V.callvi 0 [.int (xs (ix (i + (1 : Int32)))), .int (xs (ix (i + (2 : Int32))))] dL_870 (kE_best e1) mlL_105 myE_best mnE_best ⟨rfl, rfl, by decide, by decide⟩ (rfl : kd 0 = (5, 0)) (by decide) rfl (Nat.le_of_ble_eq_true rfl) ⟨by show 100 ≤ _; decide, by show 6000 ≤ _; decide⟩ rfl ?_
  refine V.aloadn 2 dL_873 rfl rfl ?_
  refine V.aloadn 0 dL_874 rfl rfl ?_
  refine V.iloadn 3 dL_875 rfl rfl ?_
  refine V.iconst (1 : Int32) dL_876 lc1 rfl ?_
  refine V.iadd dL_877 rfl ?_
  refine V.sld dL_878 h1 rfl ?_
  refine V.aloadn 0 dL_879 rfl rfl ?_
  refine V.iloadn 3 dL_880 rfl rfl ?_
  refine V.iconst (2 : Int32) dL_881 lc2 rfl ?_
  refine V.iadd dL_882 rfl ?_
  refine V.sld dL_883 h2 rfl ?_
  refine V.callvi 44 [.int (xs (ix (i + (1 : Int32)))), .int (xs (ix (i + (2 : Int32))))] dL_884 (kM_best e2) mlL_108 myM_best mnM_best ⟨rfl, rfl, by decide, by decide⟩ (rfl : kd 44 = (6, 0)) (by decide) rfl (Nat.le_of_ble_eq_true rfl) ⟨by show 100 ≤ _; decide, by show 6000 ≤ _; decide⟩ rfl ?_
  refine V.icmpeq 1545 dL_887 rfl rfl (fun _ => kk σ2 hI2) (fun g => absurd rfl g)
theorem lwc_paid {E : Ev} {b L : Nat} {xs : Nat → Int32} {I : St → Prop} {σ : St} {i : Int32} (HS : St_paid I) (hI : I σ) (h1 : ib (i + (1 : Int32)) L = true) (h2 : ib (i + (2 : Int32)) L = true) (h3 : ib (i + (3 : Int32)) L = true) (h4 : ib (i + (4 : Int32)) L = true) (kk : ∀ τ, I τ → V E mL (FLw b L xs E) 1545 [(0, .ref 200), (1, .ref 0), (2, .ref 44), (3, .int i)] [] τ) : V E mL (FLw b L xs E) 892 [(0, .ref 200), (1, .ref 0), (2, .ref 44), (3, .int i)] [] σ := by
  obtain ⟨r, σ1, σ2, e1, e2, hI2⟩ := HS σ (xs (ix (i + (1 : Int32)))) (xs (ix (i + (2 : Int32)))) (xs (ix (i + (3 : Int32)))) hI
  obtain ⟨e1, rfl⟩ := e1
  obtain ⟨e2, rfl⟩ := e2
  refine V.aloadn 1 dL_892 rfl rfl ?_
  refine V.aloadn 0 dL_893 rfl rfl ?_
  refine V.iloadn 3 dL_894 rfl rfl ?_
  refine V.iconst (1 : Int32) dL_895 lc1 rfl ?_
  refine V.iadd dL_896 rfl ?_
  refine V.sld dL_897 h1 rfl ?_
  refine V.aloadn 0 dL_898 rfl rfl ?_
  refine V.iloadn 3 dL_899 rfl rfl ?_
  refine V.iconst (2 : Int32) dL_900 lc2 rfl ?_
  refine V.iadd dL_901 rfl ?_
  refine V.sld dL_902 h2 rfl ?_
  refine V.aloadn 0 dL_903 rfl rfl ?_
  refine V.iloadn 3 dL_904 rfl rfl ?_
  refine V.iconst (3 : Int32) dL_905 lc3 rfl ?_
  refine V.iadd dL_906 rfl ?_
  refine V.sld dL_907 h3 rfl ?_
  refine V.callvi 0 [.int (xs (ix (i + (1 : Int32)))), .int (xs (ix (i + (2 : Int32)))), .int (xs (ix (i + (3 : Int32))))] dL_908 (kE_paid e1) mlL_109 myE_paid mnE_paid ⟨rfl, rfl, by decide, by decide⟩ (rfl : kd 0 = (5, 0)) (by decide) rfl (Nat.le_of_ble_eq_true rfl) ⟨by show 100 ≤ _; decide, by show 6000 ≤ _; decide⟩ rfl ?_
  refine V.aloadn 2 dL_911 rfl rfl ?_
  refine V.aloadn 0 dL_912 rfl rfl ?_
  refine V.iloadn 3 dL_913 rfl rfl ?_
  refine V.iconst (1 : Int32) dL_914 lc1 rfl ?_
  refine V.iadd dL_915 rfl ?_
  refine V.sld dL_916 h1 rfl ?_
  refine V.aloadn 0 dL_917 rfl rfl ?_
  refine V.iloadn 3 dL_918 rfl rfl ?_
  refine V.iconst (2 : Int32) dL_919 lc2 rfl ?_
  refine V.iadd dL_920 rfl ?_
  refine V.sld dL_921 h2 rfl ?_
  refine V.aloadn 0 dL_922 rfl rfl ?_
  refine V.iloadn 3 dL_923 rfl rfl ?_
  refine V.iconst (3 : Int32) dL_924 lc3 rfl ?_
  refine V.iadd dL_925 rfl ?_
  refine V.sld dL_926 h3 rfl ?_
  refine V.callvi 44 [.int (xs (ix (i + (1 : Int32)))), .int (xs (ix (i + (2 : Int32)))), .int (xs (ix (i + (3 : Int32))))] dL_927 (kM_paid e2) mlL_112 myM_paid mnM_paid ⟨rfl, rfl, by decide, by decide⟩ (rfl : kd 44 = (6, 0)) (by decide) rfl (Nat.le_of_ble_eq_true rfl) ⟨by show 100 ≤ _; decide, by show 6000 ≤ _; decide⟩ rfl ?_
  refine V.icmpeq 1545 dL_930 rfl rfl (fun _ => kk σ2 hI2) (fun g => absurd rfl g)
theorem lwc_friend {E : Ev} {b L : Nat} {xs : Nat → Int32} {I : St → Prop} {σ : St} {i : Int32} (HS : St_friend I) (hI : I σ) (h1 : ib (i + (1 : Int32)) L = true) (h2 : ib (i + (2 : Int32)) L = true) (h3 : ib (i + (3 : Int32)) L = true) (h4 : ib (i + (4 : Int32)) L = true) (kk : ∀ τ, I τ → V E mL (FLw b L xs E) 1545 [(0, .ref 200), (1, .ref 0), (2, .ref 44), (3, .int i)] [] τ) : V E mL (FLw b L xs E) 935 [(0, .ref 200), (1, .ref 0), (2, .ref 44), (3, .int i)] [] σ := by
  obtain ⟨r, σ1, σ2, e1, e2, hI2⟩ := HS σ (xs (ix (i + (1 : Int32)))) hI
  refine V.aloadn 1 dL_935 rfl rfl ?_
  refine V.aloadn 0 dL_936 rfl rfl ?_
  refine V.iloadn 3 dL_937 rfl rfl ?_
  refine V.iconst (1 : Int32) dL_938 lc1 rfl ?_
  refine V.iadd dL_939 rfl ?_
  refine V.sld dL_940 h1 rfl ?_
  refine V.callvi 0 [.int (xs (ix (i + (1 : Int32))))] dL_941 (kE_friend e1) mlL_113 myE_friend mnE_friend ⟨rfl, rfl, by decide, by decide⟩ (rfl : kd 0 = (5, 0)) (by decide) rfl (Nat.le_of_ble_eq_true rfl) ⟨by show 100 ≤ _; decide, by show 6000 ≤ _; decide⟩ rfl ?_
  refine V.aloadn 2 dL_944 rfl rfl ?_
  refine V.aloadn 0 dL_945 rfl rfl ?_
  refine V.iloadn 3 dL_946 rfl rfl ?_
  refine V.iconst (1 : Int32) dL_947 lc1 rfl ?_
  refine V.iadd dL_948 rfl ?_
  refine V.sld dL_949 h1 rfl ?_
  refine V.callvi 44 [.int (xs (ix (i + (1 : Int32))))] dL_950 (kM_friend e2) mlL_116 myM_friend mnM_friend ⟨rfl, rfl, by decide, by decide⟩ (rfl : kd 44 = (6, 0)) (by decide) rfl (Nat.le_of_ble_eq_true rfl) ⟨by show 100 ≤ _; decide, by show 6000 ≤ _; decide⟩ rfl ?_
  refine V.icmpeq 1545 dL_953 rfl rfl (fun _ => kk σ2 hI2) (fun g => absurd rfl g)
theorem lwc_heir {E : Ev} {b L : Nat} {xs : Nat → Int32} {I : St → Prop} {σ : St} {i : Int32} (HS : St_heir I) (hI : I σ) (h1 : ib (i + (1 : Int32)) L = true) (h2 : ib (i + (2 : Int32)) L = true) (h3 : ib (i + (3 : Int32)) L = true) (h4 : ib (i + (4 : Int32)) L = true) (kk : ∀ τ, I τ → V E mL (FLw b L xs E) 1545 [(0, .ref 200), (1, .ref 0), (2, .ref 44), (3, .int i)] [] τ) : V E mL (FLw b L xs E) 958 [(0, .ref 200), (1, .ref 0), (2, .ref 44), (3, .int i)] [] σ := by
  obtain ⟨r, σ1, σ2, e1, e2, hI2⟩ := HS σ (xs (ix (i + (1 : Int32)))) (xs (ix (i + (2 : Int32)))) hI
  obtain ⟨e1, rfl⟩ := e1
  obtain ⟨e2, rfl⟩ := e2
  refine V.aloadn 1 dL_958 rfl rfl ?_
  refine V.aloadn 0 dL_959 rfl rfl ?_
  refine V.iloadn 3 dL_960 rfl rfl ?_
  refine V.iconst (1 : Int32) dL_961 lc1 rfl ?_
  refine V.iadd dL_962 rfl ?_
  refine V.sld dL_963 h1 rfl ?_
  refine V.aloadn 0 dL_964 rfl rfl ?_
  refine V.iloadn 3 dL_965 rfl rfl ?_
  refine V.iconst (2 : Int32) dL_966 lc2 rfl ?_
  refine V.iadd dL_967 rfl ?_
  refine V.sld dL_968 h2 rfl ?_
  refine V.callvi 0 [.int (xs (ix (i + (1 : Int32)))), .int (xs (ix (i + (2 : Int32))))] dL_969 (kE_heir e1) mlL_117 myE_heir mnE_heir ⟨rfl, rfl, by decide, by decide⟩ (rfl : kd 0 = (5, 0)) (by decide) rfl (Nat.le_of_ble_eq_true rfl) ⟨by show 100 ≤ _; decide, by show 6000 ≤ _; decide⟩ rfl ?_
  refine V.aloadn 2 dL_972 rfl rfl ?_
  refine V.aloadn 0 dL_973 rfl rfl ?_
  refine V.iloadn 3 dL_974 rfl rfl ?_
  refine V.iconst (1 : Int32) dL_975 lc1 rfl ?_
  refine V.iadd dL_976 rfl ?_
  refine V.sld dL_977 h1 rfl ?_
  refine V.aloadn 0 dL_978 rfl rfl ?_
  refine V.iloadn 3 dL_979 rfl rfl ?_
  refine V.iconst (2 : Int32) dL_980 lc2 rfl ?_
  refine V.iadd dL_981 rfl ?_
  refine V.sld dL_982 h2 rfl ?_
  refine V.callvi 44 [.int (xs (ix (i + (1 : Int32)))), .int (xs (ix (i + (2 : Int32))))] dL_983 (kM_heir e2) mlL_120 myM_heir mnM_heir ⟨rfl, rfl, by decide, by decide⟩ (rfl : kd 44 = (6, 0)) (by decide) rfl (Nat.le_of_ble_eq_true rfl) ⟨by show 100 ≤ _; decide, by show 6000 ≤ _; decide⟩ rfl ?_
  refine V.icmpeq 1545 dL_986 rfl rfl (fun _ => kk σ2 hI2) (fun g => absurd rfl g)
theorem lwc_least {E : Ev} {b L : Nat} {xs : Nat → Int32} {I : St → Prop} {σ : St} {i : Int32} (HS : St_least I) (hI : I σ) (h1 : ib (i + (1 : Int32)) L = true) (h2 : ib (i + (2 : Int32)) L = true) (h3 : ib (i + (3 : Int32)) L = true) (h4 : ib (i + (4 : Int32)) L = true) (kk : ∀ τ, I τ → V E mL (FLw b L xs E) 1545 [(0, .ref 200), (1, .ref 0), (2, .ref 44), (3, .int i)] [] τ) : V E mL (FLw b L xs E) 991 [(0, .ref 200), (1, .ref 0), (2, .ref 44), (3, .int i)] [] σ := by
  obtain ⟨r, σ1, σ2, e1, e2, hI2⟩ := HS σ hI
  refine V.aloadn 1 dL_991 rfl rfl ?_
  refine V.callvi 0 [] dL_992 (kE_least e1) mlL_121 myE_least mnE_least ⟨rfl, rfl, by decide, by decide⟩ (rfl : kd 0 = (5, 0)) (by decide) rfl (Nat.le_of_ble_eq_true rfl) ⟨by show 100 ≤ _; decide, by show 6000 ≤ _; decide⟩ rfl ?_
  refine V.aloadn 2 dL_995 rfl rfl ?_
  refine V.callvi 44 [] dL_996 (kM_least e2) mlL_124 myM_least mnM_least ⟨rfl, rfl, by decide, by decide⟩ (rfl : kd 44 = (6, 0)) (by decide) rfl (Nat.le_of_ble_eq_true rfl) ⟨by show 100 ≤ _; decide, by show 6000 ≤ _; decide⟩ rfl ?_
  refine V.icmpeq 1545 dL_999 rfl rfl (fun _ => kk σ2 hI2) (fun g => absurd rfl g)
theorem lwc_all {E : Ev} {b L : Nat} {xs : Nat → Int32} {I : St → Prop} {σ : St} {i : Int32} (HS : St_all I) (hI : I σ) (h1 : ib (i + (1 : Int32)) L = true) (h2 : ib (i + (2 : Int32)) L = true) (h3 : ib (i + (3 : Int32)) L = true) (h4 : ib (i + (4 : Int32)) L = true) (kk : ∀ τ, I τ → V E mL (FLw b L xs E) 1545 [(0, .ref 200), (1, .ref 0), (2, .ref 44), (3, .int i)] [] τ) : V E mL (FLw b L xs E) 1004 [(0, .ref 200), (1, .ref 0), (2, .ref 44), (3, .int i)] [] σ := by
  obtain ⟨r, σ1, σ2, e1, e2, hI2⟩ := HS σ (xs (ix (i + (1 : Int32)))) hI
  refine V.aloadn 1 dL_1004 rfl rfl ?_
  refine V.aloadn 0 dL_1005 rfl rfl ?_
  refine V.iloadn 3 dL_1006 rfl rfl ?_
  refine V.iconst (1 : Int32) dL_1007 lc1 rfl ?_
  refine V.iadd dL_1008 rfl ?_
  refine V.sld dL_1009 h1 rfl ?_
  refine V.callvi 0 [.int (xs (ix (i + (1 : Int32))))] dL_1010 (kE_all e1) mlL_125 myE_all mnE_all ⟨rfl, rfl, by decide, by decide⟩ (rfl : kd 0 = (5, 0)) (by decide) rfl (Nat.le_of_ble_eq_true rfl) ⟨by show 100 ≤ _; decide, by show 6000 ≤ _; decide⟩ rfl ?_
  refine V.aloadn 2 dL_1013 rfl rfl ?_
  refine V.aloadn 0 dL_1014 rfl rfl ?_
  refine V.iloadn 3 dL_1015 rfl rfl ?_
  refine V.iconst (1 : Int32) dL_1016 lc1 rfl ?_
  refine V.iadd dL_1017 rfl ?_
  refine V.sld dL_1018 h1 rfl ?_
  refine V.callvi 44 [.int (xs (ix (i + (1 : Int32))))] dL_1019 (kM_all e2) mlL_128 myM_all mnM_all ⟨rfl, rfl, by decide, by decide⟩ (rfl : kd 44 = (6, 0)) (by decide) rfl (Nat.le_of_ble_eq_true rfl) ⟨by show 100 ≤ _; decide, by show 6000 ≤ _; decide⟩ rfl ?_
  refine V.icmpeq 1545 dL_1022 rfl rfl (fun _ => kk σ2 hI2) (fun g => absurd rfl g)
theorem lwc_seed {E : Ev} {b L : Nat} {xs : Nat → Int32} {I : St → Prop} {σ : St} {i : Int32} (HS : St_seed I) (hI : I σ) (h1 : ib (i + (1 : Int32)) L = true) (h2 : ib (i + (2 : Int32)) L = true) (h3 : ib (i + (3 : Int32)) L = true) (h4 : ib (i + (4 : Int32)) L = true) (kk : ∀ τ, I τ → V E mL (FLw b L xs E) 1545 [(0, .ref 200), (1, .ref 0), (2, .ref 44), (3, .int i)] [] τ) : V E mL (FLw b L xs E) 1027 [(0, .ref 200), (1, .ref 0), (2, .ref 44), (3, .int i)] [] σ := by
  obtain ⟨r, σ1, σ2, e1, e2, hI2⟩ := HS σ (xs (ix (i + (1 : Int32)))) hI
  refine V.aloadn 1 dL_1027 rfl rfl ?_
  refine V.aloadn 0 dL_1028 rfl rfl ?_
  refine V.iloadn 3 dL_1029 rfl rfl ?_
  refine V.iconst (1 : Int32) dL_1030 lc1 rfl ?_
  refine V.iadd dL_1031 rfl ?_
  refine V.sld dL_1032 h1 rfl ?_
  refine V.callvi 0 [.int (xs (ix (i + (1 : Int32))))] dL_1033 (kE_seed e1) mlL_129 myE_seed mnE_seed ⟨rfl, rfl, by decide, by decide⟩ (rfl : kd 0 = (5, 0)) (by decide) rfl (Nat.le_of_ble_eq_true rfl) ⟨by show 100 ≤ _; decide, by show 6000 ≤ _; decide⟩ rfl ?_
  refine V.aloadn 2 dL_1036 rfl rfl ?_
  refine V.aloadn 0 dL_1037 rfl rfl ?_
  refine V.iloadn 3 dL_1038 rfl rfl ?_
  refine V.iconst (1 : Int32) dL_1039 lc1 rfl ?_
  refine V.iadd dL_1040 rfl ?_
  refine V.sld dL_1041 h1 rfl ?_
  refine V.callvi 44 [.int (xs (ix (i + (1 : Int32))))] dL_1042 (kM_seed e2) mlL_132 myM_seed mnM_seed ⟨rfl, rfl, by decide, by decide⟩ (rfl : kd 44 = (6, 0)) (by decide) rfl (Nat.le_of_ble_eq_true rfl) ⟨by show 100 ≤ _; decide, by show 6000 ≤ _; decide⟩ rfl ?_
  refine V.icmpeq 1545 dL_1045 rfl rfl (fun _ => kk σ2 hI2) (fun g => absurd rfl g)
theorem lwc_prove {E : Ev} {b L : Nat} {xs : Nat → Int32} {I : St → Prop} {σ : St} {i : Int32} (HS : St_prove I) (hI : I σ) (h1 : ib (i + (1 : Int32)) L = true) (h2 : ib (i + (2 : Int32)) L = true) (h3 : ib (i + (3 : Int32)) L = true) (h4 : ib (i + (4 : Int32)) L = true) (kk : ∀ τ, I τ → V E mL (FLw b L xs E) 1545 [(0, .ref 200), (1, .ref 0), (2, .ref 44), (3, .int i)] [] τ) : V E mL (FLw b L xs E) 1050 [(0, .ref 200), (1, .ref 0), (2, .ref 44), (3, .int i)] [] σ := by
  obtain ⟨r, σ1, σ2, e1, e2, hI2⟩ := HS σ (xs (ix (i + (1 : Int32)))) hI
  refine V.aloadn 1 dL_1050 rfl rfl ?_
  refine V.aloadn 0 dL_1051 rfl rfl ?_
  refine V.iloadn 3 dL_1052 rfl rfl ?_
  refine V.iconst (1 : Int32) dL_1053 lc1 rfl ?_
  refine V.iadd dL_1054 rfl ?_
  refine V.sld dL_1055 h1 rfl ?_
  refine V.callvi 0 [.int (xs (ix (i + (1 : Int32))))] dL_1056 (kE_prove e1) mlL_133 myE_prove mnE_prove ⟨rfl, rfl, by decide, by decide⟩ (rfl : kd 0 = (5, 0)) (by decide) rfl (Nat.le_of_ble_eq_true rfl) ⟨by show 100 ≤ _; decide, by show 6000 ≤ _; decide⟩ rfl ?_
  refine V.aloadn 2 dL_1059 rfl rfl ?_
  refine V.aloadn 0 dL_1060 rfl rfl ?_
  refine V.iloadn 3 dL_1061 rfl rfl ?_
  refine V.iconst (1 : Int32) dL_1062 lc1 rfl ?_
  refine V.iadd dL_1063 rfl ?_
  refine V.sld dL_1064 h1 rfl ?_
  refine V.callvi 44 [.int (xs (ix (i + (1 : Int32))))] dL_1065 (kM_prove e2) mlL_136 myM_prove mnM_prove ⟨rfl, rfl, by decide, by decide⟩ (rfl : kd 44 = (6, 0)) (by decide) rfl (Nat.le_of_ble_eq_true rfl) ⟨by show 100 ≤ _; decide, by show 6000 ≤ _; decide⟩ rfl ?_
  refine V.icmpeq 1545 dL_1068 rfl rfl (fun _ => kk σ2 hI2) (fun g => absurd rfl g)
theorem lwc_rowOf {E : Ev} {b L : Nat} {xs : Nat → Int32} {I : St → Prop} {σ : St} {i : Int32} (HS : St_rowOf I) (hI : I σ) (h1 : ib (i + (1 : Int32)) L = true) (h2 : ib (i + (2 : Int32)) L = true) (h3 : ib (i + (3 : Int32)) L = true) (h4 : ib (i + (4 : Int32)) L = true) (kk : ∀ τ, I τ → V E mL (FLw b L xs E) 1545 [(0, .ref 200), (1, .ref 0), (2, .ref 44), (3, .int i)] [] τ) : V E mL (FLw b L xs E) 1073 [(0, .ref 200), (1, .ref 0), (2, .ref 44), (3, .int i)] [] σ := by
  obtain ⟨r, σ1, σ2, e1, e2, hI2⟩ := HS σ (xs (ix (i + (1 : Int32)))) (xs (ix (i + (2 : Int32)))) hI
  obtain ⟨e1, rfl⟩ := e1
  obtain ⟨e2, rfl⟩ := e2
  refine V.aloadn 1 dL_1073 rfl rfl ?_
  refine V.aloadn 0 dL_1074 rfl rfl ?_
  refine V.iloadn 3 dL_1075 rfl rfl ?_
  refine V.iconst (1 : Int32) dL_1076 lc1 rfl ?_
  refine V.iadd dL_1077 rfl ?_
  refine V.sld dL_1078 h1 rfl ?_
  refine V.aloadn 0 dL_1079 rfl rfl ?_
  refine V.iloadn 3 dL_1080 rfl rfl ?_
  refine V.iconst (2 : Int32) dL_1081 lc2 rfl ?_
  refine V.iadd dL_1082 rfl ?_
  refine V.sld dL_1083 h2 rfl ?_
  refine V.callvi 0 [.int (xs (ix (i + (1 : Int32)))), .int (xs (ix (i + (2 : Int32))))] dL_1084 (kE_rowOf e1) mlL_137 myE_rowOf mnE_rowOf ⟨rfl, rfl, by decide, by decide⟩ (rfl : kd 0 = (5, 0)) (by decide) rfl (Nat.le_of_ble_eq_true rfl) ⟨by show 100 ≤ _; decide, by show 6000 ≤ _; decide⟩ rfl ?_
  refine V.aloadn 2 dL_1087 rfl rfl ?_
  refine V.aloadn 0 dL_1088 rfl rfl ?_
  refine V.iloadn 3 dL_1089 rfl rfl ?_
  refine V.iconst (1 : Int32) dL_1090 lc1 rfl ?_
  refine V.iadd dL_1091 rfl ?_
  refine V.sld dL_1092 h1 rfl ?_
  refine V.aloadn 0 dL_1093 rfl rfl ?_
  refine V.iloadn 3 dL_1094 rfl rfl ?_
  refine V.iconst (2 : Int32) dL_1095 lc2 rfl ?_
  refine V.iadd dL_1096 rfl ?_
  refine V.sld dL_1097 h2 rfl ?_
  refine V.callvi 44 [.int (xs (ix (i + (1 : Int32)))), .int (xs (ix (i + (2 : Int32))))] dL_1098 (kM_rowOf e2) mlL_140 myM_rowOf mnM_rowOf ⟨rfl, rfl, by decide, by decide⟩ (rfl : kd 44 = (6, 0)) (by decide) rfl (Nat.le_of_ble_eq_true rfl) ⟨by show 100 ≤ _; decide, by show 6000 ≤ _; decide⟩ rfl ?_
  refine V.icmpeq 1545 dL_1101 rfl rfl (fun _ => kk σ2 hI2) (fun g => absurd rfl g)
theorem lwc_alterRow {E : Ev} {b L : Nat} {xs : Nat → Int32} {I : St → Prop} {σ : St} {i : Int32} (HS : St_alterRow I) (hI : I σ) (h1 : ib (i + (1 : Int32)) L = true) (h2 : ib (i + (2 : Int32)) L = true) (h3 : ib (i + (3 : Int32)) L = true) (h4 : ib (i + (4 : Int32)) L = true) (kk : ∀ τ, I τ → V E mL (FLw b L xs E) 1545 [(0, .ref 200), (1, .ref 0), (2, .ref 44), (3, .int i)] [] τ) : V E mL (FLw b L xs E) 1106 [(0, .ref 200), (1, .ref 0), (2, .ref 44), (3, .int i)] [] σ := by
  obtain ⟨r, σ1, σ2, e1, e2, hI2⟩ := HS σ (xs (ix (i + (1 : Int32)))) (xs (ix (i + (2 : Int32)))) (xs (ix (i + (3 : Int32)))) hI
  refine V.aloadn 1 dL_1106 rfl rfl ?_
  refine V.aloadn 0 dL_1107 rfl rfl ?_
  refine V.iloadn 3 dL_1108 rfl rfl ?_
  refine V.iconst (1 : Int32) dL_1109 lc1 rfl ?_
  refine V.iadd dL_1110 rfl ?_
  refine V.sld dL_1111 h1 rfl ?_
  refine V.aloadn 0 dL_1112 rfl rfl ?_
  refine V.iloadn 3 dL_1113 rfl rfl ?_
  refine V.iconst (2 : Int32) dL_1114 lc2 rfl ?_
  refine V.iadd dL_1115 rfl ?_
  refine V.sld dL_1116 h2 rfl ?_
  refine V.aloadn 0 dL_1117 rfl rfl ?_
  refine V.iloadn 3 dL_1118 rfl rfl ?_
  refine V.iconst (3 : Int32) dL_1119 lc3 rfl ?_
  refine V.iadd dL_1120 rfl ?_
  refine V.sld dL_1121 h3 rfl ?_
  refine V.callvi 0 [.int (xs (ix (i + (1 : Int32)))), .int (xs (ix (i + (2 : Int32)))), .int (xs (ix (i + (3 : Int32))))] dL_1122 (kE_alterRow e1) mlL_141 myE_alterRow mnE_alterRow ⟨rfl, rfl, by decide, by decide⟩ (rfl : kd 0 = (5, 0)) (by decide) rfl (Nat.le_of_ble_eq_true rfl) ⟨by show 100 ≤ _; decide, by show 6000 ≤ _; decide⟩ rfl ?_
  refine V.aloadn 2 dL_1125 rfl rfl ?_
  refine V.aloadn 0 dL_1126 rfl rfl ?_
  refine V.iloadn 3 dL_1127 rfl rfl ?_
  refine V.iconst (1 : Int32) dL_1128 lc1 rfl ?_
  refine V.iadd dL_1129 rfl ?_
  refine V.sld dL_1130 h1 rfl ?_
  refine V.aloadn 0 dL_1131 rfl rfl ?_
  refine V.iloadn 3 dL_1132 rfl rfl ?_
  refine V.iconst (2 : Int32) dL_1133 lc2 rfl ?_
  refine V.iadd dL_1134 rfl ?_
  refine V.sld dL_1135 h2 rfl ?_
  refine V.aloadn 0 dL_1136 rfl rfl ?_
  refine V.iloadn 3 dL_1137 rfl rfl ?_
  refine V.iconst (3 : Int32) dL_1138 lc3 rfl ?_
  refine V.iadd dL_1139 rfl ?_
  refine V.sld dL_1140 h3 rfl ?_
  refine V.callvi 44 [.int (xs (ix (i + (1 : Int32)))), .int (xs (ix (i + (2 : Int32)))), .int (xs (ix (i + (3 : Int32))))] dL_1141 (kM_alterRow e2) mlL_144 myM_alterRow mnM_alterRow ⟨rfl, rfl, by decide, by decide⟩ (rfl : kd 44 = (6, 0)) (by decide) rfl (Nat.le_of_ble_eq_true rfl) ⟨by show 100 ≤ _; decide, by show 6000 ≤ _; decide⟩ rfl ?_
  refine V.icmpeq 1545 dL_1144 rfl rfl (fun _ => kk σ2 hI2) (fun g => absurd rfl g)
theorem lwc_judge {E : Ev} {b L : Nat} {xs : Nat → Int32} {I : St → Prop} {σ : St} {i : Int32} (HS : St_judge I) (hI : I σ) (h1 : ib (i + (1 : Int32)) L = true) (h2 : ib (i + (2 : Int32)) L = true) (h3 : ib (i + (3 : Int32)) L = true) (h4 : ib (i + (4 : Int32)) L = true) (kk : ∀ τ, I τ → V E mL (FLw b L xs E) 1545 [(0, .ref 200), (1, .ref 0), (2, .ref 44), (3, .int i)] [] τ) : V E mL (FLw b L xs E) 1149 [(0, .ref 200), (1, .ref 0), (2, .ref 44), (3, .int i)] [] σ := by
  obtain ⟨r, σ1, σ2, e1, e2, hI2⟩ := HS σ (xs (ix (i + (1 : Int32)))) hI
  refine V.aloadn 1 dL_1149 rfl rfl ?_
  refine V.aloadn 0 dL_1150 rfl rfl ?_
  refine V.iloadn 3 dL_1151 rfl rfl ?_
  refine V.iconst (1 : Int32) dL_1152 lc1 rfl ?_
  refine V.iadd dL_1153 rfl ?_
  refine V.sld dL_1154 h1 rfl ?_
  refine V.callvi 0 [.int (xs (ix (i + (1 : Int32))))] dL_1155 (kE_judge e1) mlL_145 myE_judge mnE_judge ⟨rfl, rfl, by decide, by decide⟩ (rfl : kd 0 = (5, 0)) (by decide) rfl (Nat.le_of_ble_eq_true rfl) ⟨by show 100 ≤ _; decide, by show 6000 ≤ _; decide⟩ rfl ?_
  refine V.aloadn 2 dL_1158 rfl rfl ?_
  refine V.aloadn 0 dL_1159 rfl rfl ?_
  refine V.iloadn 3 dL_1160 rfl rfl ?_
  refine V.iconst (1 : Int32) dL_1161 lc1 rfl ?_
  refine V.iadd dL_1162 rfl ?_
  refine V.sld dL_1163 h1 rfl ?_
  refine V.callvi 44 [.int (xs (ix (i + (1 : Int32))))] dL_1164 (kM_judge e2) mlL_148 myM_judge mnM_judge ⟨rfl, rfl, by decide, by decide⟩ (rfl : kd 44 = (6, 0)) (by decide) rfl (Nat.le_of_ble_eq_true rfl) ⟨by show 100 ≤ _; decide, by show 6000 ≤ _; decide⟩ rfl ?_
  refine V.icmpeq 1545 dL_1167 rfl rfl (fun _ => kk σ2 hI2) (fun g => absurd rfl g)
theorem lwc_ranks {E : Ev} {b L : Nat} {xs : Nat → Int32} {I : St → Prop} {σ : St} {i : Int32} (HS : St_ranks I) (hI : I σ) (h1 : ib (i + (1 : Int32)) L = true) (h2 : ib (i + (2 : Int32)) L = true) (h3 : ib (i + (3 : Int32)) L = true) (h4 : ib (i + (4 : Int32)) L = true) (kk : ∀ τ, I τ → V E mL (FLw b L xs E) 1545 [(0, .ref 200), (1, .ref 0), (2, .ref 44), (3, .int i)] [] τ) : V E mL (FLw b L xs E) 1172 [(0, .ref 200), (1, .ref 0), (2, .ref 44), (3, .int i)] [] σ := by
  obtain ⟨r, σ1, σ2, e1, e2, hI2⟩ := HS σ (xs (ix (i + (1 : Int32)))) (xs (ix (i + (2 : Int32)))) (xs (ix (i + (3 : Int32)))) (xs (ix (i + (4 : Int32)))) hI
  refine V.aloadn 1 dL_1172 rfl rfl ?_
  refine V.aloadn 0 dL_1173 rfl rfl ?_
  refine V.iloadn 3 dL_1174 rfl rfl ?_
  refine V.iconst (1 : Int32) dL_1175 lc1 rfl ?_
  refine V.iadd dL_1176 rfl ?_
  refine V.sld dL_1177 h1 rfl ?_
  refine V.aloadn 0 dL_1178 rfl rfl ?_
  refine V.iloadn 3 dL_1179 rfl rfl ?_
  refine V.iconst (2 : Int32) dL_1180 lc2 rfl ?_
  refine V.iadd dL_1181 rfl ?_
  refine V.sld dL_1182 h2 rfl ?_
  refine V.aloadn 0 dL_1183 rfl rfl ?_
  refine V.iloadn 3 dL_1184 rfl rfl ?_
  refine V.iconst (3 : Int32) dL_1185 lc3 rfl ?_
  refine V.iadd dL_1186 rfl ?_
  refine V.sld dL_1187 h3 rfl ?_
  refine V.aloadn 0 dL_1188 rfl rfl ?_
  refine V.iloadn 3 dL_1189 rfl rfl ?_
  refine V.iconst (4 : Int32) dL_1190 lc4 rfl ?_
  refine V.iadd dL_1191 rfl ?_
  refine V.sld dL_1192 h4 rfl ?_
  refine V.callvi 0 [.int (xs (ix (i + (1 : Int32)))), .int (xs (ix (i + (2 : Int32)))), .int (xs (ix (i + (3 : Int32)))), .int (xs (ix (i + (4 : Int32))))] dL_1193 (kE_ranks e1) mlL_149 myE_ranks mnE_ranks ⟨rfl, rfl, by decide, by decide⟩ (rfl : kd 0 = (5, 0)) (by decide) rfl (Nat.le_of_ble_eq_true rfl) ⟨by show 100 ≤ _; decide, by show 6000 ≤ _; decide⟩ rfl ?_
  refine V.aloadn 2 dL_1196 rfl rfl ?_
  refine V.aloadn 0 dL_1197 rfl rfl ?_
  refine V.iloadn 3 dL_1198 rfl rfl ?_
  refine V.iconst (1 : Int32) dL_1199 lc1 rfl ?_
  refine V.iadd dL_1200 rfl ?_
  refine V.sld dL_1201 h1 rfl ?_
  refine V.aloadn 0 dL_1202 rfl rfl ?_
  refine V.iloadn 3 dL_1203 rfl rfl ?_
  refine V.iconst (2 : Int32) dL_1204 lc2 rfl ?_
  refine V.iadd dL_1205 rfl ?_
  refine V.sld dL_1206 h2 rfl ?_
  refine V.aloadn 0 dL_1207 rfl rfl ?_
  refine V.iloadn 3 dL_1208 rfl rfl ?_
  refine V.iconst (3 : Int32) dL_1209 lc3 rfl ?_
  refine V.iadd dL_1210 rfl ?_
  refine V.sld dL_1211 h3 rfl ?_
  refine V.aloadn 0 dL_1212 rfl rfl ?_
  refine V.iloadn 3 dL_1213 rfl rfl ?_
  refine V.iconst (4 : Int32) dL_1214 lc4 rfl ?_
  refine V.iadd dL_1215 rfl ?_
  refine V.sld dL_1216 h4 rfl ?_
  refine V.callvi 44 [.int (xs (ix (i + (1 : Int32)))), .int (xs (ix (i + (2 : Int32)))), .int (xs (ix (i + (3 : Int32)))), .int (xs (ix (i + (4 : Int32))))] dL_1217 (kM_ranks e2) mlL_153 myM_ranks mnM_ranks ⟨rfl, rfl, by decide, by decide⟩ (rfl : kd 44 = (6, 0)) (by decide) rfl (Nat.le_of_ble_eq_true rfl) ⟨by show 100 ≤ _; decide, by show 6000 ≤ _; decide⟩ rfl ?_
  refine V.icmpeq 1545 dL_1220 rfl rfl (fun _ => kk σ2 hI2) (fun g => absurd rfl g)
theorem lwc_sheet {E : Ev} {b L : Nat} {xs : Nat → Int32} {I : St → Prop} {σ : St} {i : Int32} (HS : St_sheet I) (hI : I σ) (h1 : ib (i + (1 : Int32)) L = true) (h2 : ib (i + (2 : Int32)) L = true) (h3 : ib (i + (3 : Int32)) L = true) (h4 : ib (i + (4 : Int32)) L = true) (kk : ∀ τ, I τ → V E mL (FLw b L xs E) 1545 [(0, .ref 200), (1, .ref 0), (2, .ref 44), (3, .int i)] [] τ) : V E mL (FLw b L xs E) 1225 [(0, .ref 200), (1, .ref 0), (2, .ref 44), (3, .int i)] [] σ := by
  obtain ⟨r, σ1, σ2, e1, e2, hI2⟩ := HS σ (xs (ix (i + (1 : Int32)))) (xs (ix (i + (2 : Int32)))) (xs (ix (i + (3 : Int32)))) hI
  refine V.aloadn 1 dL_1225 rfl rfl ?_
  refine V.aloadn 0 dL_1226 rfl rfl ?_
  refine V.iloadn 3 dL_1227 rfl rfl ?_
  refine V.iconst (1 : Int32) dL_1228 lc1 rfl ?_
  refine V.iadd dL_1229 rfl ?_
  refine V.sld dL_1230 h1 rfl ?_
  refine V.aloadn 0 dL_1231 rfl rfl ?_
  refine V.iloadn 3 dL_1232 rfl rfl ?_
  refine V.iconst (2 : Int32) dL_1233 lc2 rfl ?_
  refine V.iadd dL_1234 rfl ?_
  refine V.sld dL_1235 h2 rfl ?_
  refine V.aloadn 0 dL_1236 rfl rfl ?_
  refine V.iloadn 3 dL_1237 rfl rfl ?_
  refine V.iconst (3 : Int32) dL_1238 lc3 rfl ?_
  refine V.iadd dL_1239 rfl ?_
  refine V.sld dL_1240 h3 rfl ?_
  refine V.callvi 0 [.int (xs (ix (i + (1 : Int32)))), .int (xs (ix (i + (2 : Int32)))), .int (xs (ix (i + (3 : Int32))))] dL_1241 (kE_sheet e1) mlL_154 myE_sheet mnE_sheet ⟨rfl, rfl, by decide, by decide⟩ (rfl : kd 0 = (5, 0)) (by decide) rfl (Nat.le_of_ble_eq_true rfl) ⟨by show 100 ≤ _; decide, by show 6000 ≤ _; decide⟩ rfl ?_
  refine V.aloadn 2 dL_1244 rfl rfl ?_
  refine V.aloadn 0 dL_1245 rfl rfl ?_
  refine V.iloadn 3 dL_1246 rfl rfl ?_
  refine V.iconst (1 : Int32) dL_1247 lc1 rfl ?_
  refine V.iadd dL_1248 rfl ?_
  refine V.sld dL_1249 h1 rfl ?_
  refine V.aloadn 0 dL_1250 rfl rfl ?_
  refine V.iloadn 3 dL_1251 rfl rfl ?_
  refine V.iconst (2 : Int32) dL_1252 lc2 rfl ?_
  refine V.iadd dL_1253 rfl ?_
  refine V.sld dL_1254 h2 rfl ?_
  refine V.aloadn 0 dL_1255 rfl rfl ?_
  refine V.iloadn 3 dL_1256 rfl rfl ?_
  refine V.iconst (3 : Int32) dL_1257 lc3 rfl ?_
  refine V.iadd dL_1258 rfl ?_
  refine V.sld dL_1259 h3 rfl ?_
  refine V.callvi 44 [.int (xs (ix (i + (1 : Int32)))), .int (xs (ix (i + (2 : Int32)))), .int (xs (ix (i + (3 : Int32))))] dL_1260 (kM_sheet e2) mlL_157 myM_sheet mnM_sheet ⟨rfl, rfl, by decide, by decide⟩ (rfl : kd 44 = (6, 0)) (by decide) rfl (Nat.le_of_ble_eq_true rfl) ⟨by show 100 ≤ _; decide, by show 6000 ≤ _; decide⟩ rfl ?_
  refine V.icmpeq 1545 dL_1263 rfl rfl (fun _ => kk σ2 hI2) (fun g => absurd rfl g)
theorem lwc_put {E : Ev} {b L : Nat} {xs : Nat → Int32} {I : St → Prop} {σ : St} {i : Int32} (HS : St_put I) (hI : I σ) (h1 : ib (i + (1 : Int32)) L = true) (h2 : ib (i + (2 : Int32)) L = true) (h3 : ib (i + (3 : Int32)) L = true) (h4 : ib (i + (4 : Int32)) L = true) (kk : ∀ τ, I τ → V E mL (FLw b L xs E) 1545 [(0, .ref 200), (1, .ref 0), (2, .ref 44), (3, .int i)] [] τ) : V E mL (FLw b L xs E) 1268 [(0, .ref 200), (1, .ref 0), (2, .ref 44), (3, .int i)] [] σ := by
  obtain ⟨r, σ1, σ2, e1, e2, hI2⟩ := HS σ (xs (ix (i + (1 : Int32)))) (xs (ix (i + (2 : Int32)))) (xs (ix (i + (3 : Int32)))) hI
  refine V.aloadn 1 dL_1268 rfl rfl ?_
  refine V.aloadn 0 dL_1269 rfl rfl ?_
  refine V.iloadn 3 dL_1270 rfl rfl ?_
  refine V.iconst (1 : Int32) dL_1271 lc1 rfl ?_
  refine V.iadd dL_1272 rfl ?_
  refine V.sld dL_1273 h1 rfl ?_
  refine V.aloadn 0 dL_1274 rfl rfl ?_
  refine V.iloadn 3 dL_1275 rfl rfl ?_
  refine V.iconst (2 : Int32) dL_1276 lc2 rfl ?_
  refine V.iadd dL_1277 rfl ?_
  refine V.sld dL_1278 h2 rfl ?_
  refine V.aloadn 0 dL_1279 rfl rfl ?_
  refine V.iloadn 3 dL_1280 rfl rfl ?_
  refine V.iconst (3 : Int32) dL_1281 lc3 rfl ?_
  refine V.iadd dL_1282 rfl ?_
  refine V.sld dL_1283 h3 rfl ?_
  refine V.callvi 0 [.int (xs (ix (i + (1 : Int32)))), .int (xs (ix (i + (2 : Int32)))), .int (xs (ix (i + (3 : Int32))))] dL_1284 (kE_put e1) mlL_158 myE_put mnE_put ⟨rfl, rfl, by decide, by decide⟩ (rfl : kd 0 = (5, 0)) (by decide) rfl (Nat.le_of_ble_eq_true rfl) ⟨by show 100 ≤ _; decide, by show 6000 ≤ _; decide⟩ rfl ?_
  refine V.aloadn 2 dL_1287 rfl rfl ?_
  refine V.aloadn 0 dL_1288 rfl rfl ?_
  refine V.iloadn 3 dL_1289 rfl rfl ?_
  refine V.iconst (1 : Int32) dL_1290 lc1 rfl ?_
  refine V.iadd dL_1291 rfl ?_
  refine V.sld dL_1292 h1 rfl ?_
  refine V.aloadn 0 dL_1293 rfl rfl ?_
  refine V.iloadn 3 dL_1294 rfl rfl ?_
  refine V.iconst (2 : Int32) dL_1295 lc2 rfl ?_
  refine V.iadd dL_1296 rfl ?_
  refine V.sld dL_1297 h2 rfl ?_
  refine V.aloadn 0 dL_1298 rfl rfl ?_
  refine V.iloadn 3 dL_1299 rfl rfl ?_
  refine V.iconst (3 : Int32) dL_1300 lc3 rfl ?_
  refine V.iadd dL_1301 rfl ?_
  refine V.sld dL_1302 h3 rfl ?_
  refine V.callvi 44 [.int (xs (ix (i + (1 : Int32)))), .int (xs (ix (i + (2 : Int32)))), .int (xs (ix (i + (3 : Int32))))] dL_1303 (kM_put e2) mlL_161 myM_put mnM_put ⟨rfl, rfl, by decide, by decide⟩ (rfl : kd 44 = (6, 0)) (by decide) rfl (Nat.le_of_ble_eq_true rfl) ⟨by show 100 ≤ _; decide, by show 6000 ≤ _; decide⟩ rfl ?_
  refine V.icmpeq 1545 dL_1306 rfl rfl (fun _ => kk σ2 hI2) (fun g => absurd rfl g)
theorem lwc_item {E : Ev} {b L : Nat} {xs : Nat → Int32} {I : St → Prop} {σ : St} {i : Int32} (HS : St_item I) (hI : I σ) (h1 : ib (i + (1 : Int32)) L = true) (h2 : ib (i + (2 : Int32)) L = true) (h3 : ib (i + (3 : Int32)) L = true) (h4 : ib (i + (4 : Int32)) L = true) (kk : ∀ τ, I τ → V E mL (FLw b L xs E) 1545 [(0, .ref 200), (1, .ref 0), (2, .ref 44), (3, .int i)] [] τ) : V E mL (FLw b L xs E) 1311 [(0, .ref 200), (1, .ref 0), (2, .ref 44), (3, .int i)] [] σ := by
  obtain ⟨r, σ1, σ2, e1, e2, hI2⟩ := HS σ (xs (ix (i + (1 : Int32)))) (xs (ix (i + (2 : Int32)))) (xs (ix (i + (3 : Int32)))) hI
  obtain ⟨e1, rfl⟩ := e1
  obtain ⟨e2, rfl⟩ := e2
  refine V.aloadn 1 dL_1311 rfl rfl ?_
  refine V.aloadn 0 dL_1312 rfl rfl ?_
  refine V.iloadn 3 dL_1313 rfl rfl ?_
  refine V.iconst (1 : Int32) dL_1314 lc1 rfl ?_
  refine V.iadd dL_1315 rfl ?_
  refine V.sld dL_1316 h1 rfl ?_
  refine V.aloadn 0 dL_1317 rfl rfl ?_
  refine V.iloadn 3 dL_1318 rfl rfl ?_
  refine V.iconst (2 : Int32) dL_1319 lc2 rfl ?_
  refine V.iadd dL_1320 rfl ?_
  refine V.sld dL_1321 h2 rfl ?_
  refine V.aloadn 0 dL_1322 rfl rfl ?_
  refine V.iloadn 3 dL_1323 rfl rfl ?_
  refine V.iconst (3 : Int32) dL_1324 lc3 rfl ?_
  refine V.iadd dL_1325 rfl ?_
  refine V.sld dL_1326 h3 rfl ?_
  refine V.callvi 0 [.int (xs (ix (i + (1 : Int32)))), .int (xs (ix (i + (2 : Int32)))), .int (xs (ix (i + (3 : Int32))))] dL_1327 (kE_item e1) mlL_162 myE_item mnE_item ⟨rfl, rfl, by decide, by decide⟩ (rfl : kd 0 = (5, 0)) (by decide) rfl (Nat.le_of_ble_eq_true rfl) ⟨by show 100 ≤ _; decide, by show 6000 ≤ _; decide⟩ rfl ?_
  refine V.aloadn 2 dL_1330 rfl rfl ?_
  refine V.aloadn 0 dL_1331 rfl rfl ?_
  refine V.iloadn 3 dL_1332 rfl rfl ?_
  refine V.iconst (1 : Int32) dL_1333 lc1 rfl ?_
  refine V.iadd dL_1334 rfl ?_
  refine V.sld dL_1335 h1 rfl ?_
  refine V.aloadn 0 dL_1336 rfl rfl ?_
  refine V.iloadn 3 dL_1337 rfl rfl ?_
  refine V.iconst (2 : Int32) dL_1338 lc2 rfl ?_
  refine V.iadd dL_1339 rfl ?_
  refine V.sld dL_1340 h2 rfl ?_
  refine V.aloadn 0 dL_1341 rfl rfl ?_
  refine V.iloadn 3 dL_1342 rfl rfl ?_
  refine V.iconst (3 : Int32) dL_1343 lc3 rfl ?_
  refine V.iadd dL_1344 rfl ?_
  refine V.sld dL_1345 h3 rfl ?_
  refine V.callvi 44 [.int (xs (ix (i + (1 : Int32)))), .int (xs (ix (i + (2 : Int32)))), .int (xs (ix (i + (3 : Int32))))] dL_1346 (kM_item e2) mlL_165 myM_item mnM_item ⟨rfl, rfl, by decide, by decide⟩ (rfl : kd 44 = (6, 0)) (by decide) rfl (Nat.le_of_ble_eq_true rfl) ⟨by show 100 ≤ _; decide, by show 6000 ≤ _; decide⟩ rfl ?_
  refine V.icmpeq 1545 dL_1349 rfl rfl (fun _ => kk σ2 hI2) (fun g => absurd rfl g)
theorem lwc_shelf {E : Ev} {b L : Nat} {xs : Nat → Int32} {I : St → Prop} {σ : St} {i : Int32} (HS : St_shelf I) (hI : I σ) (h1 : ib (i + (1 : Int32)) L = true) (h2 : ib (i + (2 : Int32)) L = true) (h3 : ib (i + (3 : Int32)) L = true) (h4 : ib (i + (4 : Int32)) L = true) (kk : ∀ τ, I τ → V E mL (FLw b L xs E) 1545 [(0, .ref 200), (1, .ref 0), (2, .ref 44), (3, .int i)] [] τ) : V E mL (FLw b L xs E) 1354 [(0, .ref 200), (1, .ref 0), (2, .ref 44), (3, .int i)] [] σ := by
  obtain ⟨r, σ1, σ2, e1, e2, hI2⟩ := HS σ (xs (ix (i + (1 : Int32)))) (xs (ix (i + (2 : Int32)))) (xs (ix (i + (3 : Int32)))) hI
  refine V.aloadn 1 dL_1354 rfl rfl ?_
  refine V.aloadn 0 dL_1355 rfl rfl ?_
  refine V.iloadn 3 dL_1356 rfl rfl ?_
  refine V.iconst (1 : Int32) dL_1357 lc1 rfl ?_
  refine V.iadd dL_1358 rfl ?_
  refine V.sld dL_1359 h1 rfl ?_
  refine V.aloadn 0 dL_1360 rfl rfl ?_
  refine V.iloadn 3 dL_1361 rfl rfl ?_
  refine V.iconst (2 : Int32) dL_1362 lc2 rfl ?_
  refine V.iadd dL_1363 rfl ?_
  refine V.sld dL_1364 h2 rfl ?_
  refine V.aloadn 0 dL_1365 rfl rfl ?_
  refine V.iloadn 3 dL_1366 rfl rfl ?_
  refine V.iconst (3 : Int32) dL_1367 lc3 rfl ?_
  refine V.iadd dL_1368 rfl ?_
  refine V.sld dL_1369 h3 rfl ?_
  refine V.callvi 0 [.int (xs (ix (i + (1 : Int32)))), .int (xs (ix (i + (2 : Int32)))), .int (xs (ix (i + (3 : Int32))))] dL_1370 (kE_shelf e1) mlL_166 myE_shelf mnE_shelf ⟨rfl, rfl, by decide, by decide⟩ (rfl : kd 0 = (5, 0)) (by decide) rfl (Nat.le_of_ble_eq_true rfl) ⟨by show 100 ≤ _; decide, by show 6000 ≤ _; decide⟩ rfl ?_
  refine V.aloadn 2 dL_1373 rfl rfl ?_
  refine V.aloadn 0 dL_1374 rfl rfl ?_
  refine V.iloadn 3 dL_1375 rfl rfl ?_
  refine V.iconst (1 : Int32) dL_1376 lc1 rfl ?_
  refine V.iadd dL_1377 rfl ?_
  refine V.sld dL_1378 h1 rfl ?_
  refine V.aloadn 0 dL_1379 rfl rfl ?_
  refine V.iloadn 3 dL_1380 rfl rfl ?_
  refine V.iconst (2 : Int32) dL_1381 lc2 rfl ?_
  refine V.iadd dL_1382 rfl ?_
  refine V.sld dL_1383 h2 rfl ?_
  refine V.aloadn 0 dL_1384 rfl rfl ?_
  refine V.iloadn 3 dL_1385 rfl rfl ?_
  refine V.iconst (3 : Int32) dL_1386 lc3 rfl ?_
  refine V.iadd dL_1387 rfl ?_
  refine V.sld dL_1388 h3 rfl ?_
  refine V.callvi 44 [.int (xs (ix (i + (1 : Int32)))), .int (xs (ix (i + (2 : Int32)))), .int (xs (ix (i + (3 : Int32))))] dL_1389 (kM_shelf e2) mlL_169 myM_shelf mnM_shelf ⟨rfl, rfl, by decide, by decide⟩ (rfl : kd 44 = (6, 0)) (by decide) rfl (Nat.le_of_ble_eq_true rfl) ⟨by show 100 ≤ _; decide, by show 6000 ≤ _; decide⟩ rfl ?_
  refine V.icmpeq 1545 dL_1392 rfl rfl (fun _ => kk σ2 hI2) (fun g => absurd rfl g)
theorem lwc_taken {E : Ev} {b L : Nat} {xs : Nat → Int32} {I : St → Prop} {σ : St} {i : Int32} (HS : St_taken I) (hI : I σ) (h1 : ib (i + (1 : Int32)) L = true) (h2 : ib (i + (2 : Int32)) L = true) (h3 : ib (i + (3 : Int32)) L = true) (h4 : ib (i + (4 : Int32)) L = true) (kk : ∀ τ, I τ → V E mL (FLw b L xs E) 1545 [(0, .ref 200), (1, .ref 0), (2, .ref 44), (3, .int i)] [] τ) : V E mL (FLw b L xs E) 1397 [(0, .ref 200), (1, .ref 0), (2, .ref 44), (3, .int i)] [] σ := by
  obtain ⟨r, σ1, σ2, e1, e2, hI2⟩ := HS σ (xs (ix (i + (1 : Int32)))) (xs (ix (i + (2 : Int32)))) hI
  obtain ⟨e1, rfl⟩ := e1
  obtain ⟨e2, rfl⟩ := e2
  refine V.aloadn 1 dL_1397 rfl rfl ?_
  refine V.aloadn 0 dL_1398 rfl rfl ?_
  refine V.iloadn 3 dL_1399 rfl rfl ?_
  refine V.iconst (1 : Int32) dL_1400 lc1 rfl ?_
  refine V.iadd dL_1401 rfl ?_
  refine V.sld dL_1402 h1 rfl ?_
  refine V.aloadn 0 dL_1403 rfl rfl ?_
  refine V.iloadn 3 dL_1404 rfl rfl ?_
  refine V.iconst (2 : Int32) dL_1405 lc2 rfl ?_
  refine V.iadd dL_1406 rfl ?_
  refine V.sld dL_1407 h2 rfl ?_
  refine V.callvi 0 [.int (xs (ix (i + (1 : Int32)))), .int (xs (ix (i + (2 : Int32))))] dL_1408 (kE_taken e1) mlL_170 myE_taken mnE_taken ⟨rfl, rfl, by decide, by decide⟩ (rfl : kd 0 = (5, 0)) (by decide) rfl (Nat.le_of_ble_eq_true rfl) ⟨by show 100 ≤ _; decide, by show 6000 ≤ _; decide⟩ rfl ?_
  refine V.aloadn 2 dL_1411 rfl rfl ?_
  refine V.aloadn 0 dL_1412 rfl rfl ?_
  refine V.iloadn 3 dL_1413 rfl rfl ?_
  refine V.iconst (1 : Int32) dL_1414 lc1 rfl ?_
  refine V.iadd dL_1415 rfl ?_
  refine V.sld dL_1416 h1 rfl ?_
  refine V.aloadn 0 dL_1417 rfl rfl ?_
  refine V.iloadn 3 dL_1418 rfl rfl ?_
  refine V.iconst (2 : Int32) dL_1419 lc2 rfl ?_
  refine V.iadd dL_1420 rfl ?_
  refine V.sld dL_1421 h2 rfl ?_
  refine V.callvi 44 [.int (xs (ix (i + (1 : Int32)))), .int (xs (ix (i + (2 : Int32))))] dL_1422 (kM_taken e2) mlL_173 myM_taken mnM_taken ⟨rfl, rfl, by decide, by decide⟩ (rfl : kd 44 = (6, 0)) (by decide) rfl (Nat.le_of_ble_eq_true rfl) ⟨by show 100 ≤ _; decide, by show 6000 ≤ _; decide⟩ rfl ?_
  refine V.icmpeq 1545 dL_1425 rfl rfl (fun _ => kk σ2 hI2) (fun g => absurd rfl g)
theorem lwc_act {E : Ev} {b L : Nat} {xs : Nat → Int32} {I : St → Prop} {σ : St} {i : Int32} (HS : St_act I) (hI : I σ) (h1 : ib (i + (1 : Int32)) L = true) (h2 : ib (i + (2 : Int32)) L = true) (h3 : ib (i + (3 : Int32)) L = true) (h4 : ib (i + (4 : Int32)) L = true) (kk : ∀ τ, I τ → V E mL (FLw b L xs E) 1545 [(0, .ref 200), (1, .ref 0), (2, .ref 44), (3, .int i)] [] τ) : V E mL (FLw b L xs E) 1430 [(0, .ref 200), (1, .ref 0), (2, .ref 44), (3, .int i)] [] σ := by
  obtain ⟨r, σ1, σ2, e1, e2, hI2⟩ := HS σ (xs (ix (i + (1 : Int32)))) (xs (ix (i + (2 : Int32)))) (xs (ix (i + (3 : Int32)))) hI
  refine V.aloadn 1 dL_1430 rfl rfl ?_
  refine V.aloadn 0 dL_1431 rfl rfl ?_
  refine V.iloadn 3 dL_1432 rfl rfl ?_
  refine V.iconst (1 : Int32) dL_1433 lc1 rfl ?_
  refine V.iadd dL_1434 rfl ?_
  refine V.sld dL_1435 h1 rfl ?_
  refine V.aloadn 0 dL_1436 rfl rfl ?_
  refine V.iloadn 3 dL_1437 rfl rfl ?_
  refine V.iconst (2 : Int32) dL_1438 lc2 rfl ?_
  refine V.iadd dL_1439 rfl ?_
  refine V.sld dL_1440 h2 rfl ?_
  refine V.aloadn 0 dL_1441 rfl rfl ?_
  refine V.iloadn 3 dL_1442 rfl rfl ?_
  refine V.iconst (3 : Int32) dL_1443 lc3 rfl ?_
  refine V.iadd dL_1444 rfl ?_
  refine V.sld dL_1445 h3 rfl ?_
  refine V.callvi 0 [.int (xs (ix (i + (1 : Int32)))), .int (xs (ix (i + (2 : Int32)))), .int (xs (ix (i + (3 : Int32))))] dL_1446 (kE_act e1) mlL_174 myE_act mnE_act ⟨rfl, rfl, by decide, by decide⟩ (rfl : kd 0 = (5, 0)) (by decide) rfl (Nat.le_of_ble_eq_true rfl) ⟨by show 100 ≤ _; decide, by show 6000 ≤ _; decide⟩ rfl ?_
  refine V.aloadn 2 dL_1449 rfl rfl ?_
  refine V.aloadn 0 dL_1450 rfl rfl ?_
  refine V.iloadn 3 dL_1451 rfl rfl ?_
  refine V.iconst (1 : Int32) dL_1452 lc1 rfl ?_
  refine V.iadd dL_1453 rfl ?_
  refine V.sld dL_1454 h1 rfl ?_
  refine V.aloadn 0 dL_1455 rfl rfl ?_
  refine V.iloadn 3 dL_1456 rfl rfl ?_
  refine V.iconst (2 : Int32) dL_1457 lc2 rfl ?_
  refine V.iadd dL_1458 rfl ?_
  refine V.sld dL_1459 h2 rfl ?_
  refine V.aloadn 0 dL_1460 rfl rfl ?_
  refine V.iloadn 3 dL_1461 rfl rfl ?_
  refine V.iconst (3 : Int32) dL_1462 lc3 rfl ?_
  refine V.iadd dL_1463 rfl ?_
  refine V.sld dL_1464 h3 rfl ?_
  refine V.callvi 44 [.int (xs (ix (i + (1 : Int32)))), .int (xs (ix (i + (2 : Int32)))), .int (xs (ix (i + (3 : Int32))))] dL_1465 (kM_act e2) mlL_177 myM_act mnM_act ⟨rfl, rfl, by decide, by decide⟩ (rfl : kd 44 = (6, 0)) (by decide) rfl (Nat.le_of_ble_eq_true rfl) ⟨by show 100 ≤ _; decide, by show 6000 ≤ _; decide⟩ rfl ?_
  refine V.icmpeq 1545 dL_1468 rfl rfl (fun _ => kk σ2 hI2) (fun g => absurd rfl g)
theorem lwc_trace {E : Ev} {b L : Nat} {xs : Nat → Int32} {I : St → Prop} {σ : St} {i : Int32} (HS : St_trace I) (hI : I σ) (h1 : ib (i + (1 : Int32)) L = true) (h2 : ib (i + (2 : Int32)) L = true) (h3 : ib (i + (3 : Int32)) L = true) (h4 : ib (i + (4 : Int32)) L = true) (kk : ∀ τ, I τ → V E mL (FLw b L xs E) 1545 [(0, .ref 200), (1, .ref 0), (2, .ref 44), (3, .int i)] [] τ) : V E mL (FLw b L xs E) 1473 [(0, .ref 200), (1, .ref 0), (2, .ref 44), (3, .int i)] [] σ := by
  obtain ⟨r, σ1, σ2, e1, e2, hI2⟩ := HS σ (xs (ix (i + (1 : Int32)))) hI
  obtain ⟨e1, rfl⟩ := e1
  obtain ⟨e2, rfl⟩ := e2
  refine V.aloadn 1 dL_1473 rfl rfl ?_
  refine V.aloadn 0 dL_1474 rfl rfl ?_
  refine V.iloadn 3 dL_1475 rfl rfl ?_
  refine V.iconst (1 : Int32) dL_1476 lc1 rfl ?_
  refine V.iadd dL_1477 rfl ?_
  refine V.sld dL_1478 h1 rfl ?_
  refine V.callvi 0 [.int (xs (ix (i + (1 : Int32))))] dL_1479 (kE_trace e1) mlL_178 myE_trace mnE_trace ⟨rfl, rfl, by decide, by decide⟩ (rfl : kd 0 = (5, 0)) (by decide) rfl (Nat.le_of_ble_eq_true rfl) ⟨by show 100 ≤ _; decide, by show 6000 ≤ _; decide⟩ rfl ?_
  refine V.aloadn 2 dL_1482 rfl rfl ?_
  refine V.aloadn 0 dL_1483 rfl rfl ?_
  refine V.iloadn 3 dL_1484 rfl rfl ?_
  refine V.iconst (1 : Int32) dL_1485 lc1 rfl ?_
  refine V.iadd dL_1486 rfl ?_
  refine V.sld dL_1487 h1 rfl ?_
  refine V.callvi 44 [.int (xs (ix (i + (1 : Int32))))] dL_1488 (kM_trace e2) mlL_181 myM_trace mnM_trace ⟨rfl, rfl, by decide, by decide⟩ (rfl : kd 44 = (6, 0)) (by decide) rfl (Nat.le_of_ble_eq_true rfl) ⟨by show 100 ≤ _; decide, by show 6000 ≤ _; decide⟩ rfl ?_
  refine V.icmpeq 1545 dL_1491 rfl rfl (fun _ => kk σ2 hI2) (fun g => absurd rfl g)
theorem lwc_many {E : Ev} {b L : Nat} {xs : Nat → Int32} {I : St → Prop} {σ : St} {i : Int32} (HS : St_many I) (hI : I σ) (h1 : ib (i + (1 : Int32)) L = true) (h2 : ib (i + (2 : Int32)) L = true) (h3 : ib (i + (3 : Int32)) L = true) (h4 : ib (i + (4 : Int32)) L = true) (kk : ∀ τ, I τ → V E mL (FLw b L xs E) 1545 [(0, .ref 200), (1, .ref 0), (2, .ref 44), (3, .int i)] [] τ) : V E mL (FLw b L xs E) 1496 [(0, .ref 200), (1, .ref 0), (2, .ref 44), (3, .int i)] [] σ := by
  obtain ⟨r, σ1, σ2, e1, e2, hI2⟩ := HS σ (xs (ix (i + (1 : Int32)))) hI
  obtain ⟨e1, rfl⟩ := e1
  obtain ⟨e2, rfl⟩ := e2
  subst e2
  refine V.aloadn 1 dL_1496 rfl rfl ?_
  refine V.aloadn 0 dL_1497 rfl rfl ?_
  refine V.iloadn 3 dL_1498 rfl rfl ?_
  refine V.iconst (1 : Int32) dL_1499 lc1 rfl ?_
  refine V.iadd dL_1500 rfl ?_
  refine V.sld dL_1501 h1 rfl ?_
  refine V.callvi 0 [.int (xs (ix (i + (1 : Int32))))] dL_1502 (kE_many e1) mlL_182 myE_many mnE_many ⟨rfl, rfl, by decide, by decide⟩ (rfl : kd 0 = (5, 0)) (by decide) rfl (Nat.le_of_ble_eq_true rfl) ⟨by show 100 ≤ _; decide, by show 6000 ≤ _; decide⟩ rfl ?_
  refine V.aloadn 2 dL_1505 rfl rfl ?_
  refine V.aloadn 0 dL_1506 rfl rfl ?_
  refine V.iloadn 3 dL_1507 rfl rfl ?_
  refine V.iconst (1 : Int32) dL_1508 lc1 rfl ?_
  refine V.iadd dL_1509 rfl ?_
  refine V.sld dL_1510 h1 rfl ?_
  refine V.callvi 44 [.int (xs (ix (i + (1 : Int32))))] dL_1511 (kM_many (σ := _) (xs (ix (i + (1 : Int32))))) mlL_185 myM_many mnM_many ⟨rfl, rfl, by decide, by decide⟩ (rfl : kd 44 = (6, 0)) (by decide) rfl (Nat.le_of_ble_eq_true rfl) ⟨by show 100 ≤ _; decide, by show 6000 ≤ _; decide⟩ rfl ?_
  refine V.icmpeq 1545 dL_1514 rfl rfl (fun _ => kk σ2 hI2) (fun g => absurd rfl g)
theorem lwc_keep {E : Ev} {b L : Nat} {xs : Nat → Int32} {I : St → Prop} {σ : St} {i : Int32} (HS : St_keep I) (hI : I σ) (h1 : ib (i + (1 : Int32)) L = true) (h2 : ib (i + (2 : Int32)) L = true) (h3 : ib (i + (3 : Int32)) L = true) (h4 : ib (i + (4 : Int32)) L = true) (kk : ∀ τ, I τ → V E mL (FLw b L xs E) 1545 [(0, .ref 200), (1, .ref 0), (2, .ref 44), (3, .int i)] [] τ) : V E mL (FLw b L xs E) 1519 [(0, .ref 200), (1, .ref 0), (2, .ref 44), (3, .int i)] [] σ := by
  obtain ⟨r, σ1, σ2, e1, e2, hI2⟩ := HS σ hI
  refine V.aloadn 1 dL_1519 rfl rfl ?_
  refine V.callvi 0 [] dL_1520 (kE_keep e1) mlL_186 myE_keep mnE_keep ⟨rfl, rfl, by decide, by decide⟩ (rfl : kd 0 = (5, 0)) (by decide) rfl (Nat.le_of_ble_eq_true rfl) ⟨by show 100 ≤ _; decide, by show 6000 ≤ _; decide⟩ rfl ?_
  refine V.aloadn 2 dL_1523 rfl rfl ?_
  refine V.callvi 44 [] dL_1524 (kM_keep e2) mlL_189 myM_keep mnM_keep ⟨rfl, rfl, by decide, by decide⟩ (rfl : kd 44 = (6, 0)) (by decide) rfl (Nat.le_of_ble_eq_true rfl) ⟨by show 100 ≤ _; decide, by show 6000 ≤ _; decide⟩ rfl ?_
  refine V.icmpeq 1545 dL_1527 rfl rfl (fun _ => kk σ2 hI2) (fun g => absurd rfl g)
theorem lwc_again {E : Ev} {b L : Nat} {xs : Nat → Int32} {I : St → Prop} {σ : St} {i : Int32} (HS : St_again I) (hI : I σ) (h1 : ib (i + (1 : Int32)) L = true) (h2 : ib (i + (2 : Int32)) L = true) (h3 : ib (i + (3 : Int32)) L = true) (h4 : ib (i + (4 : Int32)) L = true) (kk : ∀ τ, I τ → V E mL (FLw b L xs E) 1545 [(0, .ref 200), (1, .ref 0), (2, .ref 44), (3, .int i)] [] τ) : V E mL (FLw b L xs E) 1532 [(0, .ref 200), (1, .ref 0), (2, .ref 44), (3, .int i)] [] σ := by
  obtain ⟨r, σ1, σ2, e1, e2, hI2⟩ := HS σ hI
  refine V.aloadn 1 dL_1532 rfl rfl ?_
  refine V.callvi 0 [] dL_1533 (kE_again e1) mlL_190 myE_again mnE_again ⟨rfl, rfl, by decide, by decide⟩ (rfl : kd 0 = (5, 0)) (by decide) rfl (Nat.le_of_ble_eq_true rfl) ⟨by show 100 ≤ _; decide, by show 6000 ≤ _; decide⟩ rfl ?_
  refine V.aloadn 2 dL_1536 rfl rfl ?_
  refine V.callvi 44 [] dL_1537 (kM_again e2) mlL_193 myM_again mnM_again ⟨rfl, rfl, by decide, by decide⟩ (rfl : kd 44 = (6, 0)) (by decide) rfl (Nat.le_of_ble_eq_true rfl) ⟨by show 100 ≤ _; decide, by show 6000 ≤ _; decide⟩ rfl ?_
  refine V.icmpeq 1545 dL_1540 rfl rfl (fun _ => kk σ2 hI2) (fun g => absurd rfl g)
theorem lw_ib {k L : Nat} {j : Nat} {i : Int32} {c : Int32} (hi : i = nI k) (hc : c = nI j) (h : k + j < L) (hL : L ≤ 320) : ib (i + c) L = true := by
  subst hi; subst hc
  rw [nI_add]
  exact ib_in.mpr (vp_in_nI h (by omega))
theorem lw_loop {E : Ev} {b L : Nat} {xs : Nat → Int32} {I : St → Prop} (hL : L ≤ 320) (HS : AllSt I) : ∀ (f k : Nat) (σ : St) (i : Int32), L + 5 ≤ k + f → k ≤ 400 → i = nI k → I σ → V E mL (FLw b L xs E) 18 [(0, .ref 200), (1, .ref 0), (2, .ref 44), (3, .int i)] [] σ := by
  obtain ⟨S0, S1, S2, S3, S4, S5, S6, S7, S8, S9, S10, S11, S12, S13, S14, S15, S16, S17, S18, S19, S20, S21, S22, S23, S24, S25, S26, S27, S28, S29, S30, S31, S32, S33, S34, S35, S36, S37, S38, S39, S40, S41, S42⟩ := HS
  intro f
  induction f with
  | zero =>
    intro k σ i hf hk hi hI
    refine V.iloadn 3 dL_18 rfl rfl ?_
    refine V.aloadn 0 dL_19 rfl rfl ?_
    refine V.slenL dL_20 rfl ?_
    refine V.iconst (5 : Int32) dL_21 lc5 rfl ?_
    refine V.isub dL_22 rfl ?_
    refine V.icmpgt 1551 dL_23 rfl rfl (fun _ => ?_) (fun g => ?_)
    · refine V.iconst (1 : Int32) dL_1551 lc1 rfl ?_
      exact V.lret dL_1552
    · exfalso
      apply g
      rw [hi, Int32.lt_iff_toInt_lt, nI_toInt (by omega)]
      have e : (nI L - 5).toInt = (L : Int) - 5 := pk_sub_toInt (a := L) (b := 5) (by omega) (by omega)
      rw [e]
      omega
  | succ f ih =>
    intro k σ i hf hk hi hI
    refine V.iloadn 3 dL_18 rfl rfl ?_
    refine V.aloadn 0 dL_19 rfl rfl ?_
    refine V.slenL dL_20 rfl ?_
    refine V.iconst (5 : Int32) dL_21 lc5 rfl ?_
    refine V.isub dL_22 rfl ?_
    refine V.icmpgt 1551 dL_23 rfl rfl (fun _ => ?_) (fun g => ?_)
    · refine V.iconst (1 : Int32) dL_1551 lc1 rfl ?_
      exact V.lret dL_1552
    have e : (nI L - 5).toInt = (L : Int) - 5 := pk_sub_toInt (a := L) (b := 5) (by omega) (by omega)
    rw [hi, Int32.lt_iff_toInt_lt, nI_toInt (by omega), e] at g
    have hkL : k + 5 ≤ L := by omega
    have h0 : ib i L = true := by rw [hi]; exact ib_in.mpr (vp_in_nI (by omega) (by omega))
    have h1 : ib (i + (1 : Int32)) L = true := lw_ib (j := 1) hi rfl (by omega) hL
    have h2 : ib (i + (2 : Int32)) L = true := lw_ib (j := 2) hi rfl (by omega) hL
    have h3 : ib (i + (3 : Int32)) L = true := lw_ib (j := 3) hi rfl (by omega) hL
    have h4 : ib (i + (4 : Int32)) L = true := lw_ib (j := 4) hi rfl (by omega) hL
    have kk : ∀ σ', I σ' → V E mL (FLw b L xs E) 1545 [(0, .ref 200), (1, .ref 0), (2, .ref 44), (3, .int i)] [] σ' := by
      intro σ' hI'
      refine V.iinc 3 (5 : Int32) _ dL_1545 rfl lc5 (by decide) rfl rfl ?_
      refine V.goto 18 dL_1548 rfl ?_
      refine V.sub [1, 2, 3, 0] rfl ?_
      exact ih (k + 5) σ' _ (by omega) (by omega) (by rw [hi]; exact nI_add k 5) hI'
    refine V.aloadn 0 dL_26 rfl rfl ?_
    refine V.iloadn 3 dL_27 rfl rfl ?_
    refine V.sld dL_28 h0 rfl ?_
    refine V.bipush (63 : Int32) dL_29 (by decide) rfl ?_
    refine V.iand dL_31 rfl ?_
    generalize xs (ix i) &&& (63 : Int32) = w
    by_cases g0 : w = (0 : Int32)
    · exact V.tabIn (off := 188) 220 dL_32 (by rw [g0]; decide) (by rw [g0]; decide) (by rw [g0]; rfl) rfl (lwc_feed S0 hI h1 h2 h3 h4 kk)
    by_cases g1 : w = (1 : Int32)
    · exact V.tabIn (off := 251) 283 dL_32 (by rw [g1]; decide) (by rw [g1]; decide) (by rw [g1]; rfl) rfl (lwc_town S1 hI h1 h2 h3 h4 kk)
    by_cases g2 : w = (2 : Int32)
    · exact V.tabIn (off := 264) 296 dL_32 (by rw [g2]; decide) (by rw [g2]; decide) (by rw [g2]; rfl) rfl (lwc_person S2 hI h1 h2 h3 h4 kk)
    by_cases g3 : w = (3 : Int32)
    · exact V.tabIn (off := 287) 319 dL_32 (by rw [g3]; decide) (by rw [g3]; decide) (by rw [g3]; rfl) rfl (lwc_personOf S3 hI h1 h2 h3 h4 kk)
    by_cases g4 : w = (4 : Int32)
    · exact V.tabIn (off := 320) 352 dL_32 (by rw [g4]; decide) (by rw [g4]; decide) (by rw [g4]; rfl) rfl (lwc_rank S4 hI h1 h2 h3 h4 kk)
    by_cases g5 : w = (5 : Int32)
    · exact V.tabIn (off := 353) 385 dL_32 (by rw [g5]; decide) (by rw [g5]; decide) (by rw [g5]; rfl) rfl (lwc_know S5 hI h1 h2 h3 h4 kk)
    by_cases g6 : w = (6 : Int32)
    · exact V.tabIn (off := 412) 444 dL_32 (by rw [g6]; decide) (by rw [g6]; decide) (by rw [g6]; rfl) rfl (lwc_coin S6 hI h1 h2 h3 h4 kk)
    by_cases g7 : w = (7 : Int32)
    · exact V.tabIn (off := 455) 487 dL_32 (by rw [g7]; decide) (by rw [g7]; decide) (by rw [g7]; rfl) rfl (lwc_coinOf S7 hI h1 h2 h3 h4 kk)
    by_cases g8 : w = (8 : Int32)
    · exact V.tabIn (off := 488) 520 dL_32 (by rw [g8]; decide) (by rw [g8]; decide) (by rw [g8]; rfl) rfl (lwc_stamp S8 hI h1 h2 h3 h4 kk)
    by_cases g9 : w = (9 : Int32)
    · exact V.tabIn (off := 531) 563 dL_32 (by rw [g9]; decide) (by rw [g9]; decide) (by rw [g9]; rfl) rfl (lwc_clean S9 hI h1 h2 h3 h4 kk)
    by_cases g10 : w = (10 : Int32)
    · exact V.tabIn (off := 554) 586 dL_32 (by rw [g10]; decide) (by rw [g10]; decide) (by rw [g10]; rfl) rfl (lwc_may S10 hI h1 h2 h3 h4 kk)
    by_cases g11 : w = (11 : Int32)
    · exact V.tabIn (off := 587) 619 dL_32 (by rw [g11]; decide) (by rw [g11]; decide) (by rw [g11]; rfl) rfl (lwc_give S11 hI h1 h2 h3 h4 kk)
    by_cases g12 : w = (12 : Int32)
    · exact V.tabIn (off := 620) 652 dL_32 (by rw [g12]; decide) (by rw [g12]; decide) (by rw [g12]; rfl) rfl (lwc_lot S12 hI h1 h2 h3 h4 kk)
    by_cases g13 : w = (13 : Int32)
    · exact V.tabIn (off := 643) 675 dL_32 (by rw [g13]; decide) (by rw [g13]; decide) (by rw [g13]; rfl) rfl (lwc_lots S13 hI h1 h2 h3 h4 kk)
    by_cases g14 : w = (14 : Int32)
    · exact V.tabIn (off := 666) 698 dL_32 (by rw [g14]; decide) (by rw [g14]; decide) (by rw [g14]; rfl) rfl (lwc_melt S14 hI h1 h2 h3 h4 kk)
    by_cases g15 : w = (15 : Int32)
    · exact V.tabIn (off := 689) 721 dL_32 (by rw [g15]; decide) (by rw [g15]; decide) (by rw [g15]; rfl) rfl (lwc_left S15 hI h1 h2 h3 h4 kk)
    by_cases g16 : w = (16 : Int32)
    · exact V.tabIn (off := 712) 744 dL_32 (by rw [g16]; decide) (by rw [g16]; decide) (by rw [g16]; rfl) rfl (lwc_row S16 hI h1 h2 h3 h4 kk)
    by_cases g17 : w = (17 : Int32)
    · exact V.tabIn (off := 745) 777 dL_32 (by rw [g17]; decide) (by rw [g17]; decide) (by rw [g17]; rfl) rfl (lwc_through S17 hI h1 h2 h3 h4 kk)
    by_cases g18 : w = (18 : Int32)
    · exact V.tabIn (off := 768) 800 dL_32 (by rw [g18]; decide) (by rw [g18]; decide) (by rw [g18]; rfl) rfl (lwc_ways S18 hI h1 h2 h3 h4 kk)
    by_cases g19 : w = (19 : Int32)
    · exact V.tabIn (off := 791) 823 dL_32 (by rw [g19]; decide) (by rw [g19]; decide) (by rw [g19]; rfl) rfl (lwc_last S19 hI h1 h2 h3 h4 kk)
    by_cases g20 : w = (20 : Int32)
    · exact V.tabIn (off := 814) 846 dL_32 (by rw [g20]; decide) (by rw [g20]; decide) (by rw [g20]; rfl) rfl (lwc_stuck S20 hI h1 h2 h3 h4 kk)
    by_cases g21 : w = (21 : Int32)
    · exact V.tabIn (off := 827) 859 dL_32 (by rw [g21]; decide) (by rw [g21]; decide) (by rw [g21]; rfl) rfl (lwc_best S21 hI h1 h2 h3 h4 kk)
    by_cases g22 : w = (22 : Int32)
    · exact V.tabIn (off := 860) 892 dL_32 (by rw [g22]; decide) (by rw [g22]; decide) (by rw [g22]; rfl) rfl (lwc_paid S22 hI h1 h2 h3 h4 kk)
    by_cases g23 : w = (23 : Int32)
    · exact V.tabIn (off := 903) 935 dL_32 (by rw [g23]; decide) (by rw [g23]; decide) (by rw [g23]; rfl) rfl (lwc_friend S23 hI h1 h2 h3 h4 kk)
    by_cases g24 : w = (24 : Int32)
    · exact V.tabIn (off := 926) 958 dL_32 (by rw [g24]; decide) (by rw [g24]; decide) (by rw [g24]; rfl) rfl (lwc_heir S24 hI h1 h2 h3 h4 kk)
    by_cases g25 : w = (25 : Int32)
    · exact V.tabIn (off := 959) 991 dL_32 (by rw [g25]; decide) (by rw [g25]; decide) (by rw [g25]; rfl) rfl (lwc_least S25 hI h1 h2 h3 h4 kk)
    by_cases g26 : w = (26 : Int32)
    · exact V.tabIn (off := 972) 1004 dL_32 (by rw [g26]; decide) (by rw [g26]; decide) (by rw [g26]; rfl) rfl (lwc_all S26 hI h1 h2 h3 h4 kk)
    by_cases g27 : w = (27 : Int32)
    · exact V.tabIn (off := 995) 1027 dL_32 (by rw [g27]; decide) (by rw [g27]; decide) (by rw [g27]; rfl) rfl (lwc_seed S27 hI h1 h2 h3 h4 kk)
    by_cases g28 : w = (28 : Int32)
    · exact V.tabIn (off := 1018) 1050 dL_32 (by rw [g28]; decide) (by rw [g28]; decide) (by rw [g28]; rfl) rfl (lwc_prove S28 hI h1 h2 h3 h4 kk)
    by_cases g29 : w = (29 : Int32)
    · exact V.tabIn (off := 1041) 1073 dL_32 (by rw [g29]; decide) (by rw [g29]; decide) (by rw [g29]; rfl) rfl (lwc_rowOf S29 hI h1 h2 h3 h4 kk)
    by_cases g30 : w = (30 : Int32)
    · exact V.tabIn (off := 1074) 1106 dL_32 (by rw [g30]; decide) (by rw [g30]; decide) (by rw [g30]; rfl) rfl (lwc_alterRow S30 hI h1 h2 h3 h4 kk)
    by_cases g31 : w = (31 : Int32)
    · exact V.tabIn (off := 1117) 1149 dL_32 (by rw [g31]; decide) (by rw [g31]; decide) (by rw [g31]; rfl) rfl (lwc_judge S31 hI h1 h2 h3 h4 kk)
    by_cases g32 : w = (32 : Int32)
    · exact V.tabIn (off := 1140) 1172 dL_32 (by rw [g32]; decide) (by rw [g32]; decide) (by rw [g32]; rfl) rfl (lwc_ranks S32 hI h1 h2 h3 h4 kk)
    by_cases g33 : w = (33 : Int32)
    · exact V.tabIn (off := 1193) 1225 dL_32 (by rw [g33]; decide) (by rw [g33]; decide) (by rw [g33]; rfl) rfl (lwc_sheet S33 hI h1 h2 h3 h4 kk)
    by_cases g34 : w = (34 : Int32)
    · exact V.tabIn (off := 1236) 1268 dL_32 (by rw [g34]; decide) (by rw [g34]; decide) (by rw [g34]; rfl) rfl (lwc_put S34 hI h1 h2 h3 h4 kk)
    by_cases g35 : w = (35 : Int32)
    · exact V.tabIn (off := 1279) 1311 dL_32 (by rw [g35]; decide) (by rw [g35]; decide) (by rw [g35]; rfl) rfl (lwc_item S35 hI h1 h2 h3 h4 kk)
    by_cases g36 : w = (36 : Int32)
    · exact V.tabIn (off := 1322) 1354 dL_32 (by rw [g36]; decide) (by rw [g36]; decide) (by rw [g36]; rfl) rfl (lwc_shelf S36 hI h1 h2 h3 h4 kk)
    by_cases g37 : w = (37 : Int32)
    · exact V.tabIn (off := 1365) 1397 dL_32 (by rw [g37]; decide) (by rw [g37]; decide) (by rw [g37]; rfl) rfl (lwc_taken S37 hI h1 h2 h3 h4 kk)
    by_cases g38 : w = (38 : Int32)
    · exact V.tabIn (off := 1398) 1430 dL_32 (by rw [g38]; decide) (by rw [g38]; decide) (by rw [g38]; rfl) rfl (lwc_act S38 hI h1 h2 h3 h4 kk)
    by_cases g39 : w = (39 : Int32)
    · exact V.tabIn (off := 1441) 1473 dL_32 (by rw [g39]; decide) (by rw [g39]; decide) (by rw [g39]; rfl) rfl (lwc_trace S39 hI h1 h2 h3 h4 kk)
    by_cases g40 : w = (40 : Int32)
    · exact V.tabIn (off := 1464) 1496 dL_32 (by rw [g40]; decide) (by rw [g40]; decide) (by rw [g40]; rfl) rfl (lwc_many S40 hI h1 h2 h3 h4 kk)
    by_cases g41 : w = (41 : Int32)
    · exact V.tabIn (off := 1487) 1519 dL_32 (by rw [g41]; decide) (by rw [g41]; decide) (by rw [g41]; rfl) rfl (lwc_keep S41 hI h1 h2 h3 h4 kk)
    by_cases g42 : w = (42 : Int32)
    · exact V.tabIn (off := 1500) 1532 dL_32 (by rw [g42]; decide) (by rw [g42]; decide) (by rw [g42]; rfl) rfl (lwc_again S42 hI h1 h2 h3 h4 kk)
    refine V.tabOut 1545 dL_32 ?_ rfl (kk σ hI)
    have a0 := lv_neT g0 (a := 0) (by decide)
    have a1 := lv_neT g1 (a := 1) (by decide)
    have a2 := lv_neT g2 (a := 2) (by decide)
    have a3 := lv_neT g3 (a := 3) (by decide)
    have a4 := lv_neT g4 (a := 4) (by decide)
    have a5 := lv_neT g5 (a := 5) (by decide)
    have a6 := lv_neT g6 (a := 6) (by decide)
    have a7 := lv_neT g7 (a := 7) (by decide)
    have a8 := lv_neT g8 (a := 8) (by decide)
    have a9 := lv_neT g9 (a := 9) (by decide)
    have a10 := lv_neT g10 (a := 10) (by decide)
    have a11 := lv_neT g11 (a := 11) (by decide)
    have a12 := lv_neT g12 (a := 12) (by decide)
    have a13 := lv_neT g13 (a := 13) (by decide)
    have a14 := lv_neT g14 (a := 14) (by decide)
    have a15 := lv_neT g15 (a := 15) (by decide)
    have a16 := lv_neT g16 (a := 16) (by decide)
    have a17 := lv_neT g17 (a := 17) (by decide)
    have a18 := lv_neT g18 (a := 18) (by decide)
    have a19 := lv_neT g19 (a := 19) (by decide)
    have a20 := lv_neT g20 (a := 20) (by decide)
    have a21 := lv_neT g21 (a := 21) (by decide)
    have a22 := lv_neT g22 (a := 22) (by decide)
    have a23 := lv_neT g23 (a := 23) (by decide)
    have a24 := lv_neT g24 (a := 24) (by decide)
    have a25 := lv_neT g25 (a := 25) (by decide)
    have a26 := lv_neT g26 (a := 26) (by decide)
    have a27 := lv_neT g27 (a := 27) (by decide)
    have a28 := lv_neT g28 (a := 28) (by decide)
    have a29 := lv_neT g29 (a := 29) (by decide)
    have a30 := lv_neT g30 (a := 30) (by decide)
    have a31 := lv_neT g31 (a := 31) (by decide)
    have a32 := lv_neT g32 (a := 32) (by decide)
    have a33 := lv_neT g33 (a := 33) (by decide)
    have a34 := lv_neT g34 (a := 34) (by decide)
    have a35 := lv_neT g35 (a := 35) (by decide)
    have a36 := lv_neT g36 (a := 36) (by decide)
    have a37 := lv_neT g37 (a := 37) (by decide)
    have a38 := lv_neT g38 (a := 38) (by decide)
    have a39 := lv_neT g39 (a := 39) (by decide)
    have a40 := lv_neT g40 (a := 40) (by decide)
    have a41 := lv_neT g41 (a := 41) (by decide)
    have a42 := lv_neT g42 (a := 42) (by decide)
    omega
