/-! THE CLAIM OUT OF ONE WALK OF THE LAW'S BODY. Your part is whole_start (and what it stands on); all else here is the same for every law, but numbers. -/
def R_law : String := "QuorumGateLaw"
def lw_P (b : Addr) (xs : List Int32) (args : Array Value) (s : State) : Prop := args = #[.ref b] ∧ s.IntsAt b xs ∧ xs.length ≤ 2048 ∧ (Jvm.Cond.and given_1 narrow_1).before args s = true
/-- what a walk over the start with the record d0 says of its end, said of the start itself -/
theorem lw_closed {s t : State} {o : Outcome} {d0 : Drawn} {L : List Loc} {k n : Nat} (hd0 : s.drawn.sameBut d0 lw_cs) (hv : ∃ v, o = .returned v) (hW : (s.setDrawn d0).WarmedH t.vm) (hs : (s.setDrawn d0).sameButNew ({ t with vm := s.vm } : State) L k n) : State.butDraws s t lw_cs (fun t1 => Framed s o t1 L k n) := by
  have h2 : t.drawn = d0 := congrArg State.drawn hs.1
  refine ⟨⟨hv, hW, State.sameButNew.setDrawn hs s.drawn⟩, ?_, by decide⟩
  rw [h2]
  exact hd0
def lw_Q (_ : Array Value) (s : State) (o : Outcome) (t : State) : Prop := o = .returned (some (.int 1)) ∧ State.butDraws s t lw_cs (fun t1 => Framed s o t1 [] 600000 7302250)
def lw_Z (below : List Frame) (a : Array Value) (s : State) : State → Prop := fun t => ∃ o, t.status = .running ∧ Ended t below o ∧ lw_Q a s o t
/-- the law's own end, with 1 on the stack, nothing written that was there before, its room as the claim has it; d0: the record of draws at this point (at the entry s.drawn: begin with 'refine W.base ?_' and 'have hd0 := Drawn.sameBut.refl s.drawn lw_cs') -/
theorem lw_ret {p : Program} {l : Launch} {e : Env} {s : State} {m : MethodId} {below : List Frame} {meth : Method} {c : Code} {b : Nat} {d0 : Drawn} (hd0 : s.drawn.sameBut d0 lw_cs) (hx : p.tables.exec = Jvm.exec) (hb : c.code = code) (hr : meth.sig.returnType = ret) (hlocks : meth.locks = false) {pc : Nat} {H : Heap} {ls : Array Slot} (hdg : decode code pc = .ok (.ireturn, 1)) : W p l e room_1 (s.setDrawn d0) m #[Value.ref b] below meth c H [] 600000 7302250 (lw_Z below #[Value.ref b] s) (F0 m pc ls [.int 1]) := by
  intro T hT X
  obtain ⟨fs, hret, hrun, hended, hW, hframe⟩ := X.leave (v := some (.int 1)) (hlocks := hlocks) (fun h => by rw [hr] at h; cases h)
  have hmeth' : T.vm.method? m = some meth := X.method'
  refine ⟨T.setFrames fs, ?_, .returned (some (.int 1)), hrun, hended, rfl, lw_closed hd0 ⟨_, rfl⟩ hW hframe⟩
  jvm_step X.here [X.here.top, hx, hb, hdg, hmeth', hr, ret, narrow_b1]
  (try refine ⟨rfl, ?_⟩); (try refine ⟨rfl, ?_⟩)
  first | (intro acts; rw [hret _ acts rfl rfl rfl]) | rw [hret _ _ rfl rfl rfl]
  exact Steps.refl _
/-- what holds at the law's entry: the machine, the code, the tables' words (any of lw_tbl by 'hts w (by decide +kernel)'), the script of L ints xs at the cell b, what the Statement gives of the start (any of its parts by flat_of_before) -/
def lw_At (p : Program) (s : State) (m : MethodId) (meth : Method) (c : Code) (b L : Nat) (xs : Nat → Int32) : Prop :=
  p.tables.exec = Jvm.exec ∧ c.code = code ∧ meth.sig.returnType = ret ∧ c.maxLocals = 4 ∧ s.vm.findClass R_law = some m.cls ∧ (∀ w ∈ lw_tbl, w.before #[Value.ref b] s = true) ∧ va_X b L xs s s.heap ∧ b < s.heap.size ∧ meth.locks = false ∧ (Jvm.Cond.and given_1 narrow_1).before #[Value.ref b] s = true
def LawB (s0 : State) (d0 : Drawn) (s : State) (b L : Nat) (xs : Nat → Int32) (G : Gam) (M0 : Mem) : Prop := va_X b L xs s s.heap ∧ b < s.heap.size ∧ ¬ gA G b ∧ s0.drawn.sameBut d0 lw_cs ∧ s = s0.setDrawn d0 ∧ mN M0 = 0 ∧ mU M0 = 0
section
variable {p : Program} {l : Launch} {e : Env} {R : Room} {s s0 : State} {d0 : Drawn} {m : MethodId} {args : Array Value} {below : List Frame} {meth : Method} {c : Code} {Q : State → Prop} {b L : Nat} {xs : Nat → Int32}
variable {G : Gam} {M0 M : Mem} {cc : ByteArray} {own : String} {nL fr lo pc : Nat} {vs : List (Nat × Value)} {st : List Value}
theorem pk_01 {M M1 : Mem} (h : some ((0 : Int32), M) = some ((1 : Int32), M1)) : False := by
  have h1 : (0 : Int32) = 1 := congrArg Prod.fst (Option.some.inj h)
  exact absurd h1 (by decide)
theorem s_sld (X : Cx p R s m args c G M0 cc own nL fr lo) (hX : va_X b L xs s s.heap) (hbl : b < s.heap.size) (hbA : ¬ gA G b) {i : Int32} (hin : vp_in i L) (hd : decode cc pc = .ok (.iaload, 1)) (k : Sg p l e R s m args below meth c Q G M0 nL (pc + 1) vs (.int (xs i.toNatClampNeg) :: st) M) : Sg p l e R s m args below meth c Q G M0 nL pc vs (.int i :: .ref b :: st) M :=
  fun hk H locs ls hl hP hS => va_sld X.1 X.2.1 hX hbl hbA hS hin hd (k hk H locs ls hl hP hS)
theorem s_slen (X : Cx p R s m args c G M0 cc own nL fr lo) (hX : va_X b L xs s s.heap) (hbl : b < s.heap.size) (hbA : ¬ gA G b) (hd : decode cc pc = .ok (.arraylength, 1)) (k : Sg p l e R s m args below meth c Q G M0 nL (pc + 1) vs (.int (Int32.ofNat L) :: st) M) : Sg p l e R s m args below meth c Q G M0 nL pc vs (.ref b :: st) M :=
  fun hk H locs ls hl hP hS => va_slen X.1 X.2.1 hX hbl hbA hS hd (k hk H locs ls hl hP hS)
theorem s_lawret (X : Cx p room_1 s m #[Value.ref b] c G M0 code own nL fr lo) (hr : meth.sig.returnType = ret) (hlk : meth.locks = false) (hB : LawB s0 d0 s b L xs G M0) (hd : decode code pc = .ok (.ireturn, 1)) : Sg p l e room_1 s m #[Value.ref b] below meth c (lw_Z below #[Value.ref b] s0) G M0 nL pc vs [.int 1] M := by
  intro hk H locs ls hl hP hS
  obtain ⟨-, -, -, hd0, hs, hn, hu⟩ := hB
  obtain ⟨-, -, h3, h4⟩ := hk
  simp only [CAP, CAPU] at h3 h4
  have hz := X.2.2.2.2.2.2.2.2
  rw [hn] at hz
  subst hs
  refine W.widen (k := 600000) (n := 7302250) (by omega) (by omega) (va_forget (fun q hq => ?_) (lw_ret hd0 X.1 X.2.1 hr hlk hd))
  have h5 := hS.2.2 q hq
  have h6 : gB G ≤ q.base := h5
  omega
end
theorem dL_law_0 : decode cL_law 0 = .ok (.new 7, 3) := by decide +kernel
theorem dL_law_3 : decode cL_law 3 = .ok (.dup, 1) := by decide +kernel
theorem dL_law_4 : decode cL_law 4 = .ok (.invokespecial 9, 3) := by decide +kernel
theorem dL_law_7 : decode cL_law 7 = .ok (.astore_n 1, 1) := by decide +kernel
theorem dL_law_8 : decode cL_law 8 = .ok (.new 10, 3) := by decide +kernel
theorem dL_law_11 : decode cL_law 11 = .ok (.dup, 1) := by decide +kernel
theorem dL_law_12 : decode cL_law 12 = .ok (.invokespecial 12, 3) := by decide +kernel
theorem dL_law_15 : decode cL_law 15 = .ok (.astore_n 2, 1) := by decide +kernel
theorem dL_law_16 : decode cL_law 16 = .ok (.iconst 0, 1) := by decide +kernel
theorem dL_law_17 : decode cL_law 17 = .ok (.istore_n 3, 1) := by decide +kernel
theorem dL_law_18 : decode cL_law 18 = .ok (.iload_n 3, 1) := by decide +kernel
theorem dL_law_19 : decode cL_law 19 = .ok (.aload_n 0, 1) := by decide +kernel
theorem dL_law_20 : decode cL_law 20 = .ok (.arraylength, 1) := by decide +kernel
theorem dL_law_21 : decode cL_law 21 = .ok (.iconst 4, 1) := by decide +kernel
theorem dL_law_22 : decode cL_law 22 = .ok (.isub, 1) := by decide +kernel
theorem dL_law_23 : decode cL_law 23 = .ok (.if_icmp .gt 1554, 3) := by decide +kernel
theorem dL_law_26 : decode cL_law 26 = .ok (.aload_n 0, 1) := by decide +kernel
theorem dL_law_27 : decode cL_law 27 = .ok (.iload_n 3, 1) := by decide +kernel
theorem dL_law_28 : decode cL_law 28 = .ok (.iaload, 1) := by decide +kernel
theorem dL_law_29 : decode cL_law 29 = .ok (.bipush 63, 2) := by decide +kernel
theorem dL_law_31 : decode cL_law 31 = .ok (.iand, 1) := by decide +kernel
theorem dL_law_32 : decode cL_law 32 = .ok (.tableswitch 1539 0 48 #[212, 235, 258, 281, 304, 327, 350, 383, 416, 449, 482, 495, 518, 541, 564, 577, 600, 633, 656, 679, 692, 705, 728, 751, 784, 807, 830, 853, 886, 919, 962, 1005, 1028, 1051, 1074, 1107, 1130, 1153, 1176, 1209, 1242, 1275, 1308, 1351, 1394, 1437, 1470, 1513, 1526], 212) := by decide +kernel
theorem dL_law_244 : decode cL_law 244 = .ok (.aload_n 1, 1) := by decide +kernel
theorem dL_law_245 : decode cL_law 245 = .ok (.aload_n 0, 1) := by decide +kernel
theorem dL_law_246 : decode cL_law 246 = .ok (.iload_n 3, 1) := by decide +kernel
theorem dL_law_247 : decode cL_law 247 = .ok (.iconst 1, 1) := by decide +kernel
theorem dL_law_248 : decode cL_law 248 = .ok (.iadd, 1) := by decide +kernel
theorem dL_law_249 : decode cL_law 249 = .ok (.iaload, 1) := by decide +kernel
theorem dL_law_250 : decode cL_law 250 = .ok (.invokevirtual 13, 3) := by decide +kernel
theorem dL_law_253 : decode cL_law 253 = .ok (.pop, 1) := by decide +kernel
theorem dL_law_254 : decode cL_law 254 = .ok (.aload_n 2, 1) := by decide +kernel
theorem dL_law_255 : decode cL_law 255 = .ok (.aload_n 0, 1) := by decide +kernel
theorem dL_law_256 : decode cL_law 256 = .ok (.iload_n 3, 1) := by decide +kernel
theorem dL_law_257 : decode cL_law 257 = .ok (.iconst 1, 1) := by decide +kernel
theorem dL_law_258 : decode cL_law 258 = .ok (.iadd, 1) := by decide +kernel
theorem dL_law_259 : decode cL_law 259 = .ok (.iaload, 1) := by decide +kernel
theorem dL_law_260 : decode cL_law 260 = .ok (.invokevirtual 17, 3) := by decide +kernel
theorem dL_law_263 : decode cL_law 263 = .ok (.pop, 1) := by decide +kernel
theorem dL_law_264 : decode cL_law 264 = .ok (.goto 1307, 3) := by decide +kernel
theorem dL_law_267 : decode cL_law 267 = .ok (.aload_n 1, 1) := by decide +kernel
theorem dL_law_268 : decode cL_law 268 = .ok (.aload_n 0, 1) := by decide +kernel
theorem dL_law_269 : decode cL_law 269 = .ok (.iload_n 3, 1) := by decide +kernel
theorem dL_law_270 : decode cL_law 270 = .ok (.iconst 1, 1) := by decide +kernel
theorem dL_law_271 : decode cL_law 271 = .ok (.iadd, 1) := by decide +kernel
theorem dL_law_272 : decode cL_law 272 = .ok (.iaload, 1) := by decide +kernel
theorem dL_law_273 : decode cL_law 273 = .ok (.invokevirtual 18, 3) := by decide +kernel
theorem dL_law_276 : decode cL_law 276 = .ok (.pop, 1) := by decide +kernel
theorem dL_law_277 : decode cL_law 277 = .ok (.aload_n 2, 1) := by decide +kernel
theorem dL_law_278 : decode cL_law 278 = .ok (.aload_n 0, 1) := by decide +kernel
theorem dL_law_279 : decode cL_law 279 = .ok (.iload_n 3, 1) := by decide +kernel
theorem dL_law_280 : decode cL_law 280 = .ok (.iconst 1, 1) := by decide +kernel
theorem dL_law_281 : decode cL_law 281 = .ok (.iadd, 1) := by decide +kernel
theorem dL_law_282 : decode cL_law 282 = .ok (.iaload, 1) := by decide +kernel
theorem dL_law_283 : decode cL_law 283 = .ok (.invokevirtual 21, 3) := by decide +kernel
theorem dL_law_286 : decode cL_law 286 = .ok (.pop, 1) := by decide +kernel
theorem dL_law_287 : decode cL_law 287 = .ok (.goto 1284, 3) := by decide +kernel
theorem dL_law_290 : decode cL_law 290 = .ok (.aload_n 1, 1) := by decide +kernel
theorem dL_law_291 : decode cL_law 291 = .ok (.aload_n 0, 1) := by decide +kernel
theorem dL_law_292 : decode cL_law 292 = .ok (.iload_n 3, 1) := by decide +kernel
theorem dL_law_293 : decode cL_law 293 = .ok (.iconst 1, 1) := by decide +kernel
theorem dL_law_294 : decode cL_law 294 = .ok (.iadd, 1) := by decide +kernel
theorem dL_law_295 : decode cL_law 295 = .ok (.iaload, 1) := by decide +kernel
theorem dL_law_296 : decode cL_law 296 = .ok (.invokevirtual 22, 3) := by decide +kernel
theorem dL_law_299 : decode cL_law 299 = .ok (.aload_n 2, 1) := by decide +kernel
theorem dL_law_300 : decode cL_law 300 = .ok (.aload_n 0, 1) := by decide +kernel
theorem dL_law_301 : decode cL_law 301 = .ok (.iload_n 3, 1) := by decide +kernel
theorem dL_law_302 : decode cL_law 302 = .ok (.iconst 1, 1) := by decide +kernel
theorem dL_law_303 : decode cL_law 303 = .ok (.iadd, 1) := by decide +kernel
theorem dL_law_304 : decode cL_law 304 = .ok (.iaload, 1) := by decide +kernel
theorem dL_law_305 : decode cL_law 305 = .ok (.invokevirtual 25, 3) := by decide +kernel
theorem dL_law_308 : decode cL_law 308 = .ok (.if_icmp .eq 1263, 3) := by decide +kernel
theorem dL_law_311 : decode cL_law 311 = .ok (.iconst 0, 1) := by decide +kernel
theorem dL_law_312 : decode cL_law 312 = .ok (.ireturn, 1) := by decide +kernel
theorem dL_law_313 : decode cL_law 313 = .ok (.aload_n 1, 1) := by decide +kernel
theorem dL_law_314 : decode cL_law 314 = .ok (.aload_n 0, 1) := by decide +kernel
theorem dL_law_315 : decode cL_law 315 = .ok (.iload_n 3, 1) := by decide +kernel
theorem dL_law_316 : decode cL_law 316 = .ok (.iconst 1, 1) := by decide +kernel
theorem dL_law_317 : decode cL_law 317 = .ok (.iadd, 1) := by decide +kernel
theorem dL_law_318 : decode cL_law 318 = .ok (.iaload, 1) := by decide +kernel
theorem dL_law_319 : decode cL_law 319 = .ok (.invokevirtual 26, 3) := by decide +kernel
theorem dL_law_322 : decode cL_law 322 = .ok (.pop, 1) := by decide +kernel
theorem dL_law_323 : decode cL_law 323 = .ok (.aload_n 2, 1) := by decide +kernel
theorem dL_law_324 : decode cL_law 324 = .ok (.aload_n 0, 1) := by decide +kernel
theorem dL_law_325 : decode cL_law 325 = .ok (.iload_n 3, 1) := by decide +kernel
theorem dL_law_326 : decode cL_law 326 = .ok (.iconst 1, 1) := by decide +kernel
theorem dL_law_327 : decode cL_law 327 = .ok (.iadd, 1) := by decide +kernel
theorem dL_law_328 : decode cL_law 328 = .ok (.iaload, 1) := by decide +kernel
theorem dL_law_329 : decode cL_law 329 = .ok (.invokevirtual 29, 3) := by decide +kernel
theorem dL_law_332 : decode cL_law 332 = .ok (.pop, 1) := by decide +kernel
theorem dL_law_333 : decode cL_law 333 = .ok (.goto 1238, 3) := by decide +kernel
theorem dL_law_336 : decode cL_law 336 = .ok (.aload_n 1, 1) := by decide +kernel
theorem dL_law_337 : decode cL_law 337 = .ok (.aload_n 0, 1) := by decide +kernel
theorem dL_law_338 : decode cL_law 338 = .ok (.iload_n 3, 1) := by decide +kernel
theorem dL_law_339 : decode cL_law 339 = .ok (.iconst 1, 1) := by decide +kernel
theorem dL_law_340 : decode cL_law 340 = .ok (.iadd, 1) := by decide +kernel
theorem dL_law_341 : decode cL_law 341 = .ok (.iaload, 1) := by decide +kernel
theorem dL_law_342 : decode cL_law 342 = .ok (.invokevirtual 30, 3) := by decide +kernel
theorem dL_law_345 : decode cL_law 345 = .ok (.pop, 1) := by decide +kernel
theorem dL_law_346 : decode cL_law 346 = .ok (.aload_n 2, 1) := by decide +kernel
theorem dL_law_347 : decode cL_law 347 = .ok (.aload_n 0, 1) := by decide +kernel
theorem dL_law_348 : decode cL_law 348 = .ok (.iload_n 3, 1) := by decide +kernel
theorem dL_law_349 : decode cL_law 349 = .ok (.iconst 1, 1) := by decide +kernel
theorem dL_law_350 : decode cL_law 350 = .ok (.iadd, 1) := by decide +kernel
theorem dL_law_351 : decode cL_law 351 = .ok (.iaload, 1) := by decide +kernel
theorem dL_law_352 : decode cL_law 352 = .ok (.invokevirtual 33, 3) := by decide +kernel
theorem dL_law_355 : decode cL_law 355 = .ok (.pop, 1) := by decide +kernel
theorem dL_law_356 : decode cL_law 356 = .ok (.goto 1215, 3) := by decide +kernel
theorem dL_law_359 : decode cL_law 359 = .ok (.aload_n 1, 1) := by decide +kernel
theorem dL_law_360 : decode cL_law 360 = .ok (.aload_n 0, 1) := by decide +kernel
theorem dL_law_361 : decode cL_law 361 = .ok (.iload_n 3, 1) := by decide +kernel
theorem dL_law_362 : decode cL_law 362 = .ok (.iconst 1, 1) := by decide +kernel
theorem dL_law_363 : decode cL_law 363 = .ok (.iadd, 1) := by decide +kernel
theorem dL_law_364 : decode cL_law 364 = .ok (.iaload, 1) := by decide +kernel
theorem dL_law_365 : decode cL_law 365 = .ok (.invokevirtual 34, 3) := by decide +kernel
theorem dL_law_368 : decode cL_law 368 = .ok (.pop, 1) := by decide +kernel
theorem dL_law_369 : decode cL_law 369 = .ok (.aload_n 2, 1) := by decide +kernel
theorem dL_law_370 : decode cL_law 370 = .ok (.aload_n 0, 1) := by decide +kernel
theorem dL_law_371 : decode cL_law 371 = .ok (.iload_n 3, 1) := by decide +kernel
theorem dL_law_372 : decode cL_law 372 = .ok (.iconst 1, 1) := by decide +kernel
theorem dL_law_373 : decode cL_law 373 = .ok (.iadd, 1) := by decide +kernel
theorem dL_law_374 : decode cL_law 374 = .ok (.iaload, 1) := by decide +kernel
theorem dL_law_375 : decode cL_law 375 = .ok (.invokevirtual 37, 3) := by decide +kernel
theorem dL_law_378 : decode cL_law 378 = .ok (.pop, 1) := by decide +kernel
theorem dL_law_379 : decode cL_law 379 = .ok (.goto 1192, 3) := by decide +kernel
theorem dL_law_382 : decode cL_law 382 = .ok (.aload_n 1, 1) := by decide +kernel
theorem dL_law_383 : decode cL_law 383 = .ok (.aload_n 0, 1) := by decide +kernel
theorem dL_law_384 : decode cL_law 384 = .ok (.iload_n 3, 1) := by decide +kernel
theorem dL_law_385 : decode cL_law 385 = .ok (.iconst 1, 1) := by decide +kernel
theorem dL_law_386 : decode cL_law 386 = .ok (.iadd, 1) := by decide +kernel
theorem dL_law_387 : decode cL_law 387 = .ok (.iaload, 1) := by decide +kernel
theorem dL_law_388 : decode cL_law 388 = .ok (.aload_n 0, 1) := by decide +kernel
theorem dL_law_389 : decode cL_law 389 = .ok (.iload_n 3, 1) := by decide +kernel
theorem dL_law_390 : decode cL_law 390 = .ok (.iconst 2, 1) := by decide +kernel
theorem dL_law_391 : decode cL_law 391 = .ok (.iadd, 1) := by decide +kernel
theorem dL_law_392 : decode cL_law 392 = .ok (.iaload, 1) := by decide +kernel
theorem dL_law_393 : decode cL_law 393 = .ok (.invokevirtual 38, 3) := by decide +kernel
theorem dL_law_396 : decode cL_law 396 = .ok (.pop, 1) := by decide +kernel
theorem dL_law_397 : decode cL_law 397 = .ok (.aload_n 2, 1) := by decide +kernel
theorem dL_law_398 : decode cL_law 398 = .ok (.aload_n 0, 1) := by decide +kernel
theorem dL_law_399 : decode cL_law 399 = .ok (.iload_n 3, 1) := by decide +kernel
theorem dL_law_400 : decode cL_law 400 = .ok (.iconst 1, 1) := by decide +kernel
theorem dL_law_401 : decode cL_law 401 = .ok (.iadd, 1) := by decide +kernel
theorem dL_law_402 : decode cL_law 402 = .ok (.iaload, 1) := by decide +kernel
theorem dL_law_403 : decode cL_law 403 = .ok (.aload_n 0, 1) := by decide +kernel
theorem dL_law_404 : decode cL_law 404 = .ok (.iload_n 3, 1) := by decide +kernel
theorem dL_law_405 : decode cL_law 405 = .ok (.iconst 2, 1) := by decide +kernel
theorem dL_law_406 : decode cL_law 406 = .ok (.iadd, 1) := by decide +kernel
theorem dL_law_407 : decode cL_law 407 = .ok (.iaload, 1) := by decide +kernel
theorem dL_law_408 : decode cL_law 408 = .ok (.invokevirtual 42, 3) := by decide +kernel
theorem dL_law_411 : decode cL_law 411 = .ok (.pop, 1) := by decide +kernel
theorem dL_law_412 : decode cL_law 412 = .ok (.goto 1159, 3) := by decide +kernel
theorem dL_law_415 : decode cL_law 415 = .ok (.aload_n 1, 1) := by decide +kernel
theorem dL_law_416 : decode cL_law 416 = .ok (.aload_n 0, 1) := by decide +kernel
theorem dL_law_417 : decode cL_law 417 = .ok (.iload_n 3, 1) := by decide +kernel
theorem dL_law_418 : decode cL_law 418 = .ok (.iconst 1, 1) := by decide +kernel
theorem dL_law_419 : decode cL_law 419 = .ok (.iadd, 1) := by decide +kernel
theorem dL_law_420 : decode cL_law 420 = .ok (.iaload, 1) := by decide +kernel
theorem dL_law_421 : decode cL_law 421 = .ok (.aload_n 0, 1) := by decide +kernel
theorem dL_law_422 : decode cL_law 422 = .ok (.iload_n 3, 1) := by decide +kernel
theorem dL_law_423 : decode cL_law 423 = .ok (.iconst 2, 1) := by decide +kernel
theorem dL_law_424 : decode cL_law 424 = .ok (.iadd, 1) := by decide +kernel
theorem dL_law_425 : decode cL_law 425 = .ok (.iaload, 1) := by decide +kernel
theorem dL_law_426 : decode cL_law 426 = .ok (.invokevirtual 43, 3) := by decide +kernel
theorem dL_law_429 : decode cL_law 429 = .ok (.pop, 1) := by decide +kernel
theorem dL_law_430 : decode cL_law 430 = .ok (.aload_n 2, 1) := by decide +kernel
theorem dL_law_431 : decode cL_law 431 = .ok (.aload_n 0, 1) := by decide +kernel
theorem dL_law_432 : decode cL_law 432 = .ok (.iload_n 3, 1) := by decide +kernel
theorem dL_law_433 : decode cL_law 433 = .ok (.iconst 1, 1) := by decide +kernel
theorem dL_law_434 : decode cL_law 434 = .ok (.iadd, 1) := by decide +kernel
theorem dL_law_435 : decode cL_law 435 = .ok (.iaload, 1) := by decide +kernel
theorem dL_law_436 : decode cL_law 436 = .ok (.aload_n 0, 1) := by decide +kernel
theorem dL_law_437 : decode cL_law 437 = .ok (.iload_n 3, 1) := by decide +kernel
theorem dL_law_438 : decode cL_law 438 = .ok (.iconst 2, 1) := by decide +kernel
theorem dL_law_439 : decode cL_law 439 = .ok (.iadd, 1) := by decide +kernel
theorem dL_law_440 : decode cL_law 440 = .ok (.iaload, 1) := by decide +kernel
theorem dL_law_441 : decode cL_law 441 = .ok (.invokevirtual 46, 3) := by decide +kernel
theorem dL_law_444 : decode cL_law 444 = .ok (.pop, 1) := by decide +kernel
theorem dL_law_445 : decode cL_law 445 = .ok (.goto 1126, 3) := by decide +kernel
theorem dL_law_448 : decode cL_law 448 = .ok (.aload_n 1, 1) := by decide +kernel
theorem dL_law_449 : decode cL_law 449 = .ok (.aload_n 0, 1) := by decide +kernel
theorem dL_law_450 : decode cL_law 450 = .ok (.iload_n 3, 1) := by decide +kernel
theorem dL_law_451 : decode cL_law 451 = .ok (.iconst 1, 1) := by decide +kernel
theorem dL_law_452 : decode cL_law 452 = .ok (.iadd, 1) := by decide +kernel
theorem dL_law_453 : decode cL_law 453 = .ok (.iaload, 1) := by decide +kernel
theorem dL_law_454 : decode cL_law 454 = .ok (.aload_n 0, 1) := by decide +kernel
theorem dL_law_455 : decode cL_law 455 = .ok (.iload_n 3, 1) := by decide +kernel
theorem dL_law_456 : decode cL_law 456 = .ok (.iconst 2, 1) := by decide +kernel
theorem dL_law_457 : decode cL_law 457 = .ok (.iadd, 1) := by decide +kernel
theorem dL_law_458 : decode cL_law 458 = .ok (.iaload, 1) := by decide +kernel
theorem dL_law_459 : decode cL_law 459 = .ok (.invokevirtual 47, 3) := by decide +kernel
theorem dL_law_462 : decode cL_law 462 = .ok (.pop, 1) := by decide +kernel
theorem dL_law_463 : decode cL_law 463 = .ok (.aload_n 2, 1) := by decide +kernel
theorem dL_law_464 : decode cL_law 464 = .ok (.aload_n 0, 1) := by decide +kernel
theorem dL_law_465 : decode cL_law 465 = .ok (.iload_n 3, 1) := by decide +kernel
theorem dL_law_466 : decode cL_law 466 = .ok (.iconst 1, 1) := by decide +kernel
theorem dL_law_467 : decode cL_law 467 = .ok (.iadd, 1) := by decide +kernel
theorem dL_law_468 : decode cL_law 468 = .ok (.iaload, 1) := by decide +kernel
theorem dL_law_469 : decode cL_law 469 = .ok (.aload_n 0, 1) := by decide +kernel
theorem dL_law_470 : decode cL_law 470 = .ok (.iload_n 3, 1) := by decide +kernel
theorem dL_law_471 : decode cL_law 471 = .ok (.iconst 2, 1) := by decide +kernel
theorem dL_law_472 : decode cL_law 472 = .ok (.iadd, 1) := by decide +kernel
theorem dL_law_473 : decode cL_law 473 = .ok (.iaload, 1) := by decide +kernel
theorem dL_law_474 : decode cL_law 474 = .ok (.invokevirtual 50, 3) := by decide +kernel
theorem dL_law_477 : decode cL_law 477 = .ok (.pop, 1) := by decide +kernel
theorem dL_law_478 : decode cL_law 478 = .ok (.goto 1093, 3) := by decide +kernel
theorem dL_law_481 : decode cL_law 481 = .ok (.aload_n 1, 1) := by decide +kernel
theorem dL_law_482 : decode cL_law 482 = .ok (.aload_n 0, 1) := by decide +kernel
theorem dL_law_483 : decode cL_law 483 = .ok (.iload_n 3, 1) := by decide +kernel
theorem dL_law_484 : decode cL_law 484 = .ok (.iconst 1, 1) := by decide +kernel
theorem dL_law_485 : decode cL_law 485 = .ok (.iadd, 1) := by decide +kernel
theorem dL_law_486 : decode cL_law 486 = .ok (.iaload, 1) := by decide +kernel
theorem dL_law_487 : decode cL_law 487 = .ok (.aload_n 0, 1) := by decide +kernel
theorem dL_law_488 : decode cL_law 488 = .ok (.iload_n 3, 1) := by decide +kernel
theorem dL_law_489 : decode cL_law 489 = .ok (.iconst 2, 1) := by decide +kernel
theorem dL_law_490 : decode cL_law 490 = .ok (.iadd, 1) := by decide +kernel
theorem dL_law_491 : decode cL_law 491 = .ok (.iaload, 1) := by decide +kernel
theorem dL_law_492 : decode cL_law 492 = .ok (.invokevirtual 51, 3) := by decide +kernel
theorem dL_law_495 : decode cL_law 495 = .ok (.pop, 1) := by decide +kernel
theorem dL_law_496 : decode cL_law 496 = .ok (.aload_n 2, 1) := by decide +kernel
theorem dL_law_497 : decode cL_law 497 = .ok (.aload_n 0, 1) := by decide +kernel
theorem dL_law_498 : decode cL_law 498 = .ok (.iload_n 3, 1) := by decide +kernel
theorem dL_law_499 : decode cL_law 499 = .ok (.iconst 1, 1) := by decide +kernel
theorem dL_law_500 : decode cL_law 500 = .ok (.iadd, 1) := by decide +kernel
theorem dL_law_501 : decode cL_law 501 = .ok (.iaload, 1) := by decide +kernel
theorem dL_law_502 : decode cL_law 502 = .ok (.aload_n 0, 1) := by decide +kernel
theorem dL_law_503 : decode cL_law 503 = .ok (.iload_n 3, 1) := by decide +kernel
theorem dL_law_504 : decode cL_law 504 = .ok (.iconst 2, 1) := by decide +kernel
theorem dL_law_505 : decode cL_law 505 = .ok (.iadd, 1) := by decide +kernel
theorem dL_law_506 : decode cL_law 506 = .ok (.iaload, 1) := by decide +kernel
theorem dL_law_507 : decode cL_law 507 = .ok (.invokevirtual 54, 3) := by decide +kernel
theorem dL_law_510 : decode cL_law 510 = .ok (.pop, 1) := by decide +kernel
theorem dL_law_511 : decode cL_law 511 = .ok (.goto 1060, 3) := by decide +kernel
theorem dL_law_514 : decode cL_law 514 = .ok (.aload_n 1, 1) := by decide +kernel
theorem dL_law_515 : decode cL_law 515 = .ok (.invokevirtual 55, 3) := by decide +kernel
theorem dL_law_518 : decode cL_law 518 = .ok (.pop, 1) := by decide +kernel
theorem dL_law_519 : decode cL_law 519 = .ok (.aload_n 2, 1) := by decide +kernel
theorem dL_law_520 : decode cL_law 520 = .ok (.invokevirtual 59, 3) := by decide +kernel
theorem dL_law_523 : decode cL_law 523 = .ok (.pop, 1) := by decide +kernel
theorem dL_law_524 : decode cL_law 524 = .ok (.goto 1047, 3) := by decide +kernel
theorem dL_law_527 : decode cL_law 527 = .ok (.aload_n 1, 1) := by decide +kernel
theorem dL_law_528 : decode cL_law 528 = .ok (.aload_n 0, 1) := by decide +kernel
theorem dL_law_529 : decode cL_law 529 = .ok (.iload_n 3, 1) := by decide +kernel
theorem dL_law_530 : decode cL_law 530 = .ok (.iconst 1, 1) := by decide +kernel
theorem dL_law_531 : decode cL_law 531 = .ok (.iadd, 1) := by decide +kernel
theorem dL_law_532 : decode cL_law 532 = .ok (.iaload, 1) := by decide +kernel
theorem dL_law_533 : decode cL_law 533 = .ok (.invokevirtual 60, 3) := by decide +kernel
theorem dL_law_536 : decode cL_law 536 = .ok (.pop, 1) := by decide +kernel
theorem dL_law_537 : decode cL_law 537 = .ok (.aload_n 2, 1) := by decide +kernel
theorem dL_law_538 : decode cL_law 538 = .ok (.aload_n 0, 1) := by decide +kernel
theorem dL_law_539 : decode cL_law 539 = .ok (.iload_n 3, 1) := by decide +kernel
theorem dL_law_540 : decode cL_law 540 = .ok (.iconst 1, 1) := by decide +kernel
theorem dL_law_541 : decode cL_law 541 = .ok (.iadd, 1) := by decide +kernel
theorem dL_law_542 : decode cL_law 542 = .ok (.iaload, 1) := by decide +kernel
theorem dL_law_543 : decode cL_law 543 = .ok (.invokevirtual 63, 3) := by decide +kernel
theorem dL_law_546 : decode cL_law 546 = .ok (.pop, 1) := by decide +kernel
theorem dL_law_547 : decode cL_law 547 = .ok (.goto 1024, 3) := by decide +kernel
theorem dL_law_550 : decode cL_law 550 = .ok (.aload_n 1, 1) := by decide +kernel
theorem dL_law_551 : decode cL_law 551 = .ok (.aload_n 0, 1) := by decide +kernel
theorem dL_law_552 : decode cL_law 552 = .ok (.iload_n 3, 1) := by decide +kernel
theorem dL_law_553 : decode cL_law 553 = .ok (.iconst 1, 1) := by decide +kernel
theorem dL_law_554 : decode cL_law 554 = .ok (.iadd, 1) := by decide +kernel
theorem dL_law_555 : decode cL_law 555 = .ok (.iaload, 1) := by decide +kernel
theorem dL_law_556 : decode cL_law 556 = .ok (.invokevirtual 64, 3) := by decide +kernel
theorem dL_law_559 : decode cL_law 559 = .ok (.pop, 1) := by decide +kernel
theorem dL_law_560 : decode cL_law 560 = .ok (.aload_n 2, 1) := by decide +kernel
theorem dL_law_561 : decode cL_law 561 = .ok (.aload_n 0, 1) := by decide +kernel
theorem dL_law_562 : decode cL_law 562 = .ok (.iload_n 3, 1) := by decide +kernel
theorem dL_law_563 : decode cL_law 563 = .ok (.iconst 1, 1) := by decide +kernel
theorem dL_law_564 : decode cL_law 564 = .ok (.iadd, 1) := by decide +kernel
theorem dL_law_565 : decode cL_law 565 = .ok (.iaload, 1) := by decide +kernel
theorem dL_law_566 : decode cL_law 566 = .ok (.invokevirtual 68, 3) := by decide +kernel
theorem dL_law_569 : decode cL_law 569 = .ok (.pop, 1) := by decide +kernel
theorem dL_law_570 : decode cL_law 570 = .ok (.goto 1001, 3) := by decide +kernel
theorem dL_law_573 : decode cL_law 573 = .ok (.aload_n 1, 1) := by decide +kernel
theorem dL_law_574 : decode cL_law 574 = .ok (.aload_n 0, 1) := by decide +kernel
theorem dL_law_575 : decode cL_law 575 = .ok (.iload_n 3, 1) := by decide +kernel
theorem dL_law_576 : decode cL_law 576 = .ok (.iconst 1, 1) := by decide +kernel
theorem dL_law_577 : decode cL_law 577 = .ok (.iadd, 1) := by decide +kernel
theorem dL_law_578 : decode cL_law 578 = .ok (.iaload, 1) := by decide +kernel
theorem dL_law_579 : decode cL_law 579 = .ok (.invokevirtual 69, 3) := by decide +kernel
theorem dL_law_582 : decode cL_law 582 = .ok (.pop, 1) := by decide +kernel
theorem dL_law_583 : decode cL_law 583 = .ok (.aload_n 2, 1) := by decide +kernel
theorem dL_law_584 : decode cL_law 584 = .ok (.aload_n 0, 1) := by decide +kernel
theorem dL_law_585 : decode cL_law 585 = .ok (.iload_n 3, 1) := by decide +kernel
theorem dL_law_586 : decode cL_law 586 = .ok (.iconst 1, 1) := by decide +kernel
theorem dL_law_587 : decode cL_law 587 = .ok (.iadd, 1) := by decide +kernel
theorem dL_law_588 : decode cL_law 588 = .ok (.iaload, 1) := by decide +kernel
theorem dL_law_589 : decode cL_law 589 = .ok (.invokevirtual 72, 3) := by decide +kernel
theorem dL_law_592 : decode cL_law 592 = .ok (.pop, 1) := by decide +kernel
theorem dL_law_593 : decode cL_law 593 = .ok (.goto 978, 3) := by decide +kernel
theorem dL_law_596 : decode cL_law 596 = .ok (.aload_n 1, 1) := by decide +kernel
theorem dL_law_597 : decode cL_law 597 = .ok (.invokevirtual 73, 3) := by decide +kernel
theorem dL_law_600 : decode cL_law 600 = .ok (.pop, 1) := by decide +kernel
theorem dL_law_601 : decode cL_law 601 = .ok (.aload_n 2, 1) := by decide +kernel
theorem dL_law_602 : decode cL_law 602 = .ok (.invokevirtual 76, 3) := by decide +kernel
theorem dL_law_605 : decode cL_law 605 = .ok (.pop, 1) := by decide +kernel
theorem dL_law_606 : decode cL_law 606 = .ok (.goto 965, 3) := by decide +kernel
theorem dL_law_609 : decode cL_law 609 = .ok (.aload_n 1, 1) := by decide +kernel
theorem dL_law_610 : decode cL_law 610 = .ok (.aload_n 0, 1) := by decide +kernel
theorem dL_law_611 : decode cL_law 611 = .ok (.iload_n 3, 1) := by decide +kernel
theorem dL_law_612 : decode cL_law 612 = .ok (.iconst 1, 1) := by decide +kernel
theorem dL_law_613 : decode cL_law 613 = .ok (.iadd, 1) := by decide +kernel
theorem dL_law_614 : decode cL_law 614 = .ok (.iaload, 1) := by decide +kernel
theorem dL_law_615 : decode cL_law 615 = .ok (.invokevirtual 77, 3) := by decide +kernel
theorem dL_law_618 : decode cL_law 618 = .ok (.pop, 1) := by decide +kernel
theorem dL_law_619 : decode cL_law 619 = .ok (.aload_n 2, 1) := by decide +kernel
theorem dL_law_620 : decode cL_law 620 = .ok (.aload_n 0, 1) := by decide +kernel
theorem dL_law_621 : decode cL_law 621 = .ok (.iload_n 3, 1) := by decide +kernel
theorem dL_law_622 : decode cL_law 622 = .ok (.iconst 1, 1) := by decide +kernel
theorem dL_law_623 : decode cL_law 623 = .ok (.iadd, 1) := by decide +kernel
theorem dL_law_624 : decode cL_law 624 = .ok (.iaload, 1) := by decide +kernel
theorem dL_law_625 : decode cL_law 625 = .ok (.invokevirtual 80, 3) := by decide +kernel
theorem dL_law_628 : decode cL_law 628 = .ok (.pop, 1) := by decide +kernel
theorem dL_law_629 : decode cL_law 629 = .ok (.goto 942, 3) := by decide +kernel
theorem dL_law_632 : decode cL_law 632 = .ok (.aload_n 1, 1) := by decide +kernel
theorem dL_law_633 : decode cL_law 633 = .ok (.aload_n 0, 1) := by decide +kernel
theorem dL_law_634 : decode cL_law 634 = .ok (.iload_n 3, 1) := by decide +kernel
theorem dL_law_635 : decode cL_law 635 = .ok (.iconst 1, 1) := by decide +kernel
theorem dL_law_636 : decode cL_law 636 = .ok (.iadd, 1) := by decide +kernel
theorem dL_law_637 : decode cL_law 637 = .ok (.iaload, 1) := by decide +kernel
theorem dL_law_638 : decode cL_law 638 = .ok (.aload_n 0, 1) := by decide +kernel
theorem dL_law_639 : decode cL_law 639 = .ok (.iload_n 3, 1) := by decide +kernel
theorem dL_law_640 : decode cL_law 640 = .ok (.iconst 2, 1) := by decide +kernel
theorem dL_law_641 : decode cL_law 641 = .ok (.iadd, 1) := by decide +kernel
theorem dL_law_642 : decode cL_law 642 = .ok (.iaload, 1) := by decide +kernel
theorem dL_law_643 : decode cL_law 643 = .ok (.invokevirtual 81, 3) := by decide +kernel
theorem dL_law_646 : decode cL_law 646 = .ok (.pop, 1) := by decide +kernel
theorem dL_law_647 : decode cL_law 647 = .ok (.aload_n 2, 1) := by decide +kernel
theorem dL_law_648 : decode cL_law 648 = .ok (.aload_n 0, 1) := by decide +kernel
theorem dL_law_649 : decode cL_law 649 = .ok (.iload_n 3, 1) := by decide +kernel
theorem dL_law_650 : decode cL_law 650 = .ok (.iconst 1, 1) := by decide +kernel
theorem dL_law_651 : decode cL_law 651 = .ok (.iadd, 1) := by decide +kernel
theorem dL_law_652 : decode cL_law 652 = .ok (.iaload, 1) := by decide +kernel
theorem dL_law_653 : decode cL_law 653 = .ok (.aload_n 0, 1) := by decide +kernel
theorem dL_law_654 : decode cL_law 654 = .ok (.iload_n 3, 1) := by decide +kernel
theorem dL_law_655 : decode cL_law 655 = .ok (.iconst 2, 1) := by decide +kernel
theorem dL_law_656 : decode cL_law 656 = .ok (.iadd, 1) := by decide +kernel
theorem dL_law_657 : decode cL_law 657 = .ok (.iaload, 1) := by decide +kernel
theorem dL_law_658 : decode cL_law 658 = .ok (.invokevirtual 84, 3) := by decide +kernel
theorem dL_law_661 : decode cL_law 661 = .ok (.pop, 1) := by decide +kernel
theorem dL_law_662 : decode cL_law 662 = .ok (.goto 909, 3) := by decide +kernel
theorem dL_law_665 : decode cL_law 665 = .ok (.aload_n 1, 1) := by decide +kernel
theorem dL_law_666 : decode cL_law 666 = .ok (.aload_n 0, 1) := by decide +kernel
theorem dL_law_667 : decode cL_law 667 = .ok (.iload_n 3, 1) := by decide +kernel
theorem dL_law_668 : decode cL_law 668 = .ok (.iconst 1, 1) := by decide +kernel
theorem dL_law_669 : decode cL_law 669 = .ok (.iadd, 1) := by decide +kernel
theorem dL_law_670 : decode cL_law 670 = .ok (.iaload, 1) := by decide +kernel
theorem dL_law_671 : decode cL_law 671 = .ok (.invokevirtual 85, 3) := by decide +kernel
theorem dL_law_674 : decode cL_law 674 = .ok (.pop, 1) := by decide +kernel
theorem dL_law_675 : decode cL_law 675 = .ok (.aload_n 2, 1) := by decide +kernel
theorem dL_law_676 : decode cL_law 676 = .ok (.aload_n 0, 1) := by decide +kernel
theorem dL_law_677 : decode cL_law 677 = .ok (.iload_n 3, 1) := by decide +kernel
theorem dL_law_678 : decode cL_law 678 = .ok (.iconst 1, 1) := by decide +kernel
theorem dL_law_679 : decode cL_law 679 = .ok (.iadd, 1) := by decide +kernel
theorem dL_law_680 : decode cL_law 680 = .ok (.iaload, 1) := by decide +kernel
theorem dL_law_681 : decode cL_law 681 = .ok (.invokevirtual 88, 3) := by decide +kernel
theorem dL_law_684 : decode cL_law 684 = .ok (.pop, 1) := by decide +kernel
theorem dL_law_685 : decode cL_law 685 = .ok (.goto 886, 3) := by decide +kernel
theorem dL_law_688 : decode cL_law 688 = .ok (.aload_n 1, 1) := by decide +kernel
theorem dL_law_689 : decode cL_law 689 = .ok (.aload_n 0, 1) := by decide +kernel
theorem dL_law_690 : decode cL_law 690 = .ok (.iload_n 3, 1) := by decide +kernel
theorem dL_law_691 : decode cL_law 691 = .ok (.iconst 1, 1) := by decide +kernel
theorem dL_law_692 : decode cL_law 692 = .ok (.iadd, 1) := by decide +kernel
theorem dL_law_693 : decode cL_law 693 = .ok (.iaload, 1) := by decide +kernel
theorem dL_law_694 : decode cL_law 694 = .ok (.invokevirtual 89, 3) := by decide +kernel
theorem dL_law_697 : decode cL_law 697 = .ok (.pop, 1) := by decide +kernel
theorem dL_law_698 : decode cL_law 698 = .ok (.aload_n 2, 1) := by decide +kernel
theorem dL_law_699 : decode cL_law 699 = .ok (.aload_n 0, 1) := by decide +kernel
theorem dL_law_700 : decode cL_law 700 = .ok (.iload_n 3, 1) := by decide +kernel
theorem dL_law_701 : decode cL_law 701 = .ok (.iconst 1, 1) := by decide +kernel
theorem dL_law_702 : decode cL_law 702 = .ok (.iadd, 1) := by decide +kernel
theorem dL_law_703 : decode cL_law 703 = .ok (.iaload, 1) := by decide +kernel
theorem dL_law_704 : decode cL_law 704 = .ok (.invokevirtual 92, 3) := by decide +kernel
theorem dL_law_707 : decode cL_law 707 = .ok (.pop, 1) := by decide +kernel
theorem dL_law_708 : decode cL_law 708 = .ok (.goto 863, 3) := by decide +kernel
theorem dL_law_711 : decode cL_law 711 = .ok (.aload_n 1, 1) := by decide +kernel
theorem dL_law_712 : decode cL_law 712 = .ok (.invokevirtual 93, 3) := by decide +kernel
theorem dL_law_715 : decode cL_law 715 = .ok (.pop, 1) := by decide +kernel
theorem dL_law_716 : decode cL_law 716 = .ok (.aload_n 2, 1) := by decide +kernel
theorem dL_law_717 : decode cL_law 717 = .ok (.invokevirtual 97, 3) := by decide +kernel
theorem dL_law_720 : decode cL_law 720 = .ok (.pop, 1) := by decide +kernel
theorem dL_law_721 : decode cL_law 721 = .ok (.goto 850, 3) := by decide +kernel
theorem dL_law_724 : decode cL_law 724 = .ok (.aload_n 1, 1) := by decide +kernel
theorem dL_law_725 : decode cL_law 725 = .ok (.invokevirtual 98, 3) := by decide +kernel
theorem dL_law_728 : decode cL_law 728 = .ok (.pop, 1) := by decide +kernel
theorem dL_law_729 : decode cL_law 729 = .ok (.aload_n 2, 1) := by decide +kernel
theorem dL_law_730 : decode cL_law 730 = .ok (.invokevirtual 101, 3) := by decide +kernel
theorem dL_law_733 : decode cL_law 733 = .ok (.pop, 1) := by decide +kernel
theorem dL_law_734 : decode cL_law 734 = .ok (.goto 837, 3) := by decide +kernel
theorem dL_law_737 : decode cL_law 737 = .ok (.aload_n 1, 1) := by decide +kernel
theorem dL_law_738 : decode cL_law 738 = .ok (.aload_n 0, 1) := by decide +kernel
theorem dL_law_739 : decode cL_law 739 = .ok (.iload_n 3, 1) := by decide +kernel
theorem dL_law_740 : decode cL_law 740 = .ok (.iconst 1, 1) := by decide +kernel
theorem dL_law_741 : decode cL_law 741 = .ok (.iadd, 1) := by decide +kernel
theorem dL_law_742 : decode cL_law 742 = .ok (.iaload, 1) := by decide +kernel
theorem dL_law_743 : decode cL_law 743 = .ok (.invokevirtual 102, 3) := by decide +kernel
theorem dL_law_746 : decode cL_law 746 = .ok (.pop, 1) := by decide +kernel
theorem dL_law_747 : decode cL_law 747 = .ok (.aload_n 2, 1) := by decide +kernel
theorem dL_law_748 : decode cL_law 748 = .ok (.aload_n 0, 1) := by decide +kernel
theorem dL_law_749 : decode cL_law 749 = .ok (.iload_n 3, 1) := by decide +kernel
theorem dL_law_750 : decode cL_law 750 = .ok (.iconst 1, 1) := by decide +kernel
theorem dL_law_751 : decode cL_law 751 = .ok (.iadd, 1) := by decide +kernel
theorem dL_law_752 : decode cL_law 752 = .ok (.iaload, 1) := by decide +kernel
theorem dL_law_753 : decode cL_law 753 = .ok (.invokevirtual 105, 3) := by decide +kernel
theorem dL_law_756 : decode cL_law 756 = .ok (.pop, 1) := by decide +kernel
theorem dL_law_757 : decode cL_law 757 = .ok (.goto 814, 3) := by decide +kernel
theorem dL_law_760 : decode cL_law 760 = .ok (.aload_n 1, 1) := by decide +kernel
theorem dL_law_761 : decode cL_law 761 = .ok (.aload_n 0, 1) := by decide +kernel
theorem dL_law_762 : decode cL_law 762 = .ok (.iload_n 3, 1) := by decide +kernel
theorem dL_law_763 : decode cL_law 763 = .ok (.iconst 1, 1) := by decide +kernel
theorem dL_law_764 : decode cL_law 764 = .ok (.iadd, 1) := by decide +kernel
theorem dL_law_765 : decode cL_law 765 = .ok (.iaload, 1) := by decide +kernel
theorem dL_law_766 : decode cL_law 766 = .ok (.invokevirtual 106, 3) := by decide +kernel
theorem dL_law_769 : decode cL_law 769 = .ok (.pop, 1) := by decide +kernel
theorem dL_law_770 : decode cL_law 770 = .ok (.aload_n 2, 1) := by decide +kernel
theorem dL_law_771 : decode cL_law 771 = .ok (.aload_n 0, 1) := by decide +kernel
theorem dL_law_772 : decode cL_law 772 = .ok (.iload_n 3, 1) := by decide +kernel
theorem dL_law_773 : decode cL_law 773 = .ok (.iconst 1, 1) := by decide +kernel
theorem dL_law_774 : decode cL_law 774 = .ok (.iadd, 1) := by decide +kernel
theorem dL_law_775 : decode cL_law 775 = .ok (.iaload, 1) := by decide +kernel
theorem dL_law_776 : decode cL_law 776 = .ok (.invokevirtual 109, 3) := by decide +kernel
theorem dL_law_779 : decode cL_law 779 = .ok (.pop, 1) := by decide +kernel
theorem dL_law_780 : decode cL_law 780 = .ok (.goto 791, 3) := by decide +kernel
theorem dL_law_783 : decode cL_law 783 = .ok (.aload_n 1, 1) := by decide +kernel
theorem dL_law_784 : decode cL_law 784 = .ok (.aload_n 0, 1) := by decide +kernel
theorem dL_law_785 : decode cL_law 785 = .ok (.iload_n 3, 1) := by decide +kernel
theorem dL_law_786 : decode cL_law 786 = .ok (.iconst 1, 1) := by decide +kernel
theorem dL_law_787 : decode cL_law 787 = .ok (.iadd, 1) := by decide +kernel
theorem dL_law_788 : decode cL_law 788 = .ok (.iaload, 1) := by decide +kernel
theorem dL_law_789 : decode cL_law 789 = .ok (.aload_n 0, 1) := by decide +kernel
theorem dL_law_790 : decode cL_law 790 = .ok (.iload_n 3, 1) := by decide +kernel
theorem dL_law_791 : decode cL_law 791 = .ok (.iconst 2, 1) := by decide +kernel
theorem dL_law_792 : decode cL_law 792 = .ok (.iadd, 1) := by decide +kernel
theorem dL_law_793 : decode cL_law 793 = .ok (.iaload, 1) := by decide +kernel
theorem dL_law_794 : decode cL_law 794 = .ok (.invokevirtual 110, 3) := by decide +kernel
theorem dL_law_797 : decode cL_law 797 = .ok (.pop, 1) := by decide +kernel
theorem dL_law_798 : decode cL_law 798 = .ok (.aload_n 2, 1) := by decide +kernel
theorem dL_law_799 : decode cL_law 799 = .ok (.aload_n 0, 1) := by decide +kernel
theorem dL_law_800 : decode cL_law 800 = .ok (.iload_n 3, 1) := by decide +kernel
theorem dL_law_801 : decode cL_law 801 = .ok (.iconst 1, 1) := by decide +kernel
theorem dL_law_802 : decode cL_law 802 = .ok (.iadd, 1) := by decide +kernel
theorem dL_law_803 : decode cL_law 803 = .ok (.iaload, 1) := by decide +kernel
theorem dL_law_804 : decode cL_law 804 = .ok (.aload_n 0, 1) := by decide +kernel
theorem dL_law_805 : decode cL_law 805 = .ok (.iload_n 3, 1) := by decide +kernel
theorem dL_law_806 : decode cL_law 806 = .ok (.iconst 2, 1) := by decide +kernel
theorem dL_law_807 : decode cL_law 807 = .ok (.iadd, 1) := by decide +kernel
theorem dL_law_808 : decode cL_law 808 = .ok (.iaload, 1) := by decide +kernel
theorem dL_law_809 : decode cL_law 809 = .ok (.invokevirtual 113, 3) := by decide +kernel
theorem dL_law_812 : decode cL_law 812 = .ok (.pop, 1) := by decide +kernel
theorem dL_law_813 : decode cL_law 813 = .ok (.goto 758, 3) := by decide +kernel
theorem dL_law_816 : decode cL_law 816 = .ok (.aload_n 1, 1) := by decide +kernel
theorem dL_law_817 : decode cL_law 817 = .ok (.aload_n 0, 1) := by decide +kernel
theorem dL_law_818 : decode cL_law 818 = .ok (.iload_n 3, 1) := by decide +kernel
theorem dL_law_819 : decode cL_law 819 = .ok (.iconst 1, 1) := by decide +kernel
theorem dL_law_820 : decode cL_law 820 = .ok (.iadd, 1) := by decide +kernel
theorem dL_law_821 : decode cL_law 821 = .ok (.iaload, 1) := by decide +kernel
theorem dL_law_822 : decode cL_law 822 = .ok (.invokevirtual 114, 3) := by decide +kernel
theorem dL_law_825 : decode cL_law 825 = .ok (.pop, 1) := by decide +kernel
theorem dL_law_826 : decode cL_law 826 = .ok (.aload_n 2, 1) := by decide +kernel
theorem dL_law_827 : decode cL_law 827 = .ok (.aload_n 0, 1) := by decide +kernel
theorem dL_law_828 : decode cL_law 828 = .ok (.iload_n 3, 1) := by decide +kernel
theorem dL_law_829 : decode cL_law 829 = .ok (.iconst 1, 1) := by decide +kernel
theorem dL_law_830 : decode cL_law 830 = .ok (.iadd, 1) := by decide +kernel
theorem dL_law_831 : decode cL_law 831 = .ok (.iaload, 1) := by decide +kernel
theorem dL_law_832 : decode cL_law 832 = .ok (.invokevirtual 117, 3) := by decide +kernel
theorem dL_law_835 : decode cL_law 835 = .ok (.pop, 1) := by decide +kernel
theorem dL_law_836 : decode cL_law 836 = .ok (.goto 735, 3) := by decide +kernel
theorem dL_law_839 : decode cL_law 839 = .ok (.aload_n 1, 1) := by decide +kernel
theorem dL_law_840 : decode cL_law 840 = .ok (.aload_n 0, 1) := by decide +kernel
theorem dL_law_841 : decode cL_law 841 = .ok (.iload_n 3, 1) := by decide +kernel
theorem dL_law_842 : decode cL_law 842 = .ok (.iconst 1, 1) := by decide +kernel
theorem dL_law_843 : decode cL_law 843 = .ok (.iadd, 1) := by decide +kernel
theorem dL_law_844 : decode cL_law 844 = .ok (.iaload, 1) := by decide +kernel
theorem dL_law_845 : decode cL_law 845 = .ok (.invokevirtual 118, 3) := by decide +kernel
theorem dL_law_848 : decode cL_law 848 = .ok (.pop, 1) := by decide +kernel
theorem dL_law_849 : decode cL_law 849 = .ok (.aload_n 2, 1) := by decide +kernel
theorem dL_law_850 : decode cL_law 850 = .ok (.aload_n 0, 1) := by decide +kernel
theorem dL_law_851 : decode cL_law 851 = .ok (.iload_n 3, 1) := by decide +kernel
theorem dL_law_852 : decode cL_law 852 = .ok (.iconst 1, 1) := by decide +kernel
theorem dL_law_853 : decode cL_law 853 = .ok (.iadd, 1) := by decide +kernel
theorem dL_law_854 : decode cL_law 854 = .ok (.iaload, 1) := by decide +kernel
theorem dL_law_855 : decode cL_law 855 = .ok (.invokevirtual 121, 3) := by decide +kernel
theorem dL_law_858 : decode cL_law 858 = .ok (.pop, 1) := by decide +kernel
theorem dL_law_859 : decode cL_law 859 = .ok (.goto 712, 3) := by decide +kernel
theorem dL_law_862 : decode cL_law 862 = .ok (.aload_n 1, 1) := by decide +kernel
theorem dL_law_863 : decode cL_law 863 = .ok (.aload_n 0, 1) := by decide +kernel
theorem dL_law_864 : decode cL_law 864 = .ok (.iload_n 3, 1) := by decide +kernel
theorem dL_law_865 : decode cL_law 865 = .ok (.iconst 1, 1) := by decide +kernel
theorem dL_law_866 : decode cL_law 866 = .ok (.iadd, 1) := by decide +kernel
theorem dL_law_867 : decode cL_law 867 = .ok (.iaload, 1) := by decide +kernel
theorem dL_law_868 : decode cL_law 868 = .ok (.invokevirtual 122, 3) := by decide +kernel
theorem dL_law_871 : decode cL_law 871 = .ok (.pop, 1) := by decide +kernel
theorem dL_law_872 : decode cL_law 872 = .ok (.aload_n 2, 1) := by decide +kernel
theorem dL_law_873 : decode cL_law 873 = .ok (.aload_n 0, 1) := by decide +kernel
theorem dL_law_874 : decode cL_law 874 = .ok (.iload_n 3, 1) := by decide +kernel
theorem dL_law_875 : decode cL_law 875 = .ok (.iconst 1, 1) := by decide +kernel
theorem dL_law_876 : decode cL_law 876 = .ok (.iadd, 1) := by decide +kernel
theorem dL_law_877 : decode cL_law 877 = .ok (.iaload, 1) := by decide +kernel
theorem dL_law_878 : decode cL_law 878 = .ok (.invokevirtual 125, 3) := by decide +kernel
theorem dL_law_881 : decode cL_law 881 = .ok (.pop, 1) := by decide +kernel
theorem dL_law_882 : decode cL_law 882 = .ok (.goto 689, 3) := by decide +kernel
theorem dL_law_885 : decode cL_law 885 = .ok (.aload_n 1, 1) := by decide +kernel
theorem dL_law_886 : decode cL_law 886 = .ok (.aload_n 0, 1) := by decide +kernel
theorem dL_law_887 : decode cL_law 887 = .ok (.iload_n 3, 1) := by decide +kernel
theorem dL_law_888 : decode cL_law 888 = .ok (.iconst 1, 1) := by decide +kernel
theorem dL_law_889 : decode cL_law 889 = .ok (.iadd, 1) := by decide +kernel
theorem dL_law_890 : decode cL_law 890 = .ok (.iaload, 1) := by decide +kernel
theorem dL_law_891 : decode cL_law 891 = .ok (.aload_n 0, 1) := by decide +kernel
theorem dL_law_892 : decode cL_law 892 = .ok (.iload_n 3, 1) := by decide +kernel
theorem dL_law_893 : decode cL_law 893 = .ok (.iconst 2, 1) := by decide +kernel
theorem dL_law_894 : decode cL_law 894 = .ok (.iadd, 1) := by decide +kernel
theorem dL_law_895 : decode cL_law 895 = .ok (.iaload, 1) := by decide +kernel
theorem dL_law_896 : decode cL_law 896 = .ok (.invokevirtual 126, 3) := by decide +kernel
theorem dL_law_899 : decode cL_law 899 = .ok (.pop, 1) := by decide +kernel
theorem dL_law_900 : decode cL_law 900 = .ok (.aload_n 2, 1) := by decide +kernel
theorem dL_law_901 : decode cL_law 901 = .ok (.aload_n 0, 1) := by decide +kernel
theorem dL_law_902 : decode cL_law 902 = .ok (.iload_n 3, 1) := by decide +kernel
theorem dL_law_903 : decode cL_law 903 = .ok (.iconst 1, 1) := by decide +kernel
theorem dL_law_904 : decode cL_law 904 = .ok (.iadd, 1) := by decide +kernel
theorem dL_law_905 : decode cL_law 905 = .ok (.iaload, 1) := by decide +kernel
theorem dL_law_906 : decode cL_law 906 = .ok (.aload_n 0, 1) := by decide +kernel
theorem dL_law_907 : decode cL_law 907 = .ok (.iload_n 3, 1) := by decide +kernel
theorem dL_law_908 : decode cL_law 908 = .ok (.iconst 2, 1) := by decide +kernel
theorem dL_law_909 : decode cL_law 909 = .ok (.iadd, 1) := by decide +kernel
theorem dL_law_910 : decode cL_law 910 = .ok (.iaload, 1) := by decide +kernel
theorem dL_law_911 : decode cL_law 911 = .ok (.invokevirtual 129, 3) := by decide +kernel
theorem dL_law_914 : decode cL_law 914 = .ok (.pop, 1) := by decide +kernel
theorem dL_law_915 : decode cL_law 915 = .ok (.goto 656, 3) := by decide +kernel
theorem dL_law_918 : decode cL_law 918 = .ok (.aload_n 1, 1) := by decide +kernel
theorem dL_law_919 : decode cL_law 919 = .ok (.aload_n 0, 1) := by decide +kernel
theorem dL_law_920 : decode cL_law 920 = .ok (.iload_n 3, 1) := by decide +kernel
theorem dL_law_921 : decode cL_law 921 = .ok (.iconst 1, 1) := by decide +kernel
theorem dL_law_922 : decode cL_law 922 = .ok (.iadd, 1) := by decide +kernel
theorem dL_law_923 : decode cL_law 923 = .ok (.iaload, 1) := by decide +kernel
theorem dL_law_924 : decode cL_law 924 = .ok (.aload_n 0, 1) := by decide +kernel
theorem dL_law_925 : decode cL_law 925 = .ok (.iload_n 3, 1) := by decide +kernel
theorem dL_law_926 : decode cL_law 926 = .ok (.iconst 2, 1) := by decide +kernel
theorem dL_law_927 : decode cL_law 927 = .ok (.iadd, 1) := by decide +kernel
theorem dL_law_928 : decode cL_law 928 = .ok (.iaload, 1) := by decide +kernel
theorem dL_law_929 : decode cL_law 929 = .ok (.invokevirtual 130, 3) := by decide +kernel
theorem dL_law_932 : decode cL_law 932 = .ok (.pop, 1) := by decide +kernel
theorem dL_law_933 : decode cL_law 933 = .ok (.aload_n 2, 1) := by decide +kernel
theorem dL_law_934 : decode cL_law 934 = .ok (.aload_n 0, 1) := by decide +kernel
theorem dL_law_935 : decode cL_law 935 = .ok (.iload_n 3, 1) := by decide +kernel
theorem dL_law_936 : decode cL_law 936 = .ok (.iconst 1, 1) := by decide +kernel
theorem dL_law_937 : decode cL_law 937 = .ok (.iadd, 1) := by decide +kernel
theorem dL_law_938 : decode cL_law 938 = .ok (.iaload, 1) := by decide +kernel
theorem dL_law_939 : decode cL_law 939 = .ok (.aload_n 0, 1) := by decide +kernel
theorem dL_law_940 : decode cL_law 940 = .ok (.iload_n 3, 1) := by decide +kernel
theorem dL_law_941 : decode cL_law 941 = .ok (.iconst 2, 1) := by decide +kernel
theorem dL_law_942 : decode cL_law 942 = .ok (.iadd, 1) := by decide +kernel
theorem dL_law_943 : decode cL_law 943 = .ok (.iaload, 1) := by decide +kernel
theorem dL_law_944 : decode cL_law 944 = .ok (.invokevirtual 133, 3) := by decide +kernel
theorem dL_law_947 : decode cL_law 947 = .ok (.pop, 1) := by decide +kernel
theorem dL_law_948 : decode cL_law 948 = .ok (.goto 623, 3) := by decide +kernel
theorem dL_law_951 : decode cL_law 951 = .ok (.aload_n 1, 1) := by decide +kernel
theorem dL_law_952 : decode cL_law 952 = .ok (.aload_n 0, 1) := by decide +kernel
theorem dL_law_953 : decode cL_law 953 = .ok (.iload_n 3, 1) := by decide +kernel
theorem dL_law_954 : decode cL_law 954 = .ok (.iconst 1, 1) := by decide +kernel
theorem dL_law_955 : decode cL_law 955 = .ok (.iadd, 1) := by decide +kernel
theorem dL_law_956 : decode cL_law 956 = .ok (.iaload, 1) := by decide +kernel
theorem dL_law_957 : decode cL_law 957 = .ok (.aload_n 0, 1) := by decide +kernel
theorem dL_law_958 : decode cL_law 958 = .ok (.iload_n 3, 1) := by decide +kernel
theorem dL_law_959 : decode cL_law 959 = .ok (.iconst 2, 1) := by decide +kernel
theorem dL_law_960 : decode cL_law 960 = .ok (.iadd, 1) := by decide +kernel
theorem dL_law_961 : decode cL_law 961 = .ok (.iaload, 1) := by decide +kernel
theorem dL_law_962 : decode cL_law 962 = .ok (.aload_n 0, 1) := by decide +kernel
theorem dL_law_963 : decode cL_law 963 = .ok (.iload_n 3, 1) := by decide +kernel
theorem dL_law_964 : decode cL_law 964 = .ok (.iconst 3, 1) := by decide +kernel
theorem dL_law_965 : decode cL_law 965 = .ok (.iadd, 1) := by decide +kernel
theorem dL_law_966 : decode cL_law 966 = .ok (.iaload, 1) := by decide +kernel
theorem dL_law_967 : decode cL_law 967 = .ok (.invokevirtual 134, 3) := by decide +kernel
theorem dL_law_970 : decode cL_law 970 = .ok (.pop, 1) := by decide +kernel
theorem dL_law_971 : decode cL_law 971 = .ok (.aload_n 2, 1) := by decide +kernel
theorem dL_law_972 : decode cL_law 972 = .ok (.aload_n 0, 1) := by decide +kernel
theorem dL_law_973 : decode cL_law 973 = .ok (.iload_n 3, 1) := by decide +kernel
theorem dL_law_974 : decode cL_law 974 = .ok (.iconst 1, 1) := by decide +kernel
theorem dL_law_975 : decode cL_law 975 = .ok (.iadd, 1) := by decide +kernel
theorem dL_law_976 : decode cL_law 976 = .ok (.iaload, 1) := by decide +kernel
theorem dL_law_977 : decode cL_law 977 = .ok (.aload_n 0, 1) := by decide +kernel
theorem dL_law_978 : decode cL_law 978 = .ok (.iload_n 3, 1) := by decide +kernel
theorem dL_law_979 : decode cL_law 979 = .ok (.iconst 2, 1) := by decide +kernel
theorem dL_law_980 : decode cL_law 980 = .ok (.iadd, 1) := by decide +kernel
theorem dL_law_981 : decode cL_law 981 = .ok (.iaload, 1) := by decide +kernel
theorem dL_law_982 : decode cL_law 982 = .ok (.aload_n 0, 1) := by decide +kernel
theorem dL_law_983 : decode cL_law 983 = .ok (.iload_n 3, 1) := by decide +kernel
theorem dL_law_984 : decode cL_law 984 = .ok (.iconst 3, 1) := by decide +kernel
theorem dL_law_985 : decode cL_law 985 = .ok (.iadd, 1) := by decide +kernel
theorem dL_law_986 : decode cL_law 986 = .ok (.iaload, 1) := by decide +kernel
theorem dL_law_987 : decode cL_law 987 = .ok (.invokevirtual 138, 3) := by decide +kernel
theorem dL_law_990 : decode cL_law 990 = .ok (.pop, 1) := by decide +kernel
theorem dL_law_991 : decode cL_law 991 = .ok (.goto 580, 3) := by decide +kernel
theorem dL_law_994 : decode cL_law 994 = .ok (.aload_n 1, 1) := by decide +kernel
theorem dL_law_995 : decode cL_law 995 = .ok (.aload_n 0, 1) := by decide +kernel
theorem dL_law_996 : decode cL_law 996 = .ok (.iload_n 3, 1) := by decide +kernel
theorem dL_law_997 : decode cL_law 997 = .ok (.iconst 1, 1) := by decide +kernel
theorem dL_law_998 : decode cL_law 998 = .ok (.iadd, 1) := by decide +kernel
theorem dL_law_999 : decode cL_law 999 = .ok (.iaload, 1) := by decide +kernel
theorem dL_law_1000 : decode cL_law 1000 = .ok (.aload_n 0, 1) := by decide +kernel
theorem dL_law_1001 : decode cL_law 1001 = .ok (.iload_n 3, 1) := by decide +kernel
theorem dL_law_1002 : decode cL_law 1002 = .ok (.iconst 2, 1) := by decide +kernel
theorem dL_law_1003 : decode cL_law 1003 = .ok (.iadd, 1) := by decide +kernel
theorem dL_law_1004 : decode cL_law 1004 = .ok (.iaload, 1) := by decide +kernel
theorem dL_law_1005 : decode cL_law 1005 = .ok (.aload_n 0, 1) := by decide +kernel
theorem dL_law_1006 : decode cL_law 1006 = .ok (.iload_n 3, 1) := by decide +kernel
theorem dL_law_1007 : decode cL_law 1007 = .ok (.iconst 3, 1) := by decide +kernel
theorem dL_law_1008 : decode cL_law 1008 = .ok (.iadd, 1) := by decide +kernel
theorem dL_law_1009 : decode cL_law 1009 = .ok (.iaload, 1) := by decide +kernel
theorem dL_law_1010 : decode cL_law 1010 = .ok (.invokevirtual 139, 3) := by decide +kernel
theorem dL_law_1013 : decode cL_law 1013 = .ok (.pop, 1) := by decide +kernel
theorem dL_law_1014 : decode cL_law 1014 = .ok (.aload_n 2, 1) := by decide +kernel
theorem dL_law_1015 : decode cL_law 1015 = .ok (.aload_n 0, 1) := by decide +kernel
theorem dL_law_1016 : decode cL_law 1016 = .ok (.iload_n 3, 1) := by decide +kernel
theorem dL_law_1017 : decode cL_law 1017 = .ok (.iconst 1, 1) := by decide +kernel
theorem dL_law_1018 : decode cL_law 1018 = .ok (.iadd, 1) := by decide +kernel
theorem dL_law_1019 : decode cL_law 1019 = .ok (.iaload, 1) := by decide +kernel
theorem dL_law_1020 : decode cL_law 1020 = .ok (.aload_n 0, 1) := by decide +kernel
theorem dL_law_1021 : decode cL_law 1021 = .ok (.iload_n 3, 1) := by decide +kernel
theorem dL_law_1022 : decode cL_law 1022 = .ok (.iconst 2, 1) := by decide +kernel
theorem dL_law_1023 : decode cL_law 1023 = .ok (.iadd, 1) := by decide +kernel
theorem dL_law_1024 : decode cL_law 1024 = .ok (.iaload, 1) := by decide +kernel
theorem dL_law_1025 : decode cL_law 1025 = .ok (.aload_n 0, 1) := by decide +kernel
theorem dL_law_1026 : decode cL_law 1026 = .ok (.iload_n 3, 1) := by decide +kernel
theorem dL_law_1027 : decode cL_law 1027 = .ok (.iconst 3, 1) := by decide +kernel
theorem dL_law_1028 : decode cL_law 1028 = .ok (.iadd, 1) := by decide +kernel
theorem dL_law_1029 : decode cL_law 1029 = .ok (.iaload, 1) := by decide +kernel
theorem dL_law_1030 : decode cL_law 1030 = .ok (.invokevirtual 142, 3) := by decide +kernel
theorem dL_law_1033 : decode cL_law 1033 = .ok (.pop, 1) := by decide +kernel
theorem dL_law_1034 : decode cL_law 1034 = .ok (.goto 537, 3) := by decide +kernel
theorem dL_law_1037 : decode cL_law 1037 = .ok (.aload_n 1, 1) := by decide +kernel
theorem dL_law_1038 : decode cL_law 1038 = .ok (.aload_n 0, 1) := by decide +kernel
theorem dL_law_1039 : decode cL_law 1039 = .ok (.iload_n 3, 1) := by decide +kernel
theorem dL_law_1040 : decode cL_law 1040 = .ok (.iconst 1, 1) := by decide +kernel
theorem dL_law_1041 : decode cL_law 1041 = .ok (.iadd, 1) := by decide +kernel
theorem dL_law_1042 : decode cL_law 1042 = .ok (.iaload, 1) := by decide +kernel
theorem dL_law_1043 : decode cL_law 1043 = .ok (.invokevirtual 143, 3) := by decide +kernel
theorem dL_law_1046 : decode cL_law 1046 = .ok (.pop, 1) := by decide +kernel
theorem dL_law_1047 : decode cL_law 1047 = .ok (.aload_n 2, 1) := by decide +kernel
theorem dL_law_1048 : decode cL_law 1048 = .ok (.aload_n 0, 1) := by decide +kernel
theorem dL_law_1049 : decode cL_law 1049 = .ok (.iload_n 3, 1) := by decide +kernel
theorem dL_law_1050 : decode cL_law 1050 = .ok (.iconst 1, 1) := by decide +kernel
theorem dL_law_1051 : decode cL_law 1051 = .ok (.iadd, 1) := by decide +kernel
theorem dL_law_1052 : decode cL_law 1052 = .ok (.iaload, 1) := by decide +kernel
theorem dL_law_1053 : decode cL_law 1053 = .ok (.invokevirtual 146, 3) := by decide +kernel
theorem dL_law_1056 : decode cL_law 1056 = .ok (.pop, 1) := by decide +kernel
theorem dL_law_1057 : decode cL_law 1057 = .ok (.goto 514, 3) := by decide +kernel
theorem dL_law_1060 : decode cL_law 1060 = .ok (.aload_n 1, 1) := by decide +kernel
theorem dL_law_1061 : decode cL_law 1061 = .ok (.aload_n 0, 1) := by decide +kernel
theorem dL_law_1062 : decode cL_law 1062 = .ok (.iload_n 3, 1) := by decide +kernel
theorem dL_law_1063 : decode cL_law 1063 = .ok (.iconst 1, 1) := by decide +kernel
theorem dL_law_1064 : decode cL_law 1064 = .ok (.iadd, 1) := by decide +kernel
theorem dL_law_1065 : decode cL_law 1065 = .ok (.iaload, 1) := by decide +kernel
theorem dL_law_1066 : decode cL_law 1066 = .ok (.invokevirtual 147, 3) := by decide +kernel
theorem dL_law_1069 : decode cL_law 1069 = .ok (.pop, 1) := by decide +kernel
theorem dL_law_1070 : decode cL_law 1070 = .ok (.aload_n 2, 1) := by decide +kernel
theorem dL_law_1071 : decode cL_law 1071 = .ok (.aload_n 0, 1) := by decide +kernel
theorem dL_law_1072 : decode cL_law 1072 = .ok (.iload_n 3, 1) := by decide +kernel
theorem dL_law_1073 : decode cL_law 1073 = .ok (.iconst 1, 1) := by decide +kernel
theorem dL_law_1074 : decode cL_law 1074 = .ok (.iadd, 1) := by decide +kernel
theorem dL_law_1075 : decode cL_law 1075 = .ok (.iaload, 1) := by decide +kernel
theorem dL_law_1076 : decode cL_law 1076 = .ok (.invokevirtual 150, 3) := by decide +kernel
theorem dL_law_1079 : decode cL_law 1079 = .ok (.pop, 1) := by decide +kernel
theorem dL_law_1080 : decode cL_law 1080 = .ok (.goto 491, 3) := by decide +kernel
theorem dL_law_1083 : decode cL_law 1083 = .ok (.aload_n 1, 1) := by decide +kernel
theorem dL_law_1084 : decode cL_law 1084 = .ok (.aload_n 0, 1) := by decide +kernel
theorem dL_law_1085 : decode cL_law 1085 = .ok (.iload_n 3, 1) := by decide +kernel
theorem dL_law_1086 : decode cL_law 1086 = .ok (.iconst 1, 1) := by decide +kernel
theorem dL_law_1087 : decode cL_law 1087 = .ok (.iadd, 1) := by decide +kernel
theorem dL_law_1088 : decode cL_law 1088 = .ok (.iaload, 1) := by decide +kernel
theorem dL_law_1089 : decode cL_law 1089 = .ok (.invokevirtual 151, 3) := by decide +kernel
theorem dL_law_1092 : decode cL_law 1092 = .ok (.pop, 1) := by decide +kernel
theorem dL_law_1093 : decode cL_law 1093 = .ok (.aload_n 2, 1) := by decide +kernel
theorem dL_law_1094 : decode cL_law 1094 = .ok (.aload_n 0, 1) := by decide +kernel
theorem dL_law_1095 : decode cL_law 1095 = .ok (.iload_n 3, 1) := by decide +kernel
theorem dL_law_1096 : decode cL_law 1096 = .ok (.iconst 1, 1) := by decide +kernel
theorem dL_law_1097 : decode cL_law 1097 = .ok (.iadd, 1) := by decide +kernel
theorem dL_law_1098 : decode cL_law 1098 = .ok (.iaload, 1) := by decide +kernel
theorem dL_law_1099 : decode cL_law 1099 = .ok (.invokevirtual 154, 3) := by decide +kernel
theorem dL_law_1102 : decode cL_law 1102 = .ok (.pop, 1) := by decide +kernel
theorem dL_law_1103 : decode cL_law 1103 = .ok (.goto 468, 3) := by decide +kernel
theorem dL_law_1106 : decode cL_law 1106 = .ok (.aload_n 1, 1) := by decide +kernel
theorem dL_law_1107 : decode cL_law 1107 = .ok (.aload_n 0, 1) := by decide +kernel
theorem dL_law_1108 : decode cL_law 1108 = .ok (.iload_n 3, 1) := by decide +kernel
theorem dL_law_1109 : decode cL_law 1109 = .ok (.iconst 1, 1) := by decide +kernel
theorem dL_law_1110 : decode cL_law 1110 = .ok (.iadd, 1) := by decide +kernel
theorem dL_law_1111 : decode cL_law 1111 = .ok (.iaload, 1) := by decide +kernel
theorem dL_law_1112 : decode cL_law 1112 = .ok (.aload_n 0, 1) := by decide +kernel
theorem dL_law_1113 : decode cL_law 1113 = .ok (.iload_n 3, 1) := by decide +kernel
theorem dL_law_1114 : decode cL_law 1114 = .ok (.iconst 2, 1) := by decide +kernel
theorem dL_law_1115 : decode cL_law 1115 = .ok (.iadd, 1) := by decide +kernel
theorem dL_law_1116 : decode cL_law 1116 = .ok (.iaload, 1) := by decide +kernel
theorem dL_law_1117 : decode cL_law 1117 = .ok (.invokevirtual 155, 3) := by decide +kernel
theorem dL_law_1120 : decode cL_law 1120 = .ok (.pop, 1) := by decide +kernel
theorem dL_law_1121 : decode cL_law 1121 = .ok (.aload_n 2, 1) := by decide +kernel
theorem dL_law_1122 : decode cL_law 1122 = .ok (.aload_n 0, 1) := by decide +kernel
theorem dL_law_1123 : decode cL_law 1123 = .ok (.iload_n 3, 1) := by decide +kernel
theorem dL_law_1124 : decode cL_law 1124 = .ok (.iconst 1, 1) := by decide +kernel
theorem dL_law_1125 : decode cL_law 1125 = .ok (.iadd, 1) := by decide +kernel
theorem dL_law_1126 : decode cL_law 1126 = .ok (.iaload, 1) := by decide +kernel
theorem dL_law_1127 : decode cL_law 1127 = .ok (.aload_n 0, 1) := by decide +kernel
theorem dL_law_1128 : decode cL_law 1128 = .ok (.iload_n 3, 1) := by decide +kernel
theorem dL_law_1129 : decode cL_law 1129 = .ok (.iconst 2, 1) := by decide +kernel
theorem dL_law_1130 : decode cL_law 1130 = .ok (.iadd, 1) := by decide +kernel
theorem dL_law_1131 : decode cL_law 1131 = .ok (.iaload, 1) := by decide +kernel
theorem dL_law_1132 : decode cL_law 1132 = .ok (.invokevirtual 158, 3) := by decide +kernel
theorem dL_law_1135 : decode cL_law 1135 = .ok (.pop, 1) := by decide +kernel
theorem dL_law_1136 : decode cL_law 1136 = .ok (.goto 435, 3) := by decide +kernel
theorem dL_law_1139 : decode cL_law 1139 = .ok (.aload_n 1, 1) := by decide +kernel
theorem dL_law_1140 : decode cL_law 1140 = .ok (.aload_n 0, 1) := by decide +kernel
theorem dL_law_1141 : decode cL_law 1141 = .ok (.iload_n 3, 1) := by decide +kernel
theorem dL_law_1142 : decode cL_law 1142 = .ok (.iconst 1, 1) := by decide +kernel
theorem dL_law_1143 : decode cL_law 1143 = .ok (.iadd, 1) := by decide +kernel
theorem dL_law_1144 : decode cL_law 1144 = .ok (.iaload, 1) := by decide +kernel
theorem dL_law_1145 : decode cL_law 1145 = .ok (.invokevirtual 159, 3) := by decide +kernel
theorem dL_law_1148 : decode cL_law 1148 = .ok (.pop, 1) := by decide +kernel
theorem dL_law_1149 : decode cL_law 1149 = .ok (.aload_n 2, 1) := by decide +kernel
theorem dL_law_1150 : decode cL_law 1150 = .ok (.aload_n 0, 1) := by decide +kernel
theorem dL_law_1151 : decode cL_law 1151 = .ok (.iload_n 3, 1) := by decide +kernel
theorem dL_law_1152 : decode cL_law 1152 = .ok (.iconst 1, 1) := by decide +kernel
theorem dL_law_1153 : decode cL_law 1153 = .ok (.iadd, 1) := by decide +kernel
theorem dL_law_1154 : decode cL_law 1154 = .ok (.iaload, 1) := by decide +kernel
theorem dL_law_1155 : decode cL_law 1155 = .ok (.invokevirtual 162, 3) := by decide +kernel
theorem dL_law_1158 : decode cL_law 1158 = .ok (.pop, 1) := by decide +kernel
theorem dL_law_1159 : decode cL_law 1159 = .ok (.goto 412, 3) := by decide +kernel
theorem dL_law_1162 : decode cL_law 1162 = .ok (.aload_n 1, 1) := by decide +kernel
theorem dL_law_1163 : decode cL_law 1163 = .ok (.aload_n 0, 1) := by decide +kernel
theorem dL_law_1164 : decode cL_law 1164 = .ok (.iload_n 3, 1) := by decide +kernel
theorem dL_law_1165 : decode cL_law 1165 = .ok (.iconst 1, 1) := by decide +kernel
theorem dL_law_1166 : decode cL_law 1166 = .ok (.iadd, 1) := by decide +kernel
theorem dL_law_1167 : decode cL_law 1167 = .ok (.iaload, 1) := by decide +kernel
theorem dL_law_1168 : decode cL_law 1168 = .ok (.invokevirtual 163, 3) := by decide +kernel
theorem dL_law_1171 : decode cL_law 1171 = .ok (.pop, 1) := by decide +kernel
theorem dL_law_1172 : decode cL_law 1172 = .ok (.aload_n 2, 1) := by decide +kernel
theorem dL_law_1173 : decode cL_law 1173 = .ok (.aload_n 0, 1) := by decide +kernel
theorem dL_law_1174 : decode cL_law 1174 = .ok (.iload_n 3, 1) := by decide +kernel
theorem dL_law_1175 : decode cL_law 1175 = .ok (.iconst 1, 1) := by decide +kernel
theorem dL_law_1176 : decode cL_law 1176 = .ok (.iadd, 1) := by decide +kernel
theorem dL_law_1177 : decode cL_law 1177 = .ok (.iaload, 1) := by decide +kernel
theorem dL_law_1178 : decode cL_law 1178 = .ok (.invokevirtual 166, 3) := by decide +kernel
theorem dL_law_1181 : decode cL_law 1181 = .ok (.pop, 1) := by decide +kernel
theorem dL_law_1182 : decode cL_law 1182 = .ok (.goto 389, 3) := by decide +kernel
theorem dL_law_1185 : decode cL_law 1185 = .ok (.aload_n 1, 1) := by decide +kernel
theorem dL_law_1186 : decode cL_law 1186 = .ok (.aload_n 0, 1) := by decide +kernel
theorem dL_law_1187 : decode cL_law 1187 = .ok (.iload_n 3, 1) := by decide +kernel
theorem dL_law_1188 : decode cL_law 1188 = .ok (.iconst 1, 1) := by decide +kernel
theorem dL_law_1189 : decode cL_law 1189 = .ok (.iadd, 1) := by decide +kernel
theorem dL_law_1190 : decode cL_law 1190 = .ok (.iaload, 1) := by decide +kernel
theorem dL_law_1191 : decode cL_law 1191 = .ok (.invokevirtual 167, 3) := by decide +kernel
theorem dL_law_1194 : decode cL_law 1194 = .ok (.pop, 1) := by decide +kernel
theorem dL_law_1195 : decode cL_law 1195 = .ok (.aload_n 2, 1) := by decide +kernel
theorem dL_law_1196 : decode cL_law 1196 = .ok (.aload_n 0, 1) := by decide +kernel
theorem dL_law_1197 : decode cL_law 1197 = .ok (.iload_n 3, 1) := by decide +kernel
theorem dL_law_1198 : decode cL_law 1198 = .ok (.iconst 1, 1) := by decide +kernel
theorem dL_law_1199 : decode cL_law 1199 = .ok (.iadd, 1) := by decide +kernel
theorem dL_law_1200 : decode cL_law 1200 = .ok (.iaload, 1) := by decide +kernel
theorem dL_law_1201 : decode cL_law 1201 = .ok (.invokevirtual 170, 3) := by decide +kernel
theorem dL_law_1204 : decode cL_law 1204 = .ok (.pop, 1) := by decide +kernel
theorem dL_law_1205 : decode cL_law 1205 = .ok (.goto 366, 3) := by decide +kernel
theorem dL_law_1208 : decode cL_law 1208 = .ok (.aload_n 1, 1) := by decide +kernel
theorem dL_law_1209 : decode cL_law 1209 = .ok (.aload_n 0, 1) := by decide +kernel
theorem dL_law_1210 : decode cL_law 1210 = .ok (.iload_n 3, 1) := by decide +kernel
theorem dL_law_1211 : decode cL_law 1211 = .ok (.iconst 1, 1) := by decide +kernel
theorem dL_law_1212 : decode cL_law 1212 = .ok (.iadd, 1) := by decide +kernel
theorem dL_law_1213 : decode cL_law 1213 = .ok (.iaload, 1) := by decide +kernel
theorem dL_law_1214 : decode cL_law 1214 = .ok (.aload_n 0, 1) := by decide +kernel
theorem dL_law_1215 : decode cL_law 1215 = .ok (.iload_n 3, 1) := by decide +kernel
theorem dL_law_1216 : decode cL_law 1216 = .ok (.iconst 2, 1) := by decide +kernel
theorem dL_law_1217 : decode cL_law 1217 = .ok (.iadd, 1) := by decide +kernel
theorem dL_law_1218 : decode cL_law 1218 = .ok (.iaload, 1) := by decide +kernel
theorem dL_law_1219 : decode cL_law 1219 = .ok (.invokevirtual 171, 3) := by decide +kernel
theorem dL_law_1222 : decode cL_law 1222 = .ok (.pop, 1) := by decide +kernel
theorem dL_law_1223 : decode cL_law 1223 = .ok (.aload_n 2, 1) := by decide +kernel
theorem dL_law_1224 : decode cL_law 1224 = .ok (.aload_n 0, 1) := by decide +kernel
theorem dL_law_1225 : decode cL_law 1225 = .ok (.iload_n 3, 1) := by decide +kernel
theorem dL_law_1226 : decode cL_law 1226 = .ok (.iconst 1, 1) := by decide +kernel
theorem dL_law_1227 : decode cL_law 1227 = .ok (.iadd, 1) := by decide +kernel
theorem dL_law_1228 : decode cL_law 1228 = .ok (.iaload, 1) := by decide +kernel
theorem dL_law_1229 : decode cL_law 1229 = .ok (.aload_n 0, 1) := by decide +kernel
theorem dL_law_1230 : decode cL_law 1230 = .ok (.iload_n 3, 1) := by decide +kernel
theorem dL_law_1231 : decode cL_law 1231 = .ok (.iconst 2, 1) := by decide +kernel
theorem dL_law_1232 : decode cL_law 1232 = .ok (.iadd, 1) := by decide +kernel
theorem dL_law_1233 : decode cL_law 1233 = .ok (.iaload, 1) := by decide +kernel
theorem dL_law_1234 : decode cL_law 1234 = .ok (.invokevirtual 174, 3) := by decide +kernel
theorem dL_law_1237 : decode cL_law 1237 = .ok (.pop, 1) := by decide +kernel
theorem dL_law_1238 : decode cL_law 1238 = .ok (.goto 333, 3) := by decide +kernel
theorem dL_law_1241 : decode cL_law 1241 = .ok (.aload_n 1, 1) := by decide +kernel
theorem dL_law_1242 : decode cL_law 1242 = .ok (.aload_n 0, 1) := by decide +kernel
theorem dL_law_1243 : decode cL_law 1243 = .ok (.iload_n 3, 1) := by decide +kernel
theorem dL_law_1244 : decode cL_law 1244 = .ok (.iconst 1, 1) := by decide +kernel
theorem dL_law_1245 : decode cL_law 1245 = .ok (.iadd, 1) := by decide +kernel
theorem dL_law_1246 : decode cL_law 1246 = .ok (.iaload, 1) := by decide +kernel
theorem dL_law_1247 : decode cL_law 1247 = .ok (.aload_n 0, 1) := by decide +kernel
theorem dL_law_1248 : decode cL_law 1248 = .ok (.iload_n 3, 1) := by decide +kernel
theorem dL_law_1249 : decode cL_law 1249 = .ok (.iconst 2, 1) := by decide +kernel
theorem dL_law_1250 : decode cL_law 1250 = .ok (.iadd, 1) := by decide +kernel
theorem dL_law_1251 : decode cL_law 1251 = .ok (.iaload, 1) := by decide +kernel
theorem dL_law_1252 : decode cL_law 1252 = .ok (.invokevirtual 175, 3) := by decide +kernel
theorem dL_law_1255 : decode cL_law 1255 = .ok (.pop, 1) := by decide +kernel
theorem dL_law_1256 : decode cL_law 1256 = .ok (.aload_n 2, 1) := by decide +kernel
theorem dL_law_1257 : decode cL_law 1257 = .ok (.aload_n 0, 1) := by decide +kernel
theorem dL_law_1258 : decode cL_law 1258 = .ok (.iload_n 3, 1) := by decide +kernel
theorem dL_law_1259 : decode cL_law 1259 = .ok (.iconst 1, 1) := by decide +kernel
theorem dL_law_1260 : decode cL_law 1260 = .ok (.iadd, 1) := by decide +kernel
theorem dL_law_1261 : decode cL_law 1261 = .ok (.iaload, 1) := by decide +kernel
theorem dL_law_1262 : decode cL_law 1262 = .ok (.aload_n 0, 1) := by decide +kernel
theorem dL_law_1263 : decode cL_law 1263 = .ok (.iload_n 3, 1) := by decide +kernel
theorem dL_law_1264 : decode cL_law 1264 = .ok (.iconst 2, 1) := by decide +kernel
theorem dL_law_1265 : decode cL_law 1265 = .ok (.iadd, 1) := by decide +kernel
theorem dL_law_1266 : decode cL_law 1266 = .ok (.iaload, 1) := by decide +kernel
theorem dL_law_1267 : decode cL_law 1267 = .ok (.invokevirtual 178, 3) := by decide +kernel
theorem dL_law_1270 : decode cL_law 1270 = .ok (.pop, 1) := by decide +kernel
theorem dL_law_1271 : decode cL_law 1271 = .ok (.goto 300, 3) := by decide +kernel
theorem dL_law_1274 : decode cL_law 1274 = .ok (.aload_n 1, 1) := by decide +kernel
theorem dL_law_1275 : decode cL_law 1275 = .ok (.aload_n 0, 1) := by decide +kernel
theorem dL_law_1276 : decode cL_law 1276 = .ok (.iload_n 3, 1) := by decide +kernel
theorem dL_law_1277 : decode cL_law 1277 = .ok (.iconst 1, 1) := by decide +kernel
theorem dL_law_1278 : decode cL_law 1278 = .ok (.iadd, 1) := by decide +kernel
theorem dL_law_1279 : decode cL_law 1279 = .ok (.iaload, 1) := by decide +kernel
theorem dL_law_1280 : decode cL_law 1280 = .ok (.aload_n 0, 1) := by decide +kernel
theorem dL_law_1281 : decode cL_law 1281 = .ok (.iload_n 3, 1) := by decide +kernel
theorem dL_law_1282 : decode cL_law 1282 = .ok (.iconst 2, 1) := by decide +kernel
theorem dL_law_1283 : decode cL_law 1283 = .ok (.iadd, 1) := by decide +kernel
theorem dL_law_1284 : decode cL_law 1284 = .ok (.iaload, 1) := by decide +kernel
theorem dL_law_1285 : decode cL_law 1285 = .ok (.invokevirtual 179, 3) := by decide +kernel
theorem dL_law_1288 : decode cL_law 1288 = .ok (.pop, 1) := by decide +kernel
theorem dL_law_1289 : decode cL_law 1289 = .ok (.aload_n 2, 1) := by decide +kernel
theorem dL_law_1290 : decode cL_law 1290 = .ok (.aload_n 0, 1) := by decide +kernel
theorem dL_law_1291 : decode cL_law 1291 = .ok (.iload_n 3, 1) := by decide +kernel
theorem dL_law_1292 : decode cL_law 1292 = .ok (.iconst 1, 1) := by decide +kernel
theorem dL_law_1293 : decode cL_law 1293 = .ok (.iadd, 1) := by decide +kernel
theorem dL_law_1294 : decode cL_law 1294 = .ok (.iaload, 1) := by decide +kernel
theorem dL_law_1295 : decode cL_law 1295 = .ok (.aload_n 0, 1) := by decide +kernel
theorem dL_law_1296 : decode cL_law 1296 = .ok (.iload_n 3, 1) := by decide +kernel
theorem dL_law_1297 : decode cL_law 1297 = .ok (.iconst 2, 1) := by decide +kernel
theorem dL_law_1298 : decode cL_law 1298 = .ok (.iadd, 1) := by decide +kernel
theorem dL_law_1299 : decode cL_law 1299 = .ok (.iaload, 1) := by decide +kernel
theorem dL_law_1300 : decode cL_law 1300 = .ok (.invokevirtual 182, 3) := by decide +kernel
theorem dL_law_1303 : decode cL_law 1303 = .ok (.pop, 1) := by decide +kernel
theorem dL_law_1304 : decode cL_law 1304 = .ok (.goto 267, 3) := by decide +kernel
theorem dL_law_1307 : decode cL_law 1307 = .ok (.aload_n 1, 1) := by decide +kernel
theorem dL_law_1308 : decode cL_law 1308 = .ok (.aload_n 0, 1) := by decide +kernel
theorem dL_law_1309 : decode cL_law 1309 = .ok (.iload_n 3, 1) := by decide +kernel
theorem dL_law_1310 : decode cL_law 1310 = .ok (.iconst 1, 1) := by decide +kernel
theorem dL_law_1311 : decode cL_law 1311 = .ok (.iadd, 1) := by decide +kernel
theorem dL_law_1312 : decode cL_law 1312 = .ok (.iaload, 1) := by decide +kernel
theorem dL_law_1313 : decode cL_law 1313 = .ok (.aload_n 0, 1) := by decide +kernel
theorem dL_law_1314 : decode cL_law 1314 = .ok (.iload_n 3, 1) := by decide +kernel
theorem dL_law_1315 : decode cL_law 1315 = .ok (.iconst 2, 1) := by decide +kernel
theorem dL_law_1316 : decode cL_law 1316 = .ok (.iadd, 1) := by decide +kernel
theorem dL_law_1317 : decode cL_law 1317 = .ok (.iaload, 1) := by decide +kernel
theorem dL_law_1318 : decode cL_law 1318 = .ok (.invokevirtual 183, 3) := by decide +kernel
theorem dL_law_1321 : decode cL_law 1321 = .ok (.pop, 1) := by decide +kernel
theorem dL_law_1322 : decode cL_law 1322 = .ok (.aload_n 2, 1) := by decide +kernel
theorem dL_law_1323 : decode cL_law 1323 = .ok (.aload_n 0, 1) := by decide +kernel
theorem dL_law_1324 : decode cL_law 1324 = .ok (.iload_n 3, 1) := by decide +kernel
theorem dL_law_1325 : decode cL_law 1325 = .ok (.iconst 1, 1) := by decide +kernel
theorem dL_law_1326 : decode cL_law 1326 = .ok (.iadd, 1) := by decide +kernel
theorem dL_law_1327 : decode cL_law 1327 = .ok (.iaload, 1) := by decide +kernel
theorem dL_law_1328 : decode cL_law 1328 = .ok (.aload_n 0, 1) := by decide +kernel
theorem dL_law_1329 : decode cL_law 1329 = .ok (.iload_n 3, 1) := by decide +kernel
theorem dL_law_1330 : decode cL_law 1330 = .ok (.iconst 2, 1) := by decide +kernel
theorem dL_law_1331 : decode cL_law 1331 = .ok (.iadd, 1) := by decide +kernel
theorem dL_law_1332 : decode cL_law 1332 = .ok (.iaload, 1) := by decide +kernel
theorem dL_law_1333 : decode cL_law 1333 = .ok (.invokevirtual 186, 3) := by decide +kernel
theorem dL_law_1336 : decode cL_law 1336 = .ok (.pop, 1) := by decide +kernel
theorem dL_law_1337 : decode cL_law 1337 = .ok (.goto 234, 3) := by decide +kernel
theorem dL_law_1340 : decode cL_law 1340 = .ok (.aload_n 1, 1) := by decide +kernel
theorem dL_law_1341 : decode cL_law 1341 = .ok (.aload_n 0, 1) := by decide +kernel
theorem dL_law_1342 : decode cL_law 1342 = .ok (.iload_n 3, 1) := by decide +kernel
theorem dL_law_1343 : decode cL_law 1343 = .ok (.iconst 1, 1) := by decide +kernel
theorem dL_law_1344 : decode cL_law 1344 = .ok (.iadd, 1) := by decide +kernel
theorem dL_law_1345 : decode cL_law 1345 = .ok (.iaload, 1) := by decide +kernel
theorem dL_law_1346 : decode cL_law 1346 = .ok (.aload_n 0, 1) := by decide +kernel
theorem dL_law_1347 : decode cL_law 1347 = .ok (.iload_n 3, 1) := by decide +kernel
theorem dL_law_1348 : decode cL_law 1348 = .ok (.iconst 2, 1) := by decide +kernel
theorem dL_law_1349 : decode cL_law 1349 = .ok (.iadd, 1) := by decide +kernel
theorem dL_law_1350 : decode cL_law 1350 = .ok (.iaload, 1) := by decide +kernel
theorem dL_law_1351 : decode cL_law 1351 = .ok (.aload_n 0, 1) := by decide +kernel
theorem dL_law_1352 : decode cL_law 1352 = .ok (.iload_n 3, 1) := by decide +kernel
theorem dL_law_1353 : decode cL_law 1353 = .ok (.iconst 3, 1) := by decide +kernel
theorem dL_law_1354 : decode cL_law 1354 = .ok (.iadd, 1) := by decide +kernel
theorem dL_law_1355 : decode cL_law 1355 = .ok (.iaload, 1) := by decide +kernel
theorem dL_law_1356 : decode cL_law 1356 = .ok (.invokevirtual 187, 3) := by decide +kernel
theorem dL_law_1359 : decode cL_law 1359 = .ok (.pop, 1) := by decide +kernel
theorem dL_law_1360 : decode cL_law 1360 = .ok (.aload_n 2, 1) := by decide +kernel
theorem dL_law_1361 : decode cL_law 1361 = .ok (.aload_n 0, 1) := by decide +kernel
theorem dL_law_1362 : decode cL_law 1362 = .ok (.iload_n 3, 1) := by decide +kernel
theorem dL_law_1363 : decode cL_law 1363 = .ok (.iconst 1, 1) := by decide +kernel
theorem dL_law_1364 : decode cL_law 1364 = .ok (.iadd, 1) := by decide +kernel
theorem dL_law_1365 : decode cL_law 1365 = .ok (.iaload, 1) := by decide +kernel
theorem dL_law_1366 : decode cL_law 1366 = .ok (.aload_n 0, 1) := by decide +kernel
theorem dL_law_1367 : decode cL_law 1367 = .ok (.iload_n 3, 1) := by decide +kernel
theorem dL_law_1368 : decode cL_law 1368 = .ok (.iconst 2, 1) := by decide +kernel
theorem dL_law_1369 : decode cL_law 1369 = .ok (.iadd, 1) := by decide +kernel
theorem dL_law_1370 : decode cL_law 1370 = .ok (.iaload, 1) := by decide +kernel
theorem dL_law_1371 : decode cL_law 1371 = .ok (.aload_n 0, 1) := by decide +kernel
theorem dL_law_1372 : decode cL_law 1372 = .ok (.iload_n 3, 1) := by decide +kernel
theorem dL_law_1373 : decode cL_law 1373 = .ok (.iconst 3, 1) := by decide +kernel
theorem dL_law_1374 : decode cL_law 1374 = .ok (.iadd, 1) := by decide +kernel
theorem dL_law_1375 : decode cL_law 1375 = .ok (.iaload, 1) := by decide +kernel
theorem dL_law_1376 : decode cL_law 1376 = .ok (.invokevirtual 190, 3) := by decide +kernel
theorem dL_law_1379 : decode cL_law 1379 = .ok (.pop, 1) := by decide +kernel
theorem dL_law_1380 : decode cL_law 1380 = .ok (.goto 191, 3) := by decide +kernel
theorem dL_law_1383 : decode cL_law 1383 = .ok (.aload_n 1, 1) := by decide +kernel
theorem dL_law_1384 : decode cL_law 1384 = .ok (.aload_n 0, 1) := by decide +kernel
theorem dL_law_1385 : decode cL_law 1385 = .ok (.iload_n 3, 1) := by decide +kernel
theorem dL_law_1386 : decode cL_law 1386 = .ok (.iconst 1, 1) := by decide +kernel
theorem dL_law_1387 : decode cL_law 1387 = .ok (.iadd, 1) := by decide +kernel
theorem dL_law_1388 : decode cL_law 1388 = .ok (.iaload, 1) := by decide +kernel
theorem dL_law_1389 : decode cL_law 1389 = .ok (.aload_n 0, 1) := by decide +kernel
theorem dL_law_1390 : decode cL_law 1390 = .ok (.iload_n 3, 1) := by decide +kernel
theorem dL_law_1391 : decode cL_law 1391 = .ok (.iconst 2, 1) := by decide +kernel
theorem dL_law_1392 : decode cL_law 1392 = .ok (.iadd, 1) := by decide +kernel
theorem dL_law_1393 : decode cL_law 1393 = .ok (.iaload, 1) := by decide +kernel
theorem dL_law_1394 : decode cL_law 1394 = .ok (.aload_n 0, 1) := by decide +kernel
theorem dL_law_1395 : decode cL_law 1395 = .ok (.iload_n 3, 1) := by decide +kernel
theorem dL_law_1396 : decode cL_law 1396 = .ok (.iconst 3, 1) := by decide +kernel
theorem dL_law_1397 : decode cL_law 1397 = .ok (.iadd, 1) := by decide +kernel
theorem dL_law_1398 : decode cL_law 1398 = .ok (.iaload, 1) := by decide +kernel
theorem dL_law_1399 : decode cL_law 1399 = .ok (.invokevirtual 191, 3) := by decide +kernel
theorem dL_law_1402 : decode cL_law 1402 = .ok (.pop, 1) := by decide +kernel
theorem dL_law_1403 : decode cL_law 1403 = .ok (.aload_n 2, 1) := by decide +kernel
theorem dL_law_1404 : decode cL_law 1404 = .ok (.aload_n 0, 1) := by decide +kernel
theorem dL_law_1405 : decode cL_law 1405 = .ok (.iload_n 3, 1) := by decide +kernel
theorem dL_law_1406 : decode cL_law 1406 = .ok (.iconst 1, 1) := by decide +kernel
theorem dL_law_1407 : decode cL_law 1407 = .ok (.iadd, 1) := by decide +kernel
theorem dL_law_1408 : decode cL_law 1408 = .ok (.iaload, 1) := by decide +kernel
theorem dL_law_1409 : decode cL_law 1409 = .ok (.aload_n 0, 1) := by decide +kernel
theorem dL_law_1410 : decode cL_law 1410 = .ok (.iload_n 3, 1) := by decide +kernel
theorem dL_law_1411 : decode cL_law 1411 = .ok (.iconst 2, 1) := by decide +kernel
theorem dL_law_1412 : decode cL_law 1412 = .ok (.iadd, 1) := by decide +kernel
theorem dL_law_1413 : decode cL_law 1413 = .ok (.iaload, 1) := by decide +kernel
theorem dL_law_1414 : decode cL_law 1414 = .ok (.aload_n 0, 1) := by decide +kernel
theorem dL_law_1415 : decode cL_law 1415 = .ok (.iload_n 3, 1) := by decide +kernel
theorem dL_law_1416 : decode cL_law 1416 = .ok (.iconst 3, 1) := by decide +kernel
theorem dL_law_1417 : decode cL_law 1417 = .ok (.iadd, 1) := by decide +kernel
theorem dL_law_1418 : decode cL_law 1418 = .ok (.iaload, 1) := by decide +kernel
theorem dL_law_1419 : decode cL_law 1419 = .ok (.invokevirtual 195, 3) := by decide +kernel
theorem dL_law_1422 : decode cL_law 1422 = .ok (.pop, 1) := by decide +kernel
theorem dL_law_1423 : decode cL_law 1423 = .ok (.goto 148, 3) := by decide +kernel
theorem dL_law_1426 : decode cL_law 1426 = .ok (.aload_n 1, 1) := by decide +kernel
theorem dL_law_1427 : decode cL_law 1427 = .ok (.aload_n 0, 1) := by decide +kernel
theorem dL_law_1428 : decode cL_law 1428 = .ok (.iload_n 3, 1) := by decide +kernel
theorem dL_law_1429 : decode cL_law 1429 = .ok (.iconst 1, 1) := by decide +kernel
theorem dL_law_1430 : decode cL_law 1430 = .ok (.iadd, 1) := by decide +kernel
theorem dL_law_1431 : decode cL_law 1431 = .ok (.iaload, 1) := by decide +kernel
theorem dL_law_1432 : decode cL_law 1432 = .ok (.aload_n 0, 1) := by decide +kernel
theorem dL_law_1433 : decode cL_law 1433 = .ok (.iload_n 3, 1) := by decide +kernel
theorem dL_law_1434 : decode cL_law 1434 = .ok (.iconst 2, 1) := by decide +kernel
theorem dL_law_1435 : decode cL_law 1435 = .ok (.iadd, 1) := by decide +kernel
theorem dL_law_1436 : decode cL_law 1436 = .ok (.iaload, 1) := by decide +kernel
theorem dL_law_1437 : decode cL_law 1437 = .ok (.aload_n 0, 1) := by decide +kernel
theorem dL_law_1438 : decode cL_law 1438 = .ok (.iload_n 3, 1) := by decide +kernel
theorem dL_law_1439 : decode cL_law 1439 = .ok (.iconst 3, 1) := by decide +kernel
theorem dL_law_1440 : decode cL_law 1440 = .ok (.iadd, 1) := by decide +kernel
theorem dL_law_1441 : decode cL_law 1441 = .ok (.iaload, 1) := by decide +kernel
theorem dL_law_1442 : decode cL_law 1442 = .ok (.invokevirtual 196, 3) := by decide +kernel
theorem dL_law_1445 : decode cL_law 1445 = .ok (.pop, 1) := by decide +kernel
theorem dL_law_1446 : decode cL_law 1446 = .ok (.aload_n 2, 1) := by decide +kernel
theorem dL_law_1447 : decode cL_law 1447 = .ok (.aload_n 0, 1) := by decide +kernel
theorem dL_law_1448 : decode cL_law 1448 = .ok (.iload_n 3, 1) := by decide +kernel
theorem dL_law_1449 : decode cL_law 1449 = .ok (.iconst 1, 1) := by decide +kernel
theorem dL_law_1450 : decode cL_law 1450 = .ok (.iadd, 1) := by decide +kernel
theorem dL_law_1451 : decode cL_law 1451 = .ok (.iaload, 1) := by decide +kernel
theorem dL_law_1452 : decode cL_law 1452 = .ok (.aload_n 0, 1) := by decide +kernel
theorem dL_law_1453 : decode cL_law 1453 = .ok (.iload_n 3, 1) := by decide +kernel
theorem dL_law_1454 : decode cL_law 1454 = .ok (.iconst 2, 1) := by decide +kernel
theorem dL_law_1455 : decode cL_law 1455 = .ok (.iadd, 1) := by decide +kernel
theorem dL_law_1456 : decode cL_law 1456 = .ok (.iaload, 1) := by decide +kernel
theorem dL_law_1457 : decode cL_law 1457 = .ok (.aload_n 0, 1) := by decide +kernel
theorem dL_law_1458 : decode cL_law 1458 = .ok (.iload_n 3, 1) := by decide +kernel
theorem dL_law_1459 : decode cL_law 1459 = .ok (.iconst 3, 1) := by decide +kernel
theorem dL_law_1460 : decode cL_law 1460 = .ok (.iadd, 1) := by decide +kernel
theorem dL_law_1461 : decode cL_law 1461 = .ok (.iaload, 1) := by decide +kernel
theorem dL_law_1462 : decode cL_law 1462 = .ok (.invokevirtual 199, 3) := by decide +kernel
theorem dL_law_1465 : decode cL_law 1465 = .ok (.pop, 1) := by decide +kernel
theorem dL_law_1466 : decode cL_law 1466 = .ok (.goto 105, 3) := by decide +kernel
theorem dL_law_1469 : decode cL_law 1469 = .ok (.aload_n 1, 1) := by decide +kernel
theorem dL_law_1470 : decode cL_law 1470 = .ok (.aload_n 0, 1) := by decide +kernel
theorem dL_law_1471 : decode cL_law 1471 = .ok (.iload_n 3, 1) := by decide +kernel
theorem dL_law_1472 : decode cL_law 1472 = .ok (.iconst 1, 1) := by decide +kernel
theorem dL_law_1473 : decode cL_law 1473 = .ok (.iadd, 1) := by decide +kernel
theorem dL_law_1474 : decode cL_law 1474 = .ok (.iaload, 1) := by decide +kernel
theorem dL_law_1475 : decode cL_law 1475 = .ok (.aload_n 0, 1) := by decide +kernel
theorem dL_law_1476 : decode cL_law 1476 = .ok (.iload_n 3, 1) := by decide +kernel
theorem dL_law_1477 : decode cL_law 1477 = .ok (.iconst 2, 1) := by decide +kernel
theorem dL_law_1478 : decode cL_law 1478 = .ok (.iadd, 1) := by decide +kernel
theorem dL_law_1479 : decode cL_law 1479 = .ok (.iaload, 1) := by decide +kernel
theorem dL_law_1480 : decode cL_law 1480 = .ok (.invokevirtual 200, 3) := by decide +kernel
theorem dL_law_1483 : decode cL_law 1483 = .ok (.pop, 1) := by decide +kernel
theorem dL_law_1484 : decode cL_law 1484 = .ok (.aload_n 2, 1) := by decide +kernel
theorem dL_law_1485 : decode cL_law 1485 = .ok (.aload_n 0, 1) := by decide +kernel
theorem dL_law_1486 : decode cL_law 1486 = .ok (.iload_n 3, 1) := by decide +kernel
theorem dL_law_1487 : decode cL_law 1487 = .ok (.iconst 1, 1) := by decide +kernel
theorem dL_law_1488 : decode cL_law 1488 = .ok (.iadd, 1) := by decide +kernel
theorem dL_law_1489 : decode cL_law 1489 = .ok (.iaload, 1) := by decide +kernel
theorem dL_law_1490 : decode cL_law 1490 = .ok (.aload_n 0, 1) := by decide +kernel
theorem dL_law_1491 : decode cL_law 1491 = .ok (.iload_n 3, 1) := by decide +kernel
theorem dL_law_1492 : decode cL_law 1492 = .ok (.iconst 2, 1) := by decide +kernel
theorem dL_law_1493 : decode cL_law 1493 = .ok (.iadd, 1) := by decide +kernel
theorem dL_law_1494 : decode cL_law 1494 = .ok (.iaload, 1) := by decide +kernel
theorem dL_law_1495 : decode cL_law 1495 = .ok (.invokevirtual 203, 3) := by decide +kernel
theorem dL_law_1498 : decode cL_law 1498 = .ok (.pop, 1) := by decide +kernel
theorem dL_law_1499 : decode cL_law 1499 = .ok (.goto 72, 3) := by decide +kernel
theorem dL_law_1502 : decode cL_law 1502 = .ok (.aload_n 1, 1) := by decide +kernel
theorem dL_law_1503 : decode cL_law 1503 = .ok (.aload_n 0, 1) := by decide +kernel
theorem dL_law_1504 : decode cL_law 1504 = .ok (.iload_n 3, 1) := by decide +kernel
theorem dL_law_1505 : decode cL_law 1505 = .ok (.iconst 1, 1) := by decide +kernel
theorem dL_law_1506 : decode cL_law 1506 = .ok (.iadd, 1) := by decide +kernel
theorem dL_law_1507 : decode cL_law 1507 = .ok (.iaload, 1) := by decide +kernel
theorem dL_law_1508 : decode cL_law 1508 = .ok (.aload_n 0, 1) := by decide +kernel
theorem dL_law_1509 : decode cL_law 1509 = .ok (.iload_n 3, 1) := by decide +kernel
theorem dL_law_1510 : decode cL_law 1510 = .ok (.iconst 2, 1) := by decide +kernel
theorem dL_law_1511 : decode cL_law 1511 = .ok (.iadd, 1) := by decide +kernel
theorem dL_law_1512 : decode cL_law 1512 = .ok (.iaload, 1) := by decide +kernel
theorem dL_law_1513 : decode cL_law 1513 = .ok (.aload_n 0, 1) := by decide +kernel
theorem dL_law_1514 : decode cL_law 1514 = .ok (.iload_n 3, 1) := by decide +kernel
theorem dL_law_1515 : decode cL_law 1515 = .ok (.iconst 3, 1) := by decide +kernel
theorem dL_law_1516 : decode cL_law 1516 = .ok (.iadd, 1) := by decide +kernel
theorem dL_law_1517 : decode cL_law 1517 = .ok (.iaload, 1) := by decide +kernel
theorem dL_law_1518 : decode cL_law 1518 = .ok (.invokevirtual 204, 3) := by decide +kernel
theorem dL_law_1521 : decode cL_law 1521 = .ok (.pop, 1) := by decide +kernel
theorem dL_law_1522 : decode cL_law 1522 = .ok (.aload_n 2, 1) := by decide +kernel
theorem dL_law_1523 : decode cL_law 1523 = .ok (.aload_n 0, 1) := by decide +kernel
theorem dL_law_1524 : decode cL_law 1524 = .ok (.iload_n 3, 1) := by decide +kernel
theorem dL_law_1525 : decode cL_law 1525 = .ok (.iconst 1, 1) := by decide +kernel
theorem dL_law_1526 : decode cL_law 1526 = .ok (.iadd, 1) := by decide +kernel
theorem dL_law_1527 : decode cL_law 1527 = .ok (.iaload, 1) := by decide +kernel
theorem dL_law_1528 : decode cL_law 1528 = .ok (.aload_n 0, 1) := by decide +kernel
theorem dL_law_1529 : decode cL_law 1529 = .ok (.iload_n 3, 1) := by decide +kernel
theorem dL_law_1530 : decode cL_law 1530 = .ok (.iconst 2, 1) := by decide +kernel
theorem dL_law_1531 : decode cL_law 1531 = .ok (.iadd, 1) := by decide +kernel
theorem dL_law_1532 : decode cL_law 1532 = .ok (.iaload, 1) := by decide +kernel
theorem dL_law_1533 : decode cL_law 1533 = .ok (.aload_n 0, 1) := by decide +kernel
theorem dL_law_1534 : decode cL_law 1534 = .ok (.iload_n 3, 1) := by decide +kernel
theorem dL_law_1535 : decode cL_law 1535 = .ok (.iconst 3, 1) := by decide +kernel
theorem dL_law_1536 : decode cL_law 1536 = .ok (.iadd, 1) := by decide +kernel
theorem dL_law_1537 : decode cL_law 1537 = .ok (.iaload, 1) := by decide +kernel
theorem dL_law_1538 : decode cL_law 1538 = .ok (.invokevirtual 207, 3) := by decide +kernel
theorem dL_law_1541 : decode cL_law 1541 = .ok (.pop, 1) := by decide +kernel
theorem dL_law_1542 : decode cL_law 1542 = .ok (.goto 29, 3) := by decide +kernel
theorem dL_law_1545 : decode cL_law 1545 = .ok (.aload_n 1, 1) := by decide +kernel
theorem dL_law_1546 : decode cL_law 1546 = .ok (.invokevirtual 208, 3) := by decide +kernel
theorem dL_law_1549 : decode cL_law 1549 = .ok (.pop, 1) := by decide +kernel
theorem dL_law_1550 : decode cL_law 1550 = .ok (.aload_n 2, 1) := by decide +kernel
theorem dL_law_1551 : decode cL_law 1551 = .ok (.invokevirtual 211, 3) := by decide +kernel
theorem dL_law_1554 : decode cL_law 1554 = .ok (.pop, 1) := by decide +kernel
theorem dL_law_1555 : decode cL_law 1555 = .ok (.goto 16, 3) := by decide +kernel
theorem dL_law_1558 : decode cL_law 1558 = .ok (.aload_n 1, 1) := by decide +kernel
theorem dL_law_1559 : decode cL_law 1559 = .ok (.invokevirtual 212, 3) := by decide +kernel
theorem dL_law_1562 : decode cL_law 1562 = .ok (.pop2, 1) := by decide +kernel
theorem dL_law_1563 : decode cL_law 1563 = .ok (.aload_n 2, 1) := by decide +kernel
theorem dL_law_1564 : decode cL_law 1564 = .ok (.invokevirtual 216, 3) := by decide +kernel
theorem dL_law_1567 : decode cL_law 1567 = .ok (.pop2, 1) := by decide +kernel
theorem dL_law_1568 : decode cL_law 1568 = .ok (.goto 3, 3) := by decide +kernel
theorem dL_law_1571 : decode cL_law 1571 = .ok (.iinc 3 4, 3) := by decide +kernel
theorem dL_law_1574 : decode cL_law 1574 = .ok (.goto (-1556), 3) := by decide +kernel
theorem dL_law_1577 : decode cL_law 1577 = .ok (.iconst 1, 1) := by decide +kernel
theorem dL_law_1578 : decode cL_law 1578 = .ok (.ireturn, 1) := by decide +kernel
def memE : Mem := (((0, 0), (fun _ => (999, 0)), (fun _ _ => NUL)), (fun _ _ => 0), (fun _ _ => 0))
theorem kcl_inst {k : Nat} {C : String} {T : u_T} {N : Nat} (h : kcl[k]? = some (C, T, N)) : Cond.instantiable C N ∈ lw_g := by
  match k with
  | 0 => cases h; exact wd494
  | 1 => cases h; exact wd192
  | 2 => cases h; exact wd237
  | 3 => cases h; exact wd302
  | 4 => cases h; exact wd320
  | 5 => cases h; exact wd243
  | 6 => cases h; exact wd517
  | 7 => cases h; exact wd154
  | 8 => cases h; exact wd186
  | 9 => cases h; exact wd146
  | 10 => cases h; exact wd1415
  | n + 11 => simp [kcl] at h
theorem st_el {args : Array Value} {s : State} {tm : Term} {f : Nat → Value} {N : Nat} (h : ∀ j, j < N → (Term.elem tm (.int (Int32.ofNat j))).eval args s none [] s = some (f j)) : ∀ j : Nat, j < N → (Term.elem tm (.int (Int32.ofNat j))).eval args s none [] s = some (f j) := h
theorem start_K {args : Array Value} {s : State} (hts : ∀ w ∈ lw_tbl, w.before args s = true) (hgv : (Jvm.Cond.and given_1 narrow_1).before args s = true) : ∃ G : Gam, gB G = s.heap.size ∧ va_K (gD G) kcl (gT G) s ∧ Stx G s s.heap := by
  have htg : ∀ w ∈ lw_g, w.before args s = true := fun w hw => hts w (List.mem_filter.mp hw).1
  have hkn : ∀ k : Nat, ∃ q : ClassId × (Nat → Nat), ∀ (C : String) (T : u_T) (N : Nat), kcl[k]? = some (C, T, N) → u_Kn s C T N q.1 q.2 := by
    intro k
    cases hk : kcl[k]? with
    | none => exact ⟨(0, fun _ => 0), fun C T N h => by cases h⟩
    | some q =>
      obtain ⟨C, T, N⟩ := q
      obtain ⟨c, iS, h⟩ := u_known (ws := lw_g) htg (uin hk) (htg _ (kcl_inst hk))
      exact ⟨(c, iS), fun C' T' N' h' => by cases h'; exact h⟩
  obtain ⟨cI, kI, mI0, i1, i2, i3⟩ := Cond.arrayClass_spec (htg _ wd184)
  obtain ⟨cJ, kJ, mJ0, j1, j2, j3⟩ := Cond.arrayClass_spec (htg _ wd207)
  have hAO : va_AO RX4 s := va_AO.of (hts (Cond.arrayOver (.object RX4)) (List.mem_append_right _ (List.mem_of_getElem? (i := 175) (by decide +kernel))))
  have hs := flat_of_before _ hgv
  have hA : ∀ a : Nat, a < s.heap.size → ¬ (s.heap.size ≤ a) := fun a h => Nat.not_le.mpr h
  obtain ⟨tP, p1, p2⟩ := va_Tof (A := fun q => s.heap.size ≤ q) (tm := .static "QuorumGate$Sets" "PLANE_STEPS" "[I") (ty := .int) (N := 4) (f := v_PS) (by decide) (hs _ (by decide +kernel)) (va_eqt (hs _ (by decide +kernel))) (fun j hj => by
    match j, hj with
    | 0, _ => exact va_eqt (z := 0) (hs _ (by decide +kernel))
    | 1, _ => exact va_eqt (z := 1) (hs _ (by decide +kernel))
    | 2, _ => exact va_eqt (z := 3) (hs _ (by decide +kernel))
    | 3, _ => exact va_eqt (z := 9) (hs _ (by decide +kernel))
    | j + 4, h => exact absurd h (by omega)) hA
  obtain ⟨tH, h1, h2⟩ := va_Tof (A := fun q => s.heap.size ≤ q) (tm := .static "QuorumGate$Family" "HAVING" "[J") (ty := .long) (N := 6) (f := fun j => .long (l_HV j)) (by decide) (hs _ (by decide +kernel)) (va_eqt (hs _ (by decide +kernel))) (fun j hj => by
    match j, hj with
    | 0, _ => exact va_eqtl (z := -6148914691236517206) (hs _ (by decide +kernel))
    | 1, _ => exact va_eqtl (z := -3689348814741910324) (hs _ (by decide +kernel))
    | 2, _ => exact va_eqtl (z := -1085102592571150096) (hs _ (by decide +kernel))
    | 3, _ => exact va_eqtl (z := -71777214294589696) (hs _ (by decide +kernel))
    | 4, _ => exact va_eqtl (z := -281470681808896) (hs _ (by decide +kernel))
    | 5, _ => exact va_eqtl (z := -4294967296) (hs _ (by decide +kernel))
    | j + 6, h => exact absurd h (by omega)) hA
  obtain ⟨tO, o1, o2⟩ := va_Tof (A := fun q => s.heap.size ≤ q) (tm := .static "QuorumGate$Family" "OF_SIZE" "[J") (ty := .long) (N := 7) (f := fun j => .long (l_OS j)) (by decide) (hs _ (by decide +kernel)) (va_eqt (hs _ (by decide +kernel))) (fun j hj => by
    match j, hj with
    | 0, _ => exact va_eqtl (z := 1) (hs _ (by decide +kernel))
    | 1, _ => exact va_eqtl (z := 4295033110) (hs _ (by decide +kernel))
    | 2, _ => exact va_eqtl (z := 282668995843688) (hs _ (by decide +kernel))
    | 3, _ => exact va_eqtl (z := 78274679833913472) (hs _ (by decide +kernel))
    | 4, _ => exact va_eqtl (z := 1614655367130677248) (hs _ (by decide +kernel))
    | 5, _ => exact va_eqtl (z := 7530159316599308288) (hs _ (by decide +kernel))
    | 6, _ => exact va_eqtl (z := -9223372036854775808) (hs _ (by decide +kernel))
    | j + 7, h => exact absurd h (by omega)) hA
  obtain ⟨kA, comp, f2, f3, f4, cP, f1⟩ : ∃ (kA : Class) (comp : ClassId) (_ : True) (_ : True) (_ : True) (cP : ClassId), s.vm.findClass ("[" ++ (FieldType.object RX4).toString) = some cP ∧ s.vm.classes[cP]? = some kA ∧ kA.kind = .array comp (.object RX4) ∧ s.vm.findClass RX4 = some comp := by
    obtain ⟨comp, c, k, r1, r2, r3, r4, r5⟩ := Cond.arrayOver_spec (va_AO.use (A := args) hAO)
    exact ⟨k, comp, trivial, trivial, trivial, c, r5, r3, r4, r1⟩
  obtain ⟨f1, g2, g3, g4⟩ := f1
  refine ⟨((fun k => (Classical.choose (hkn k)).1, fun k => (Classical.choose (hkn k)).2), (cI, cJ, cP), s.heap.size, (tP, tH, tO)), rfl, ⟨fun k q hq => ?_, fun k q hq => ?_⟩, ?_, hAO, ?_, ?_, ?_⟩
  · obtain ⟨C, T, N⟩ := q
    exact Classical.choose_spec (hkn k) C T N hq
  · match k, hq with
    | 0, hq => cases hq; exact ⟨fun n z => ⟨fun k h => (by cases h), kI, i2, mI0, i3⟩, i1⟩
    | 1, hq => cases hq; exact ⟨fun n z => ⟨fun k h => (by cases h), kJ, j2, mJ0, j3⟩, j1⟩
    | 2, hq => cases hq; exact ⟨fun n z => ⟨fun k h => (by cases h), kA, g2, comp, g3⟩, kA, comp, g2, g3, g4, f1⟩
    | k + 3, hq => simp [gT] at hq
  · intro w hw
    have h1 : w ∈ lw_tbl := by
      refine List.mem_append_right _ ?_
      simp only [lw_nst, List.mem_cons, List.not_mem_nil, or_false] at hw
      rcases hw with rfl | rfl | rfl | rfl | rfl | rfl | rfl | rfl | rfl | rfl | rfl | rfl | rfl | rfl | rfl | rfl
      all_goals first
        | exact List.mem_of_getElem? (i := 30) (by decide +kernel)
        | exact List.mem_of_getElem? (i := 62) (by decide +kernel)
        | exact List.mem_of_getElem? (i := 68) (by decide +kernel)
        | exact List.mem_of_getElem? (i := 119) (by decide +kernel)
        | exact List.mem_of_getElem? (i := 196) (by decide +kernel)
        | exact List.mem_of_getElem? (i := 370) (by decide +kernel)
        | exact List.mem_of_getElem? (i := 586) (by decide +kernel)
        | exact List.mem_of_getElem? (i := 713) (by decide +kernel)
        | exact List.mem_of_getElem? (i := 810) (by decide +kernel)
        | exact List.mem_of_getElem? (i := 886) (by decide +kernel)
        | exact List.mem_of_getElem? (i := 899) (by decide +kernel)
        | exact List.mem_of_getElem? (i := 919) (by decide +kernel)
        | exact List.mem_of_getElem? (i := 1101) (by decide +kernel)
        | exact List.mem_of_getElem? (i := 1155) (by decide +kernel)
        | exact List.mem_of_getElem? (i := 1197) (by decide +kernel)
        | exact List.mem_of_getElem? (i := 1223) (by decide +kernel)
    have h2 : w.onTables = true := by
      simp only [lw_nst, List.mem_cons, List.not_mem_nil, or_false] at hw
      rcases hw with rfl | rfl | rfl | rfl | rfl | rfl | rfl | rfl | rfl | rfl | rfl | rfl | rfl | rfl | rfl | rfl <;> rfl
    exact va_Nw.of h2 (hts w h1)
  · exact ⟨va_Zof (hts _ (List.mem_append_right _ (List.mem_of_getElem? (i := 534) (by decide +kernel)))) (htg _ wd127) p1 hA, p2⟩
  · exact ⟨va_Zof (hts _ (List.mem_append_right _ (List.mem_of_getElem? (i := 695) (by decide +kernel)))) (htg _ wd129) h1 hA, h2⟩
  · exact ⟨va_Zof (hts _ (List.mem_append_right _ (List.mem_of_getElem? (i := 712) (by decide +kernel)))) (htg _ wd129) o1 hA, o2⟩
/-! ===== pure rows: the memory, and the small methods of the reference ===== -/
theorem chk_t {α : Type} {c : Prop} [Decidable c] {x : Option α} (h : c) : chk c x = x := if_pos h
theorem bnd_e {α β : Type} (a : α) (f : α → Option β) : bnd a f = f a := rfl
theorem obd_s {α β : Type} (a : α) (k : α → Option β) : obd (some a) k = k a := rfl
theorem obd2_s {α β : Type} (a : α) (M : Mem) (k : α → Mem → Option β) : obd2 (some (a, M)) k = k a M := rfl
theorem mI_sI (M : Mem) (o k : Nat) (x : Int32) (a b : Nat) : mI (sI M o k x) a b = if a = o ∧ b = k then x else mI M a b := rfl
theorem mI_s (M : Mem) (o k : Nat) (x : Int32) : mI (sI M o k x) o k = x := by simp [mI_sI]
theorem mI_n (M : Mem) (o k : Nat) (x : Int32) {b : Nat} (h : b ≠ k) : mI (sI M o k x) o b = mI M o b := by simp [mI_sI, h]
theorem mI_o (M : Mem) (o k : Nat) (x : Int32) {a : Nat} (b : Nat) (h : a ≠ o) : mI (sI M o k x) a b = mI M a b := by simp [mI_sI, h]
/-- the reference r with its row A -/
def RK (M : Mem) (r A : Nat) : Prop := isO M 10 r ∧ mR M r 0 = A ∧ isO M 100 A ∧ mLn M A = 10465
theorem RK.s {M : Mem} {r A : Nat} (h : RK M r A) (o k : Nat) (x : Int32) : RK (sI M o k x) r A := h
theorem inB_n {n N : Nat} (h : n < N) (hN : N < 2 ^ 31) : inB (nI n) N := vp_in_nI h hN
theorem rk_in {M : Mem} {r A k : Nat} (h : RK M r A) (hk : k < 10465) : inB (nI k) (mLn M A) := by
  rw [h.2.2.2]; exact inB_n hk (by decide)
theorem f_get {M : Mem} {r A v w : Nat} (h : RK M r A) (hv : v < 16) (hw : w < 8) : f_X10_get r (nI v) (nI w) M = some (mI M A (18 + 8 * v + w)) := by
  have e : ((18 : Int32) + ((8 : Int32) * nI v)) + nI w = nI (18 + 8 * v + w) := by
    rw [show (18 : Int32) = nI 18 from rfl, show (8 : Int32) = nI 8 from rfl, pk_mul, nI_add, nI_add]
  rw [f_X10_get, chk_t h.1, bnd_e, h.2.1, chk_t h.2.2.1, e, chk_t (rk_in h (by omega)), nI_clamp (by omega)]
theorem f_let {M : Mem} {r A v w : Nat} {x : Int32} (h : RK M r A) (hv : v < 16) (hw : w < 8) : f_X10_let r (nI v) (nI w) x M = some (sI M A (18 + 8 * v + w) x) := by
  have e : ((18 : Int32) + ((8 : Int32) * nI v)) + nI w = nI (18 + 8 * v + w) := by
    rw [show (18 : Int32) = nI 18 from rfl, show (8 : Int32) = nI 8 from rfl, pk_mul, nI_add, nI_add]
  rw [f_X10_let, chk_t h.1, bnd_e, h.2.1, chk_t h.2.2.1, e, chk_t (rk_in h (by omega)), nI_clamp (by omega), bnd_e]
theorem f_of {M : Mem} {r A v w : Nat} (h : RK M r A) (hv : v < 16) (hw : w < 44) : f_X10_of r (nI v) (nI w) M = some (mI M A (146 + 44 * v + w)) := by
  have e : ((146 : Int32) + ((44 : Int32) * nI v)) + nI w = nI (146 + 44 * v + w) := by
    rw [show (146 : Int32) = nI 146 from rfl, show (44 : Int32) = nI 44 from rfl, pk_mul, nI_add, nI_add]
  rw [f_X10_of, chk_t h.1, bnd_e, h.2.1, chk_t h.2.2.1, e, chk_t (rk_in h (by omega)), nI_clamp (by omega)]
theorem f_put {M : Mem} {r A v w : Nat} {x : Int32} (h : RK M r A) (hv : v < 16) (hw : w < 44) : f_X10_put r (nI v) (nI w) x M = some (sI M A (146 + 44 * v + w) x) := by
  have e : ((146 : Int32) + ((44 : Int32) * nI v)) + nI w = nI (146 + 44 * v + w) := by
    rw [show (146 : Int32) = nI 146 from rfl, show (44 : Int32) = nI 44 from rfl, pk_mul, nI_add, nI_add]
  rw [f_X10_put, chk_t h.1, bnd_e, h.2.1, chk_t h.2.2.1, e, chk_t (rk_in h (by omega)), nI_clamp (by omega), bnd_e]
theorem f_baseOf {M : Mem} {r A v : Nat} (h : RK M r A) (hv : v < 16) : f_X10_baseOf r (nI v) M = some (mI M A (2 + v)) := by
  have e : (2 : Int32) + nI v = nI (2 + v) := by rw [show (2 : Int32) = nI 2 from rfl, nI_add]
  rw [f_X10_baseOf, chk_t h.1, bnd_e, h.2.1, chk_t h.2.2.1, e, chk_t (rk_in h (by omega)), nI_clamp (by omega)]
/-- the first loop of begin: all behind the bases is 0 -/
def zA (M : Mem) (A lo hi : Nat) : Mem := (M.1, (fun a b => if a = A ∧ lo ≤ b ∧ b < hi then 0 else M.2.1 a b), M.2.2)
theorem begin_l1 {r A : Nat} {v1 v2 : Int32} (d j : Nat) : ∀ (M : Mem), d ≤ 10465 → RK M r A → f_X10_begin_3 (d + j + 1) r v1 v2 (nI (10465 - d)) M = f_X10_begin_3 (j + 1) r v1 v2 (nI 10465) (zA M A (10465 - d) 10465) := by
  induction d with
  | zero =>
    intro M _ h
    have e : zA M A 10465 10465 = M := by
      have : (fun a b => if a = A ∧ 10465 ≤ b ∧ b < 10465 then (0 : Int32) else M.2.1 a b) = M.2.1 := by
        funext a b
        rw [if_neg (by omega)]
      simp only [zA, Nat.sub_zero, this]
    rw [Nat.zero_add, Nat.sub_zero, e]
  | succ d ih =>
    intro M hd h
    have hk : 10465 - (d + 1) < 10465 := by omega
    have e1 : nI (10465 - (d + 1)) + 1 = nI (10465 - d) := by rw [nI_1]; congr 1; omega
    have hn : ¬ (10465 : Int32) ≤ nI (10465 - (d + 1)) := by
      rw [show (10465 : Int32) = nI 10465 from rfl]
      exact nI_ge hk (by decide)
    rw [show d + 1 + j + 1 = (d + j + 1) + 1 by omega, f_X10_begin_3, if_neg hn, chk_t h.1, bnd_e, h.2.1, chk_t h.2.2.1, chk_t (rk_in h hk), bnd_e, bnd_e, e1, nI_clamp (by omega), ih _ (by omega) (h.s _ _ _)]
    have e2 : zA (sI M A (10465 - (d + 1)) 0) A (10465 - d) 10465 = zA M A (10465 - (d + 1)) 10465 := by
      simp only [zA, sI]
      refine Prod.ext rfl (Prod.ext ?_ rfl)
      funext a b
      show (if a = A ∧ 10465 - d ≤ b ∧ b < 10465 then 0 else up2 M.2.1 A (10465 - (d + 1)) 0 a b) = if a = A ∧ 10465 - (d + 1) ≤ b ∧ b < 10465 then 0 else M.2.1 a b
      by_cases h1 : a = A ∧ 10465 - d ≤ b ∧ b < 10465
      · rw [if_pos h1, if_pos (by omega)]
      · rw [if_neg h1]
        by_cases h2 : a = A ∧ b = 10465 - (d + 1)
        · rw [up2, if_pos h2, if_pos (by omega)]
        · rw [up2, if_neg h2, if_neg (by omega)]
    rw [e2]
def bgf (f : Nat → Int32) (N t : Int32) (b : Nat) : Int32 := if b = 0 then N else if b = 1 then t else if b < 18 then f b else if b < 146 then 0 else if b < 850 then (if (b - 146) % 44 = 0 then -1 else 0) else if b < 10209 then 0 else if b < 10465 then 1 else f b
def wA (M : Mem) (A : Nat) (f : Nat → Int32) : Mem := (M.1, (fun a b => if a = A then f b else M.2.1 a b), M.2.2)
theorem wA_e {M M1 : Mem} {A : Nat} {f : Nat → Int32} (h1 : M1.1 = M.1) (h3 : M1.2.2 = M.2.2) (h2 : ∀ a b, a ≠ A → M1.2.1 a b = M.2.1 a b) (h4 : ∀ b, M1.2.1 A b = f b) : M1 = wA M A f := by
  refine Prod.ext h1 (Prod.ext ?_ h3)
  funext a b
  show M1.2.1 a b = if a = A then f b else M.2.1 a b
  by_cases h : a = A
  · rw [if_pos h, h, h4]
  · rw [if_neg h, h2 a b h]
def pG (M : Mem) (A lo : Nat) : Mem := (M.1, (fun a b => if a = A ∧ 146 + 44 * lo ≤ b ∧ b < 850 ∧ (b - 146) % 44 = 0 then -1 else M.2.1 a b), M.2.2)
def pW (M : Mem) (A lo : Nat) : Mem := (M.1, (fun a b => if a = A ∧ 10209 + lo ≤ b ∧ b < 10465 then 1 else M.2.1 a b), M.2.2)
theorem begin_l3 {r A : Nat} (d j : Nat) : ∀ (M : Mem), d ≤ 256 → RK M r A → f_X10_begin_68 (d + j + 1) r (nI (256 - d)) M = some (pW M A (256 - d)) := by
  induction d with
  | zero =>
    intro M _ h
    have e : pW M A 256 = M := by
      have : (fun a b => if a = A ∧ 10209 + 256 ≤ b ∧ b < 10465 then (1 : Int32) else M.2.1 a b) = M.2.1 := by
        funext a b
        rw [if_neg (by omega)]
      simp only [pW, this]
    rw [Nat.zero_add, Nat.sub_zero, f_X10_begin_68, if_pos (by rw [show (256 : Int32) = nI 256 from rfl]; exact nI_le (Nat.le_refl _) (by decide)), e]
  | succ d ih =>
    intro M hd h
    have hk : 256 - (d + 1) < 256 := by omega
    have e1 : nI (256 - (d + 1)) + 1 = nI (256 - d) := by rw [nI_1]; congr 1; omega
    have e0 : (10209 : Int32) + nI (256 - (d + 1)) = nI (10209 + (256 - (d + 1))) := by rw [show (10209 : Int32) = nI 10209 from rfl, nI_add]
    have hn : ¬ (256 : Int32) ≤ nI (256 - (d + 1)) := by
      rw [show (256 : Int32) = nI 256 from rfl]
      exact nI_ge hk (by decide)
    rw [show d + 1 + j + 1 = (d + j + 1) + 1 by omega, f_X10_begin_68, if_neg hn, chk_t h.1, bnd_e, h.2.1, chk_t h.2.2.1, e0, chk_t (rk_in h (by omega)), bnd_e, bnd_e, e1, nI_clamp (by omega), ih _ (by omega) (h.s _ _ _)]
    refine congrArg some (Prod.ext rfl (Prod.ext ?_ rfl))
    funext a b
    show (if a = A ∧ 10209 + (256 - d) ≤ b ∧ b < 10465 then 1 else up2 M.2.1 A (10209 + (256 - (d + 1))) 1 a b) = if a = A ∧ 10209 + (256 - (d + 1)) ≤ b ∧ b < 10465 then 1 else M.2.1 a b
    by_cases h1 : a = A ∧ 10209 + (256 - d) ≤ b ∧ b < 10465
    · rw [if_pos h1, if_pos (by omega)]
    · rw [if_neg h1]
      by_cases h2 : a = A ∧ b = 10209 + (256 - (d + 1))
      · rw [up2, if_pos h2, if_pos (by omega)]
      · rw [up2, if_neg h2, if_neg (by omega)]
theorem begin_l2 {r A : Nat} (d j : Nat) : ∀ (M : Mem), d ≤ 16 → RK M r A → f_X10_begin_47 (d + j + 1) r (nI (16 - d)) M = f_X10_begin_68 j r 0 (pG M A (16 - d)) := by
  induction d with
  | zero =>
    intro M _ h
    have e : pG M A 16 = M := by
      have : (fun a b => if a = A ∧ 146 + 44 * 16 ≤ b ∧ b < 850 ∧ (b - 146) % 44 = 0 then (-1 : Int32) else M.2.1 a b) = M.2.1 := by
        funext a b
        rw [if_neg (by omega)]
      simp only [pG, this]
    rw [Nat.zero_add, Nat.sub_zero, f_X10_begin_47, if_pos (by rw [show (16 : Int32) = nI 16 from rfl]; exact nI_le (Nat.le_refl _) (by decide)), e]
  | succ d ih =>
    intro M hd h
    have hk : 16 - (d + 1) < 16 := by omega
    have e1 : nI (16 - (d + 1)) + 1 = nI (16 - d) := by rw [nI_1]; congr 1; omega
    have hn : ¬ (16 : Int32) ≤ nI (16 - (d + 1)) := by
      rw [show (16 : Int32) = nI 16 from rfl]
      exact nI_ge hk (by decide)
    have hp := f_put (x := -1) h (v := 16 - (d + 1)) (w := 0) (by omega) (by decide)
    rw [show d + 1 + j + 1 = (d + j + 1) + 1 by omega, f_X10_begin_47, if_neg hn, chk_t h.1, show (0 : Int32) = nI 0 from rfl, hp, obd_s, bnd_e, e1, ih _ (by omega) (h.s _ _ _)]
    congr 1
    refine Prod.ext rfl (Prod.ext ?_ rfl)
    funext a b
    show (if a = A ∧ 146 + 44 * (16 - d) ≤ b ∧ b < 850 ∧ (b - 146) % 44 = 0 then -1 else up2 M.2.1 A (146 + 44 * (16 - (d + 1)) + 0) (-1) a b) = if a = A ∧ 146 + 44 * (16 - (d + 1)) ≤ b ∧ b < 850 ∧ (b - 146) % 44 = 0 then -1 else M.2.1 a b
    by_cases h1 : a = A ∧ 146 + 44 * (16 - d) ≤ b ∧ b < 850 ∧ (b - 146) % 44 = 0
    · rw [if_pos h1, if_pos (by omega)]
    · rw [if_neg h1]
      by_cases h2 : a = A ∧ b = 146 + 44 * (16 - (d + 1)) + 0
      · rw [up2, if_pos h2, if_pos (by omega)]
      · rw [up2, if_neg h2, if_neg (by omega)]
theorem f_begin {r A n : Nat} {M : Mem} {N t : Int32} (h : RK M r A) (hn : 11000 ≤ n) : f_X10_begin n r N t M = some (wA M A (bgf (mI M A) N (if t = 0 then 0 else 1))) := by
  obtain ⟨j, rfl⟩ : ∃ j, n = 10447 + (j + 300) + 1 := ⟨n - 10748, by omega⟩
  have h1 := begin_l1 (v1 := N) (v2 := t) 10447 (j + 300) M (by decide) h
  rw [f_X10_begin, show (18 : Int32) = nI (10465 - 10447) from rfl, h1]
  have hz : RK (zA M A (10465 - 10447) 10465) r A := h
  generalize hZ : zA M A (10465 - 10447) 10465 = Z at hz ⊢
  have key : ∀ x : Int32, f_X10_begin_47 (j + 300) r (nI (16 - 16)) (sI (sI Z A 0 N) A 1 x) = some (pW (pG (sI (sI Z A 0 N) A 1 x) A 0) A 0) := by
    intro x
    have h2 := begin_l2 16 (j + 283) (sI (sI Z A 0 N) A 1 x) (Nat.le_refl _) hz
    rw [show j + 300 = 16 + (j + 283) + 1 by omega, h2]
    have h3 := begin_l3 256 (j + 26) (pG (sI (sI Z A 0 N) A 1 x) A (16 - 16)) (Nat.le_refl _) hz
    rw [show j + 283 = 256 + (j + 26) + 1 by omega]
    exact h3
  have i0 : inB (0 : Int32) (mLn Z A) := rk_in hz (k := 0) (by decide)
  have i1 : inB (1 : Int32) (mLn Z A) := rk_in hz (k := 1) (by decide)
  have fin : ∀ x : Int32, pW (pG (sI (sI Z A 0 N) A 1 x) A 0) A 0 = wA M A (bgf (mI M A) N x) := by
    intro x
    subst hZ
    refine wA_e rfl rfl (fun a b hne => ?_) (fun b => ?_)
    · show (if a = A ∧ 10209 + 0 ≤ b ∧ b < 10465 then 1 else if a = A ∧ 146 + 44 * 0 ≤ b ∧ b < 850 ∧ (b - 146) % 44 = 0 then -1 else up2 (up2 (fun a b => if a = A ∧ 10465 - 10447 ≤ b ∧ b < 10465 then 0 else M.2.1 a b) A 0 N) A 1 x a b) = M.2.1 a b
      simp [up2, hne]
    · show (if A = A ∧ 10209 + 0 ≤ b ∧ b < 10465 then 1 else if A = A ∧ 146 + 44 * 0 ≤ b ∧ b < 850 ∧ (b - 146) % 44 = 0 then -1 else up2 (up2 (fun a b => if a = A ∧ 10465 - 10447 ≤ b ∧ b < 10465 then 0 else M.2.1 a b) A 0 N) A 1 x A b) = bgf (mI M A) N x b
      simp only [up2, bgf, true_and]
      by_cases c0 : b = 0
      · subst c0; rfl
      · by_cases c1 : b = 1
        · subst c1; rfl
        · rw [if_neg c0, if_neg c1]
          by_cases c2 : b < 18
          · rw [if_pos c2, if_neg (by omega), if_neg (by omega), if_neg c1, if_neg c0, if_neg (by omega)]
            rfl
          · rw [if_neg c2]
            by_cases c3 : b < 146
            · rw [if_pos c3, if_neg (by omega), if_neg (by omega), if_neg c1, if_neg c0, if_pos (by omega)]
            · rw [if_neg c3]
              by_cases c4 : b < 850
              · rw [if_pos c4, if_neg (by omega)]
                by_cases c5 : (b - 146) % 44 = 0
                · rw [if_pos (by omega), if_pos c5]; try rw [if_neg c0, if_neg c1]
                · rw [if_neg (by omega), if_neg c5, if_neg c1, if_neg c0, if_pos (by omega)]
              · rw [if_neg c4]
                by_cases c5 : b < 10209
                · rw [if_pos c5, if_neg (by omega), if_neg (by omega), if_neg c1, if_neg c0, if_pos (by omega)]
                · rw [if_neg c5]
                  by_cases c6 : b < 10465
                  · rw [if_pos c6, if_pos (by omega)]; try rw [if_neg c0, if_neg c1]
                  · rw [if_neg c6, if_neg (by omega), if_neg (by omega), if_neg c1, if_neg c0, if_neg (by omega)]
                    rfl
  rw [f_X10_begin_3, if_pos (by rw [show (10465 : Int32) = nI 10465 from rfl]; exact nI_le (Nat.le_refl _) (by decide)), chk_t hz.1, bnd_e, hz.2.1, chk_t hz.2.2.1, chk_t i0, bnd_e, bnd_e]
  have e0 : (0 : Int32).toNatClampNeg = 0 := by decide
  have e1 : (1 : Int32).toNatClampNeg = 1 := by decide
  have hz1 := hz.s A 0 N
  rw [show sI Z A ((0 : Int32)).toNatClampNeg N = sI Z A 0 N from rfl, hz1.2.1, chk_t hz1.2.2.1]
  by_cases ht : t = 0
  · rw [if_pos ht, if_pos ht, chk_t (show inB (1 : Int32) (mLn (sI Z A 0 N) A) from i1), bnd_e, show sI (sI Z A 0 N) A ((1 : Int32)).toNatClampNeg 0 = sI (sI Z A 0 N) A 1 0 from rfl]
    have := key 0
    rw [fin] at this
    exact this
  · rw [if_neg ht, if_neg ht, chk_t (show inB (1 : Int32) (mLn (sI Z A 0 N) A) from i1), bnd_e, show sI (sI Z A 0 N) A ((1 : Int32)).toNatClampNeg 1 = sI (sI Z A 0 N) A 1 1 from rfl]
    have := key 1
    rw [fin] at this
    exact this
/-! ===== the fresh objects: the class' cells 0 .. 119, the reference 120 with its arrays 121 .. 130 ===== -/
def FU : Nat := 200000
def Mx : Mem := (f_X9_init FU 0 (nw memE 9 0 6)).getD memE
set_option maxRecDepth 1000000 in
theorem Mx_k : (f_X9_init FU 0 (nw memE 9 0 6)).isSome = true ∧ mN Mx = 120 ∧ mU Mx = 7630 := by decide +kernel
theorem Mx_ok : f_X9_init FU 0 (nw memE 9 0 6) = some Mx := by
  have h := Mx_k.1
  unfold Mx
  cases hh : f_X9_init FU 0 (nw memE 9 0 6) with
  | none => rw [hh] at h; cases h
  | some a => rfl
def tC : List (Nat × Nat) := [(9, 0), (7, 0), (100, 16), (100, 16), (100, 16), (8, 0), (1, 0), (101, 1024), (1, 0), (101, 1024), (101, 17), (100, 305), (100, 16), (100, 16), (2, 0), (5, 0), (100, 256), (100, 256), (100, 256), (100, 16), (100, 6), (100, 64), (100, 64), (100, 64), (102, 16), (3, 0), (100, 120), (3, 0), (100, 160), (100, 16), (100, 16), (4, 0), (100, 16), (4, 0), (100, 16), (4, 0), (100, 16), (4, 0), (100, 16), (4, 0), (100, 16), (4, 0), (100, 16), (4, 0), (100, 16), (4, 0), (100, 16), (4, 0), (100, 16), (4, 0), (100, 16), (4, 0), (100, 16), (4, 0), (100, 16), (4, 0), (100, 16), (4, 0), (100, 16), (4, 0), (100, 16), (4, 0), (100, 16), (2, 0), (5, 0), (100, 256), (100, 256), (100, 256), (100, 16), (100, 6), (100, 64), (100, 64), (100, 64), (102, 16), (3, 0), (100, 120), (3, 0), (100, 160), (100, 16), (100, 16), (4, 0), (100, 16), (4, 0), (100, 16), (4, 0), (100, 16), (4, 0), (100, 16), (4, 0), (100, 16), (4, 0), (100, 16), (4, 0), (100, 16), (4, 0), (100, 16), (4, 0), (100, 16), (4, 0), (100, 16), (4, 0), (100, 16), (4, 0), (100, 16), (4, 0), (100, 16), (4, 0), (100, 16), (4, 0), (100, 16), (4, 0), (100, 16), (0, 0), (100, 256), (6, 0), (100, 41), (100, 40), (100, 40), (100, 16), (100, 1024), (10, 0), (100, 10465), (100, 16), (100, 9000), (100, 288), (100, 16), (100, 10465), (100, 16), (100, 393320), (100, 40), (100, 16)]
def tF : List (Nat × Nat × Nat) := [(0, 0, 1), (0, 1, 5), (0, 2, 14), (0, 3, 63), (0, 4, 112), (0, 5, 114), (1, 0, 2), (1, 1, 3), (1, 2, 4), (5, 0, 6), (5, 1, 8), (5, 2, 10), (5, 3, 11), (5, 4, 12), (5, 5, 13), (6, 0, 7), (8, 0, 9), (14, 0, 1), (14, 1, 15), (14, 2, 24), (14, 3, 25), (14, 4, 27), (14, 5, 29), (14, 6, 30), (15, 0, 16), (15, 1, 17), (15, 2, 18), (15, 3, 19), (15, 4, 20), (15, 5, 21), (15, 6, 22), (15, 7, 23), (24, 0, 31), (24, 1, 33), (24, 2, 35), (24, 3, 37), (24, 4, 39), (24, 5, 41), (24, 6, 43), (24, 7, 45), (24, 8, 47), (24, 9, 49), (24, 10, 51), (24, 11, 53), (24, 12, 55), (24, 13, 57), (24, 14, 59), (24, 15, 61), (25, 1, 26), (27, 1, 28), (31, 10, 32), (33, 10, 34), (35, 10, 36), (37, 10, 38), (39, 10, 40), (41, 10, 42), (43, 10, 44), (45, 10, 46), (47, 10, 48), (49, 10, 50), (51, 10, 52), (53, 10, 54), (55, 10, 56), (57, 10, 58), (59, 10, 60), (61, 10, 62), (63, 0, 1), (63, 1, 64), (63, 2, 73), (63, 3, 74), (63, 4, 76), (63, 5, 78), (63, 6, 79), (64, 0, 65), (64, 1, 66), (64, 2, 67), (64, 3, 68), (64, 4, 69), (64, 5, 70), (64, 6, 71), (64, 7, 72), (73, 0, 80), (73, 1, 82), (73, 2, 84), (73, 3, 86), (73, 4, 88), (73, 5, 90), (73, 6, 92), (73, 7, 94), (73, 8, 96), (73, 9, 98), (73, 10, 100), (73, 11, 102), (73, 12, 104), (73, 13, 106), (73, 14, 108), (73, 15, 110), (74, 1, 75), (76, 1, 77), (80, 10, 81), (82, 10, 83), (84, 10, 85), (86, 10, 87), (88, 10, 89), (90, 10, 91), (92, 10, 93), (94, 10, 95), (96, 10, 97), (98, 10, 99), (100, 10, 101), (102, 10, 103), (104, 10, 105), (106, 10, 107), (108, 10, 109), (110, 10, 111), (112, 0, 113), (114, 0, 63), (114, 1, 115), (114, 2, 116), (114, 3, 117), (114, 4, 118), (114, 5, 119)]
def tG : List (Nat × Nat × Nat) := [(120, 0, 121), (120, 1, 122), (120, 2, 123), (120, 4, 124), (120, 5, 125), (120, 9, 126), (120, 10, 127), (120, 11, 128), (120, 12, 129), (120, 19, 130)]
theorem mN_al (M : Mem) (a b c r k x : Nat) : mN (sR (nw M a b c) r k x) = mN M + 1 := rfl
theorem mU_al (M : Mem) (a b c r k x : Nat) : mU (sR (nw M a b c) r k x) = mU M + c := rfl
theorem al {β : Type} {M : Mem} {r k ln : Nat} {x : Int32} {f : Mem → Option β} (hx : ¬ x < 0) (hz : x.toNatClampNeg = ln) (h : mN M + 1 ≤ CAP ∧ mU M + ln ≤ CAPU) : (chk (¬ x < 0) <| chk (mN M + 1 ≤ CAP ∧ mU M + x.toNatClampNeg ≤ CAPU) <| bnd (mN M) fun o => bnd (nw M 100 x.toNatClampNeg x.toNatClampNeg) fun M3 => bnd (sR M3 r k o) f) = f (sR (nw M 100 ln ln) r k (mN M)) := by
  subst hz
  rw [chk_t hx, chk_t h, bnd_e, bnd_e, bnd_e]
def mA (M : Mem) : Mem := sR (nw (sR (nw (sR (nw (sR (nw (sR (nw (sR (nw (sR (nw (sR (nw (sR (nw (sR (nw M 100 10465 10465) 120 0 121) 100 16 16) 120 1 122) 100 9000 9000) 120 2 123) 100 288 288) 120 4 124) 100 16 16) 120 5 125) 100 10465 10465) 120 9 126) 100 16 16) 120 10 127) 100 393320 393320) 120 11 128) 100 40 40) 120 12 129) 100 16 16) 120 19 130
set_option maxRecDepth 100000 in
theorem init_pre {n : Nat} {M : Mem} (hN : mN M = 121) (hU : mU M = 7655) (ho : isO M 10 120) : f_X10_init n 120 M = obd2 (f_X10_makeGrid n 120 (2 : Int32) (mA M)) fun _ M213 => some M213 := by
  rw [f_X10_init, chk_t (by decide), chk_t (by rw [hN, hU]; decide), bnd_e, bnd_e, chk_t (io_nw rfl ho), bnd_e]
  rw [show sR (nw M 100 ((10465 : Int32)).toNatClampNeg ((10465 : Int32)).toNatClampNeg) 120 0 (mN M) = sR (nw M 100 10465 10465) 120 0 121 by rw [hN]; rfl]
  rw [al (ln := 16) (by decide) rfl (by simp only [mN_al, mU_al, hN, hU]; decide)]
  rw [show sR (nw (sR (nw M 100 10465 10465) 120 0 121) 100 16 16) 120 1 (mN (sR (nw M 100 10465 10465) 120 0 121)) = sR (nw (sR (nw M 100 10465 10465) 120 0 121) 100 16 16) 120 1 122 by simp only [mN_al, hN]]
  rw [al (ln := 9000) (by decide) rfl (by simp only [mN_al, mU_al, hN, hU]; decide)]
  rw [show sR (nw (sR (nw (sR (nw M 100 10465 10465) 120 0 121) 100 16 16) 120 1 122) 100 9000 9000) 120 2 (mN (sR (nw (sR (nw M 100 10465 10465) 120 0 121) 100 16 16) 120 1 122)) = sR (nw (sR (nw (sR (nw M 100 10465 10465) 120 0 121) 100 16 16) 120 1 122) 100 9000 9000) 120 2 123 by simp only [mN_al, hN]]
  rw [al (ln := 288) (by decide) rfl (by simp only [mN_al, mU_al, hN, hU]; decide)]
  rw [show sR (nw (sR (nw (sR (nw (sR (nw M 100 10465 10465) 120 0 121) 100 16 16) 120 1 122) 100 9000 9000) 120 2 123) 100 288 288) 120 4 (mN (sR (nw (sR (nw (sR (nw M 100 10465 10465) 120 0 121) 100 16 16) 120 1 122) 100 9000 9000) 120 2 123)) = sR (nw (sR (nw (sR (nw (sR (nw M 100 10465 10465) 120 0 121) 100 16 16) 120 1 122) 100 9000 9000) 120 2 123) 100 288 288) 120 4 124 by simp only [mN_al, hN]]
  rw [al (ln := 16) (by decide) rfl (by simp only [mN_al, mU_al, hN, hU]; decide)]
  rw [show sR (nw (sR (nw (sR (nw (sR (nw (sR (nw M 100 10465 10465) 120 0 121) 100 16 16) 120 1 122) 100 9000 9000) 120 2 123) 100 288 288) 120 4 124) 100 16 16) 120 5 (mN (sR (nw (sR (nw (sR (nw (sR (nw M 100 10465 10465) 120 0 121) 100 16 16) 120 1 122) 100 9000 9000) 120 2 123) 100 288 288) 120 4 124)) = sR (nw (sR (nw (sR (nw (sR (nw (sR (nw M 100 10465 10465) 120 0 121) 100 16 16) 120 1 122) 100 9000 9000) 120 2 123) 100 288 288) 120 4 124) 100 16 16) 120 5 125 by simp only [mN_al, hN]]
  rw [al (ln := 10465) (by decide) rfl (by simp only [mN_al, mU_al, hN, hU]; decide)]
  rw [show sR (nw (sR (nw (sR (nw (sR (nw (sR (nw (sR (nw M 100 10465 10465) 120 0 121) 100 16 16) 120 1 122) 100 9000 9000) 120 2 123) 100 288 288) 120 4 124) 100 16 16) 120 5 125) 100 10465 10465) 120 9 (mN (sR (nw (sR (nw (sR (nw (sR (nw (sR (nw M 100 10465 10465) 120 0 121) 100 16 16) 120 1 122) 100 9000 9000) 120 2 123) 100 288 288) 120 4 124) 100 16 16) 120 5 125)) = sR (nw (sR (nw (sR (nw (sR (nw (sR (nw (sR (nw M 100 10465 10465) 120 0 121) 100 16 16) 120 1 122) 100 9000 9000) 120 2 123) 100 288 288) 120 4 124) 100 16 16) 120 5 125) 100 10465 10465) 120 9 126 by simp only [mN_al, hN]]
  rw [al (ln := 16) (by decide) rfl (by simp only [mN_al, mU_al, hN, hU]; decide)]
  rw [show sR (nw (sR (nw (sR (nw (sR (nw (sR (nw (sR (nw (sR (nw M 100 10465 10465) 120 0 121) 100 16 16) 120 1 122) 100 9000 9000) 120 2 123) 100 288 288) 120 4 124) 100 16 16) 120 5 125) 100 10465 10465) 120 9 126) 100 16 16) 120 10 (mN (sR (nw (sR (nw (sR (nw (sR (nw (sR (nw (sR (nw M 100 10465 10465) 120 0 121) 100 16 16) 120 1 122) 100 9000 9000) 120 2 123) 100 288 288) 120 4 124) 100 16 16) 120 5 125) 100 10465 10465) 120 9 126)) = sR (nw (sR (nw (sR (nw (sR (nw (sR (nw (sR (nw (sR (nw M 100 10465 10465) 120 0 121) 100 16 16) 120 1 122) 100 9000 9000) 120 2 123) 100 288 288) 120 4 124) 100 16 16) 120 5 125) 100 10465 10465) 120 9 126) 100 16 16) 120 10 127 by simp only [mN_al, hN]]
  rw [al (ln := 393320) (by decide) rfl (by simp only [mN_al, mU_al, hN, hU]; decide)]
  rw [show sR (nw (sR (nw (sR (nw (sR (nw (sR (nw (sR (nw (sR (nw (sR (nw M 100 10465 10465) 120 0 121) 100 16 16) 120 1 122) 100 9000 9000) 120 2 123) 100 288 288) 120 4 124) 100 16 16) 120 5 125) 100 10465 10465) 120 9 126) 100 16 16) 120 10 127) 100 393320 393320) 120 11 (mN (sR (nw (sR (nw (sR (nw (sR (nw (sR (nw (sR (nw (sR (nw M 100 10465 10465) 120 0 121) 100 16 16) 120 1 122) 100 9000 9000) 120 2 123) 100 288 288) 120 4 124) 100 16 16) 120 5 125) 100 10465 10465) 120 9 126) 100 16 16) 120 10 127)) = sR (nw (sR (nw (sR (nw (sR (nw (sR (nw (sR (nw (sR (nw (sR (nw M 100 10465 10465) 120 0 121) 100 16 16) 120 1 122) 100 9000 9000) 120 2 123) 100 288 288) 120 4 124) 100 16 16) 120 5 125) 100 10465 10465) 120 9 126) 100 16 16) 120 10 127) 100 393320 393320) 120 11 128 by simp only [mN_al, hN]]
  rw [al (ln := 40) (by decide) rfl (by simp only [mN_al, mU_al, hN, hU]; decide)]
  rw [show sR (nw (sR (nw (sR (nw (sR (nw (sR (nw (sR (nw (sR (nw (sR (nw (sR (nw M 100 10465 10465) 120 0 121) 100 16 16) 120 1 122) 100 9000 9000) 120 2 123) 100 288 288) 120 4 124) 100 16 16) 120 5 125) 100 10465 10465) 120 9 126) 100 16 16) 120 10 127) 100 393320 393320) 120 11 128) 100 40 40) 120 12 (mN (sR (nw (sR (nw (sR (nw (sR (nw (sR (nw (sR (nw (sR (nw (sR (nw M 100 10465 10465) 120 0 121) 100 16 16) 120 1 122) 100 9000 9000) 120 2 123) 100 288 288) 120 4 124) 100 16 16) 120 5 125) 100 10465 10465) 120 9 126) 100 16 16) 120 10 127) 100 393320 393320) 120 11 128)) = sR (nw (sR (nw (sR (nw (sR (nw (sR (nw (sR (nw (sR (nw (sR (nw (sR (nw M 100 10465 10465) 120 0 121) 100 16 16) 120 1 122) 100 9000 9000) 120 2 123) 100 288 288) 120 4 124) 100 16 16) 120 5 125) 100 10465 10465) 120 9 126) 100 16 16) 120 10 127) 100 393320 393320) 120 11 128) 100 40 40) 120 12 129 by simp only [mN_al, hN]]
  rw [al (ln := 16) (by decide) rfl (by simp only [mN_al, mU_al, hN, hU]; decide)]
  rw [show sR (nw (sR (nw (sR (nw (sR (nw (sR (nw (sR (nw (sR (nw (sR (nw (sR (nw (sR (nw M 100 10465 10465) 120 0 121) 100 16 16) 120 1 122) 100 9000 9000) 120 2 123) 100 288 288) 120 4 124) 100 16 16) 120 5 125) 100 10465 10465) 120 9 126) 100 16 16) 120 10 127) 100 393320 393320) 120 11 128) 100 40 40) 120 12 129) 100 16 16) 120 19 (mN (sR (nw (sR (nw (sR (nw (sR (nw (sR (nw (sR (nw (sR (nw (sR (nw (sR (nw M 100 10465 10465) 120 0 121) 100 16 16) 120 1 122) 100 9000 9000) 120 2 123) 100 288 288) 120 4 124) 100 16 16) 120 5 125) 100 10465 10465) 120 9 126) 100 16 16) 120 10 127) 100 393320 393320) 120 11 128) 100 40 40) 120 12 129)) = sR (nw (sR (nw (sR (nw (sR (nw (sR (nw (sR (nw (sR (nw (sR (nw (sR (nw (sR (nw M 100 10465 10465) 120 0 121) 100 16 16) 120 1 122) 100 9000 9000) 120 2 123) 100 288 288) 120 4 124) 100 16 16) 120 5 125) 100 10465 10465) 120 9 126) 100 16 16) 120 10 127) 100 393320 393320) 120 11 128) 100 40 40) 120 12 129) 100 16 16) 120 19 130 by simp only [mN_al, hN]]
  rfl
def MA0 : Mem := mA (nw Mx 10 0 25)
set_option maxRecDepth 1000000 in
theorem MA_t : ((List.range 131).all (fun i => decide (MA0.1.2.1 i = tC.getD i (0, 0)))) = true ∧ (tF.all (fun q => decide (mR MA0 q.1 q.2.1 = q.2.2))) = true ∧ (tG.all (fun q => decide (mR MA0 q.1 q.2.1 = q.2.2))) = true ∧ mN MA0 = 131 := by decide +kernel
theorem MA_c {i : Nat} (h : i < 131) : MA0.1.2.1 i = tC.getD i (0, 0) := of_decide_eq_true (List.all_eq_true.mp MA_t.1 i (List.mem_range.mpr h))
theorem MA_RK : RK MA0 120 121 := by
  refine ⟨⟨?_, ?_⟩, ?_, ⟨?_, ?_⟩, ?_⟩
  · rw [MA_t.2.2.2]; decide
  · simp only [mC, MA_c (show 120 < 131 by decide)]; decide
  · exact of_decide_eq_true (List.all_eq_true.mp MA_t.2.2.1 (120, 0, 121) (by decide))
  · rw [MA_t.2.2.2]; decide
  · simp only [mC, MA_c (show 121 < 131 by decide)]; decide
  · simp only [mLn, MA_c (show 121 < 131 by decide)]; decide
/-! ===== Int32 by its bits (the first family of kit/laws/BITS, pasted; then rows of our own) ===== -/
def bt (x : Int32) (i : Nat) : Bool := x.toBitVec.getLsbD i
theorem b_ext {x y : Int32} (h : ∀ i, i < 32 → bt x i = bt y i) : x = y := Int32.toBitVec_inj.mp (BitVec.eq_of_getLsbD_eq (fun i hi => h i hi))
theorem b_or (x y : Int32) (i : Nat) : bt (x ||| y) i = (bt x i || bt y i) := by unfold bt; rw [Int32.toBitVec_or, BitVec.getLsbD_or]
theorem b_and (x y : Int32) (i : Nat) : bt (x &&& y) i = (bt x i && bt y i) := by unfold bt; rw [Int32.toBitVec_and, BitVec.getLsbD_and]
theorem b_xor (x y : Int32) (i : Nat) : bt (x ^^^ y) i = (bt x i ^^ bt y i) := by unfold bt; rw [Int32.toBitVec_xor, BitVec.getLsbD_xor]
theorem b_big {x : Int32} {i : Nat} (h : 32 ≤ i) : bt x i = false := BitVec.getLsbD_of_ge _ _ h
theorem b_m1 : ∀ i, i < 32 → bt (-1) i = true := by decide +kernel
theorem b_0 (i : Nat) : bt 0 i = false := BitVec.getLsbD_zero
theorem s_l : ∀ n, n < 32 → ((nI n &&& 31).toBitVec.smod 32).toNat = n := by decide +kernel
theorem b_shl (n : Nat) (hn : n < 32) (x : Int32) {i : Nat} (hi : i < 32) : bt (x <<< (nI n &&& 31)) i = (decide (n ≤ i) && bt x (i - n)) := by
  unfold bt
  rw [Int32.toBitVec_shiftLeft]
  show (x.toBitVec <<< ((nI n &&& 31).toBitVec.smod 32).toNat).getLsbD i = _
  rw [s_l n hn, BitVec.getLsbD_shiftLeft]
  rcases Nat.lt_or_ge i n with h | h
  · simp [h, Nat.not_le.mpr h]
  · simp [hi, h, Nat.not_lt.mpr h]
theorem b_sshr (n : Nat) (hn : n < 32) (x : Int32) {i : Nat} (hi : i < 32) : bt (x >>> (nI n &&& 31)) i = if n + i < 32 then bt x (n + i) else bt x 31 := by
  unfold bt
  rw [Int32.toBitVec_shiftRight]
  show (x.toBitVec.sshiftRight ((nI n &&& 31).toBitVec.smod 32).toNat).getLsbD i = _
  rw [s_l n hn, BitVec.getLsbD_sshiftRight, BitVec.msb_eq_getLsbD_last]
  simp [hi]
theorem nx_and (a b : Nat) : nI a &&& nI b = nI (a &&& b) := by
  apply Int32.toBitVec_inj.1
  show BitVec.ofNat 32 a &&& BitVec.ofNat 32 b = BitVec.ofNat 32 (a &&& b)
  apply BitVec.eq_of_getLsbD_eq
  intro i hi
  simp [hi]
theorem b_1 : ∀ i, i < 32 → bt 1 i = decide (i = 0) := by decide +kernel
theorem b_one {v i : Nat} (hv : v < 32) (hi : i < 32) : bt ((1 : Int32) <<< (nI v &&& 31)) i = decide (i = v) := by
  rw [b_shl v hv 1 hi, b_1 _ (by omega)]
  by_cases h : i = v
  · subst h; simp
  · by_cases h2 : v ≤ i
    · have : ¬ i - v = 0 := by omega
      simp [h, this]
    · simp [h, h2]
theorem b_not (x : Int32) {i : Nat} (hi : i < 32) : bt (x ^^^ (-1 : Int32)) i = !bt x i := by
  rw [b_xor, b_m1 i hi]; simp
def bon (x : Int32) (v : Nat) : Int32 := x ||| ((1 : Int32) <<< (nI v &&& 31))
def bof (x : Int32) (v : Nat) : Int32 := x &&& (((1 : Int32) <<< (nI v &&& 31)) ^^^ (-1 : Int32))
theorem bt_on (x : Int32) {v i : Nat} (hv : v < 32) (hi : i < 32) : bt (bon x v) i = (bt x i || decide (i = v)) := by
  rw [bon, b_or, b_one hv hi]
theorem bt_off (x : Int32) {v i : Nat} (hv : v < 32) (hi : i < 32) : bt (bof x v) i = (bt x i && !decide (i = v)) := by
  rw [bof, b_and, b_not _ hi, b_one hv hi]
theorem bt_minus (x y : Int32) {i : Nat} (hi : i < 32) : bt (x &&& (y ^^^ (-1 : Int32))) i = (bt x i && !bt y i) := by
  rw [b_and, b_not _ hi]
theorem sh_bit (x : Int32) {v : Nat} (hv : v < 32) : ((x >>> (nI v &&& 31)) &&& (1 : Int32)) = if bt x v then 1 else 0 := by
  apply b_ext
  intro i hi
  rw [b_and, b_sshr v hv x hi, b_1 i hi]
  by_cases h : i = 0
  · subst h
    simp only [Nat.add_zero, hv, if_true, decide_true, Bool.and_true]
    cases bt x v
    · simp [b_0]
    · simp [b_1 0 (by decide)]
  · have h1 : bt 1 i = false := by rw [b_1 i hi]; simp [h]
    cases bt x v <;> simp [h, h1, b_0]
theorem ne10 : ¬ (1 : Int32) = 0 := by decide
theorem ne01 : ¬ (0 : Int32) = 1 := by decide
theorem f_has9 (x : Int32) {v : Nat} (hv : v < 32) (M : Mem) : f_X9_has x (nI v) M = some (if bt x v then 1 else 0) := by
  rw [f_X9_has, sh_bit x hv]
  cases bt x v
  · simp
  · simp [ne10]
theorem f_has10 (x : Int32) {v : Nat} (hv : v < 32) (M : Mem) : f_X10_has x (nI v) M = some (if bt x v then 1 else 0) := by
  rw [f_X10_has, sh_bit x hv]
  cases bt x v
  · simp [ne01]
  · simp
theorem f_with (x : Int32) (v : Nat) (M : Mem) : f_X10_with x (nI v) M = some (bon x v) := rfl
theorem f_without (x : Int32) (v : Nat) (M : Mem) : f_X10_without0 x (nI v) M = some (bof x v) := rfl
theorem bt_z {x : Int32} : x = 0 ↔ ∀ i, i < 32 → bt x i = false :=
  ⟨fun h i _ => by rw [h, b_0], fun h => b_ext fun i hi => by rw [h i hi, b_0]⟩
/-! ===== the model's state: registers, who waits, letters, the book, the trace; how the reference's row holds it ===== -/
abbrev Ltr : Type := Int32 × Int32 × Int32
abbrev Wtr : Type := Nat × Int32
abbrev Row4 : Type := Int32 × Int32 × Int32 × Int32
abbrev St : Type := (Nat → Nat → Int32) × (Nat → List Wtr) × (Nat → List Ltr) × List Row4 × List Row4
def xR (S : St) : Nat → Nat → Int32 := S.1
def xW (S : St) : Nat → List Wtr := S.2.1
def xL (S : St) : Nat → List Ltr := S.2.2.1
def xE (S : St) : List Row4 := S.2.2.2.1
def xT (S : St) : List Row4 := S.2.2.2.2
def up1 {α : Type} (f : Nat → α) (o : Nat) (x : α) : Nat → α := fun a => if a = o then x else f a
theorem up1_s {α : Type} (f : Nat → α) (o : Nat) (x : α) : up1 f o x o = x := by simp [up1]
theorem up1_o {α : Type} (f : Nat → α) (o : Nat) (x : α) {a : Nat} (h : a ≠ o) : up1 f o x a = f a := by simp [up1, h]
def uR (S : St) (k i : Nat) (x : Int32) : St := (up2 S.1 k i x, S.2)
def uW (S : St) (a : Nat) (w : List Wtr) : St := (S.1, up1 S.2.1 a w, S.2.2)
def uL (S : St) (l : Nat) (x : List Ltr) : St := (S.1, S.2.1, up1 S.2.2.1 l x, S.2.2.2)
def uE (S : St) (x : Row4) : St := (S.1, S.2.1, S.2.2.1, S.2.2.2.1 ++ [x], S.2.2.2.2)
def uT (S : St) (x : Row4) : St := (S.1, S.2.1, S.2.2.1, S.2.2.2.1, S.2.2.2.2 ++ [x])
theorem xR_uR (S : St) (k i : Nat) (x : Int32) (a b : Nat) : xR (uR S k i x) a b = if a = k ∧ b = i then x else xR S a b := rfl
theorem xR_uW (S : St) (a : Nat) (w : List Wtr) : xR (uW S a w) = xR S := rfl
theorem xR_uL (S : St) (l : Nat) (x : List Ltr) : xR (uL S l x) = xR S := rfl
theorem xR_uE (S : St) (x : Row4) : xR (uE S x) = xR S := rfl
theorem xR_uT (S : St) (x : Row4) : xR (uT S x) = xR S := rfl
theorem xW_uR (S : St) (k i : Nat) (x : Int32) : xW (uR S k i x) = xW S := rfl
theorem xW_uW (S : St) (a : Nat) (w : List Wtr) (b : Nat) : xW (uW S a w) b = if b = a then w else xW S b := rfl
theorem xW_uL (S : St) (l : Nat) (x : List Ltr) : xW (uL S l x) = xW S := rfl
theorem xW_uE (S : St) (x : Row4) : xW (uE S x) = xW S := rfl
theorem xW_uT (S : St) (x : Row4) : xW (uT S x) = xW S := rfl
theorem xL_uR (S : St) (k i : Nat) (x : Int32) : xL (uR S k i x) = xL S := rfl
theorem xL_uW (S : St) (a : Nat) (w : List Wtr) : xL (uW S a w) = xL S := rfl
theorem xL_uL (S : St) (l : Nat) (x : List Ltr) (m : Nat) : xL (uL S l x) m = if m = l then x else xL S m := rfl
theorem xL_uE (S : St) (x : Row4) : xL (uE S x) = xL S := rfl
theorem xL_uT (S : St) (x : Row4) : xL (uT S x) = xL S := rfl
/-- where the reference's row holds register k of i -/
def ad (k i : Nat) : Nat := if k < 8 then 18 + 8 * i + k else if k < 11 then 146 + 44 * i + (k - 8) else if k < 15 then 9865 + 3 * i + (k - 12) else if k = 15 then 9851 + i else if k = 16 then 9859 + i else if k = 17 then 2 + i else if k = 18 then 10193 + i else if k = 19 then 10209 + i else i
def vk (k i : Nat) : Prop := (k < 11 ∧ i < 16) ∨ (12 ≤ k ∧ k < 15 ∧ i < 16) ∨ (k = 15 ∧ i < 6) ∨ (k = 16 ∧ i < 6) ∨ (k = 17 ∧ i < 16) ∨ (k = 18 ∧ i < 16) ∨ (k = 19 ∧ i < 256) ∨ (k = 20 ∧ i < 2)
theorem ad_cases {k i : Nat} (h : vk k i) : (k < 8 ∧ i < 16 ∧ ad k i = 18 + 8 * i + k) ∨ (8 ≤ k ∧ k < 11 ∧ i < 16 ∧ ad k i = 146 + 44 * i + (k - 8)) ∨ (12 ≤ k ∧ k < 15 ∧ i < 16 ∧ ad k i = 9865 + 3 * i + (k - 12)) ∨ (k = 15 ∧ i < 6 ∧ ad k i = 9851 + i) ∨ (k = 16 ∧ i < 6 ∧ ad k i = 9859 + i) ∨ (k = 17 ∧ i < 16 ∧ ad k i = 2 + i) ∨ (k = 18 ∧ i < 16 ∧ ad k i = 10193 + i) ∨ (k = 19 ∧ i < 256 ∧ ad k i = 10209 + i) ∨ (k = 20 ∧ i < 2 ∧ ad k i = i) := by
  unfold vk at h
  have a1 : k < 8 → ad k i = 18 + 8 * i + k := fun q => by unfold ad; rw [if_pos q]
  have a2 : ¬ k < 8 → k < 11 → ad k i = 146 + 44 * i + (k - 8) := fun q q2 => by unfold ad; rw [if_neg q, if_pos q2]
  have a3 : ¬ k < 11 → k < 15 → ad k i = 9865 + 3 * i + (k - 12) := fun q q2 => by unfold ad; rw [if_neg (by omega), if_neg q, if_pos q2]
  have a4 : k = 15 → ad k i = 9851 + i := fun q => by subst q; rfl
  have a5 : k = 16 → ad k i = 9859 + i := fun q => by subst q; rfl
  have a6 : k = 17 → ad k i = 2 + i := fun q => by subst q; rfl
  have a7 : k = 18 → ad k i = 10193 + i := fun q => by subst q; rfl
  have a8 : k = 19 → ad k i = 10209 + i := fun q => by subst q; rfl
  have a9 : k = 20 → ad k i = i := fun q => by subst q; rfl
  rcases h with ⟨h1, h2⟩ | ⟨h1, h2, h3⟩ | ⟨h1, h2⟩ | ⟨h1, h2⟩ | ⟨h1, h2⟩ | ⟨h1, h2⟩ | ⟨h1, h2⟩ | ⟨h1, h2⟩
  · by_cases q : k < 8
    · exact Or.inl ⟨q, h2, a1 q⟩
    · exact Or.inr (Or.inl ⟨Nat.le_of_not_lt q, h1, h2, a2 q h1⟩)
  · exact Or.inr (Or.inr (Or.inl ⟨h1, h2, h3, a3 (by omega) h2⟩))
  · exact Or.inr (Or.inr (Or.inr (Or.inl ⟨h1, h2, a4 h1⟩)))
  · exact Or.inr (Or.inr (Or.inr (Or.inr (Or.inl ⟨h1, h2, a5 h1⟩))))
  · exact Or.inr (Or.inr (Or.inr (Or.inr (Or.inr (Or.inl ⟨h1, h2, a6 h1⟩)))))
  · exact Or.inr (Or.inr (Or.inr (Or.inr (Or.inr (Or.inr (Or.inl ⟨h1, h2, a7 h1⟩))))))
  · exact Or.inr (Or.inr (Or.inr (Or.inr (Or.inr (Or.inr (Or.inr (Or.inl ⟨h1, h2, a8 h1⟩)))))))
  · exact Or.inr (Or.inr (Or.inr (Or.inr (Or.inr (Or.inr (Or.inr (Or.inr ⟨h1, h2, a9 h1⟩)))))))
theorem ad_inj {k i k' i' : Nat} (h : vk k i) (h' : vk k' i') (e : ad k i = ad k' i') : k = k' ∧ i = i' := by
  have a := ad_cases h
  have b := ad_cases h'
  generalize ad k i = x at *
  subst e
  rcases a with a | a | a | a | a | a | a | a | a <;> rcases b with b | b | b | b | b | b | b | b | b <;> first | omega | exact ⟨by omega, by omega⟩
theorem ad_lim {k i : Nat} (h : vk k i) : ad k i < 10465 ∧ (ad k i < 850 ∨ 9851 ≤ ad k i) ∧ (ad k i < 9857 ∨ 9858 < ad k i) ∧ (ad k i < 9913 ∨ 10193 ≤ ad k i) := by
  have a := ad_cases h
  generalize ad k i = x at *
  rcases a with a | a | a | a | a | a | a | a | a <;> exact ⟨by omega, by omega, by omega, by omega⟩
theorem ad_w {k i a j : Nat} (h : vk k i) (ha : a < 16) (hj : j < 41) : ad k i ≠ 149 + 44 * a + j := by
  have b := ad_cases h
  generalize ad k i = x at *
  rcases b with b | b | b | b | b | b | b | b | b <;> omega
/-- the reference's shape -/
def RS (M : Mem) : Prop := (∀ i, 120 ≤ i → i < 131 → M.1.2.1 i = tC.getD i (0, 0)) ∧ (∀ q, q ∈ tG → mR M q.1 q.2.1 = q.2.2) ∧ 131 ≤ mN M
theorem RS.e {M M' : Mem} (h : RS M) (e : M'.1 = M.1) : RS M' := by
  unfold RS mR mN at *
  rw [e]
  exact h
theorem RS.io {M : Mem} (h : RS M) {i c : Nat} (h1 : 120 ≤ i) (h2 : i < 131) (hc : (tC.getD i (0, 0)).1 = c) : isO M c i := by
  refine ⟨Nat.lt_of_lt_of_le h2 h.2.2, ?_⟩
  rw [mC, h.1 i h1 h2, hc]
theorem RS.ln {M : Mem} (h : RS M) {i c : Nat} (h1 : 120 ≤ i) (h2 : i < 131) (hc : (tC.getD i (0, 0)).2 = c) : mLn M i = c := by
  rw [mLn, h.1 i h1 h2, hc]
theorem RS.r {M : Mem} (h : RS M) {a b c : Nat} (q : (a, b, c) ∈ tG) : mR M a b = c := h.2.1 (a, b, c) q
theorem RS.toRK {M : Mem} (h : RS M) : RK M 120 121 :=
  ⟨h.io (by decide) (by decide) (by decide), h.r (by decide), h.io (by decide) (by decide) (by decide), h.ln (by decide) (by decide) (by decide)⟩
/-- M and M' hold the same but in the cells of P; no cell is made -/
def Fr (P : Nat → Prop) (M M' : Mem) : Prop := M'.1 = M.1 ∧ (∀ o, ¬ P o → ∀ k, mI M' o k = mI M o k) ∧ (∀ o k, mL M' o k = mL M o k)
theorem Fr.rf (P : Nat → Prop) (M : Mem) : Fr P M M := ⟨rfl, fun _ _ _ => rfl, fun _ _ => rfl⟩
theorem Fr.tr {P : Nat → Prop} {M M' M'' : Mem} (h : Fr P M M') (h' : Fr P M' M'') : Fr P M M'' :=
  ⟨h'.1.trans h.1, fun o q k => (h'.2.1 o q k).trans (h.2.1 o q k), fun o k => (h'.2.2 o k).trans (h.2.2 o k)⟩
theorem Fr.mo {P P' : Nat → Prop} {M M' : Mem} (h : Fr P M M') (q : ∀ o, P o → P' o) : Fr P' M M' :=
  ⟨h.1, fun o z k => h.2.1 o (fun y => z (q o y)) k, h.2.2⟩
theorem Fr.tsI {P : Nat → Prop} {M : Mem} {o k : Nat} {x : Int32} (h : P o) : Fr P M (sI M o k x) :=
  ⟨rfl, fun a q b => mI_o M o k x b (fun e => q (e ▸ h)), fun _ _ => rfl⟩
def PA (o : Nat) : Prop := 121 ≤ o ∧ o ≤ 123
def PM (o : Nat) : Prop := 120 ≤ o ∧ o ≤ 124
def PR (o : Nat) : Prop := 120 ≤ o ∧ o ≤ 130
/-- letters in the order of their pairs -/
def fl (S : St) : List (Nat × Ltr) := (List.range 256).flatMap fun l => (xL S l).map fun x => (l, x)
def enc (q : Nat × Ltr) : Int32 := ((q.2.2.1 <<< ((11 : Int32) &&& 31)) ||| (q.2.1 <<< ((8 : Int32) &&& 31))) ||| nI q.1
def Seg (M : Mem) (tw : Bool) (p : Nat) (xs : List (Nat × Ltr)) : Prop := ∀ i q, xs[i]? = some q → mI M 121 (851 + (p + i)) = enc q ∧ (tw = true → mI M 123 (p + i) = q.2.2.2)
def lastn {α : Type} (n : Nat) (l : List α) : List α := l.drop (l.length - n)
def Rows (M : Mem) (A : Nat) (xs : List Row4) : Prop := ∀ i q, xs[i]? = some q → mI M 121 (A + 4 * i) = q.1 ∧ mI M 121 (A + 4 * i + 1) = q.2.1 ∧ mI M 121 (A + 4 * i + 2) = q.2.2.1 ∧ mI M 121 (A + 4 * i + 3) = q.2.2.2
def RVa (M : Mem) (S : St) : Prop := ∀ k i, vk k i → mI M 121 (ad k i) = xR S k i
def RVw (M : Mem) (S : St) : Prop := ∀ a, a < 16 → mI M 121 (149 + 44 * a) = nI (xW S a).length ∧ (xW S a).length ≤ 20 ∧ (∀ i q, (xW S a)[i]? = some q → mI M 121 (150 + 44 * a + 2 * i) = nI q.1 ∧ mI M 121 (151 + 44 * a + 2 * i) = q.2) ∧ (∀ i, (xW S a).length ≤ i → i < 20 → mI M 121 (150 + 44 * a + 2 * i) = 0 ∧ mI M 121 (151 + 44 * a + 2 * i) = 0)
def RVl (M : Mem) (tw : Bool) (S : St) : Prop := mI M 121 850 = nI (fl S).length ∧ (fl S).length ≤ 9000 ∧ Seg M tw 0 (fl S)
def RVb (M : Mem) (A B n : Nat) (xs : List Row4) : Prop := mI M 121 A = nI (lastn n xs).length ∧ Rows M B (lastn n xs)
def RV (M : Mem) (tw : Bool) (t : Int32) (S : St) (pb pt : List Row4) : Prop := RS M ∧ mI M 120 3 = t ∧ RVa M S ∧ RVw M S ∧ RVl M tw S ∧ RVb M 9857 9913 30 (pb ++ xE S) ∧ RVb M 9858 10033 40 (pt ++ xT S)
/-! ===== a letter as one number; the reference's letters ===== -/
theorem bt_nI (m : Nat) {i : Nat} (hi : i < 32) : bt (nI m) i = m.testBit i := by
  show (BitVec.ofNat 32 m).getLsbD i = _
  rw [BitVec.getLsbD_ofNat]
  simp [hi]
theorem bt_lt {m k i : Nat} (h : m < 2 ^ k) (hk : k ≤ i) (hi : i < 32) : bt (nI m) i = false := by
  rw [bt_nI m hi]
  exact Nat.testBit_lt_two_pow (Nat.lt_of_lt_of_le h (Nat.pow_le_pow_right (by decide) hk))
theorem b_shl11 (x : Int32) {i : Nat} (hi : i < 32) : bt (x <<< ((11 : Int32) &&& 31)) i = (decide (11 ≤ i) && bt x (i - 11)) := b_shl 11 (by omega) x hi
theorem b_shl08 (x : Int32) {i : Nat} (hi : i < 32) : bt (x <<< ((8 : Int32) &&& 31)) i = (decide (8 ≤ i) && bt x (i - 8)) := b_shl 8 (by omega) x hi
theorem b_shl03 (x : Int32) {i : Nat} (hi : i < 32) : bt (x <<< ((3 : Int32) &&& 31)) i = (decide (3 ≤ i) && bt x (i - 3)) := b_shl 3 (by omega) x hi
theorem b_sshr11 (x : Int32) {i : Nat} (hi : i < 32) : bt (x >>> ((11 : Int32) &&& 31)) i = if 11 + i < 32 then bt x (11 + i) else bt x 31 := b_sshr 11 (by omega) x hi
theorem b_sshr08 (x : Int32) {i : Nat} (hi : i < 32) : bt (x >>> ((8 : Int32) &&& 31)) i = if 8 + i < 32 then bt x (8 + i) else bt x 31 := b_sshr 8 (by omega) x hi
theorem b_sshr03 (x : Int32) {i : Nat} (hi : i < 32) : bt (x >>> ((3 : Int32) &&& 31)) i = if 3 + i < 32 then bt x (3 + i) else bt x 31 := b_sshr 3 (by omega) x hi
theorem b_c255 : ∀ i, i < 32 → bt 255 i = decide (i < 8) := by decide +kernel
theorem b_c7 : ∀ i, i < 32 → bt 7 i = decide (i < 3) := by decide +kernel
theorem enc_b (q : Nat × Ltr) {i : Nat} (hi : i < 32) : bt (enc q) i = (((decide (11 ≤ i) && bt q.2.2.1 (i - 11)) || (decide (8 ≤ i) && bt q.2.1 (i - 8))) || bt (nI q.1) i) := by
  rw [enc, b_or, b_or, b_shl11 _ hi, b_shl08 _ hi]
theorem enc_pair {q : Nat × Ltr} (h : q.1 < 256) : enc q &&& (255 : Int32) = nI q.1 := by
  apply b_ext
  intro i hi
  rw [b_and, enc_b q hi, b_c255 i hi]
  by_cases h8 : i < 8
  · simp [h8, show ¬ 11 ≤ i by omega, show ¬ 8 ≤ i by omega]
  · rw [bt_lt (k := 8) h (by omega) hi]
    simp [h8]
theorem enc_kind {q : Nat × Ltr} (h : q.1 < 256) {k : Nat} (hk : k < 8) (e : q.2.1 = nI k) : (enc q >>> ((8 : Int32) &&& 31)) &&& (7 : Int32) = nI k := by
  apply b_ext
  intro i hi
  rw [b_and, b_sshr08 _ hi, b_c7 i hi]
  by_cases h3 : i < 3
  · rw [if_pos (by omega), enc_b q (by omega), bt_lt (k := 8) h (by omega) (by omega), e]
    simp [h3, show ¬ 11 ≤ 8 + i by omega]
  · rw [bt_lt (k := 3) hk (by omega) hi]
    simp [h3]
theorem enc_stamp {q : Nat × Ltr} (h : q.1 < 256) {k : Nat} (hk : k < 8) (e : q.2.1 = nI k) {s : Nat} (hs : s < 1048576) (es : q.2.2.1 = nI s) : enc q >>> ((11 : Int32) &&& 31) = nI s := by
  apply b_ext
  intro i hi
  rw [b_sshr11 _ hi]
  by_cases h3 : i < 21
  · rw [if_pos (by omega), enc_b q (by omega), bt_lt (k := 8) h (by omega) (by omega), e, es, bt_lt (k := 3) hk (by omega) (by omega)]
    simp
  · rw [if_neg (by omega), enc_b q (by omega), bt_lt (k := 8) h (by omega) (by omega), e, es, bt_lt (k := 3) hk (by omega) (by omega), bt_lt (k := 20) hs (by omega) (by omega), bt_lt (k := 20) hs (by omega) hi]
    simp
theorem fl_mem {S : St} {q : Nat × Ltr} (h : q ∈ fl S) : q.1 < 256 ∧ q.2 ∈ xL S q.1 := by
  unfold fl at h
  simp only [List.mem_flatMap, List.mem_range, List.mem_map] at h
  obtain ⟨l, hl, x, hx, rfl⟩ := h
  exact ⟨hl, hx⟩
theorem fm_cg {α β : Type} {f g : α → List β} : ∀ (l : List α), (∀ x, x ∈ l → f x = g x) → l.flatMap f = l.flatMap g := by
  intro l
  induction l with
  | nil => intro _; rfl
  | cons a l ih =>
    intro h
    rw [List.flatMap_cons, List.flatMap_cons, h a (by simp), ih (fun x hx => h x (by simp [hx]))]
theorem nil_app {α : Type} (l : List α) : l = [] ∨ ∃ p z, l = p ++ [z] := by
  rcases List.eq_nil_or_concat l with h | ⟨p, z, h⟩
  · exact Or.inl h
  · exact Or.inr ⟨p, z, by rw [h, List.concat_eq_append]⟩
def flr (L : Nat → List Ltr) (a n : Nat) : List (Nat × Ltr) := (List.range' a n).flatMap fun l => (L l).map fun x => (l, x)
theorem flr_split (L : Nat → List Ltr) (l : Nat) (h : l < 256) : flr L 0 256 = flr L 0 l ++ ((L l).map fun x => (l, x)) ++ flr L (l + 1) (255 - l) := by
  have e : List.range' 0 256 = List.range' 0 l ++ (List.range' l 1 ++ List.range' (l + 1) (255 - l)) := by
    have e1 : List.range' l 1 ++ List.range' (l + 1) (255 - l) = List.range' l (1 + (255 - l)) := by
      have := List.range'_append (s := l) (m := 1) (n := 255 - l) (step := 1)
      simpa using this
    have e2 : List.range' 0 l ++ List.range' l (1 + (255 - l)) = List.range' 0 (l + (1 + (255 - l))) := by
      have := List.range'_append (s := 0) (m := l) (n := 1 + (255 - l)) (step := 1)
      simpa using this
    rw [e1, e2]
    congr 1
    omega
  unfold flr
  rw [e, List.flatMap_append, List.flatMap_append]
  simp [List.append_assoc]
theorem fl_r (S : St) : fl S = flr (xL S) 0 256 := by
  unfold fl flr
  rw [List.range_eq_range']
theorem flr_up {L : Nat → List Ltr} {l a n : Nat} {x : List Ltr} (h : l < a ∨ a + n ≤ l) : flr (up1 L l x) a n = flr L a n := by
  unfold flr
  refine fm_cg _ fun m hm => ?_
  have hm2 := List.mem_range'_1.mp hm
  rw [up1_o _ _ _ (by omega)]
theorem flr_in {L : Nat → List Ltr} {a n : Nat} {q : Nat × Ltr} (h : q ∈ flr L a n) : a ≤ q.1 ∧ q.1 < a + n ∧ q.2 ∈ L q.1 := by
  unfold flr at h
  simp only [List.mem_flatMap, List.mem_map] at h
  obtain ⟨l, hl, x, hx, rfl⟩ := h
  have := List.mem_range'_1.mp hl
  exact ⟨this.1, this.2, hx⟩
theorem fl_split (S : St) {l : Nat} (h : l < 256) : fl S = flr (xL S) 0 l ++ ((xL S l).map fun x => (l, x)) ++ flr (xL S) (l + 1) (255 - l) := by
  rw [fl_r, flr_split _ l h]
theorem fl_uL (S : St) {l : Nat} (h : l < 256) (x : List Ltr) : fl (uL S l x) = flr (xL S) 0 l ++ (x.map fun x => (l, x)) ++ flr (xL S) (l + 1) (255 - l) := by
  rw [fl_split _ h]
  have e : xL (uL S l x) = up1 (xL S) l x := rfl
  rw [e, flr_up (Or.inr (by omega)), flr_up (Or.inl (by omega)), up1_s]
/-- the cells of letters alone have changed -/
def FrL (M M' : Mem) : Prop := M'.1 = M.1 ∧ (∀ o, o ≠ 121 → o ≠ 123 → ∀ k, mI M' o k = mI M o k) ∧ (∀ o k, mL M' o k = mL M o k) ∧ (∀ b, b < 851 ∨ 9851 ≤ b → mI M' 121 b = mI M 121 b)
theorem FrL.rf (M : Mem) : FrL M M := ⟨rfl, fun _ _ _ _ => rfl, fun _ _ => rfl, fun _ _ => rfl⟩
theorem FrL.tr {M M' M'' : Mem} (h : FrL M M') (h' : FrL M' M'') : FrL M M'' :=
  ⟨h'.1.trans h.1, fun o q1 q2 k => (h'.2.1 o q1 q2 k).trans (h.2.1 o q1 q2 k), fun o k => (h'.2.2.1 o k).trans (h.2.2.1 o k), fun b q => (h'.2.2.2 b q).trans (h.2.2.2 b q)⟩
theorem FrL.toFr {M M' : Mem} (h : FrL M M') : Fr PA M M' :=
  ⟨h.1, fun o q k => h.2.1 o (fun e => q (e ▸ ⟨by decide, by decide⟩)) (fun e => q (e ▸ ⟨by decide, by decide⟩)) k, fun o k => h.2.2.1 o k⟩
theorem Seg.nil (M : Mem) (tw : Bool) (p : Nat) : Seg M tw p [] := fun i q h => by simp at h
theorem Seg.ap {M : Mem} {tw : Bool} {p : Nat} {xs ys : List (Nat × Ltr)} : Seg M tw p (xs ++ ys) ↔ Seg M tw p xs ∧ Seg M tw (p + xs.length) ys := by
  constructor
  · intro h
    refine ⟨fun i q hi => h i q ?_, fun i q hi => ?_⟩
    · rw [List.getElem?_append_left (List.getElem?_eq_some_iff.mp hi).1, hi]
    · have := h (xs.length + i) q (by rw [List.getElem?_append_right (by omega), Nat.add_sub_cancel_left, hi])
      rw [show p + xs.length + i = p + (xs.length + i) by omega]
      exact this
  · intro h i q hi
    by_cases hlt : i < xs.length
    · rw [List.getElem?_append_left hlt] at hi
      exact h.1 i q hi
    · rw [List.getElem?_append_right (by omega)] at hi
      have := h.2 (i - xs.length) q hi
      rw [show p + xs.length + (i - xs.length) = p + i by omega] at this
      exact this
theorem Seg.one {M : Mem} {tw : Bool} {p : Nat} {x : Nat × Ltr} : Seg M tw p [x] ↔ (mI M 121 (851 + p) = enc x ∧ (tw = true → mI M 123 p = x.2.2.2)) := by
  constructor
  · intro h
    exact h 0 x rfl
  · intro h i q hi
    cases i with
    | zero => simp at hi; subst hi; exact h
    | succ i => simp at hi
theorem Seg.cg {M M' : Mem} {tw : Bool} {p : Nat} {xs : List (Nat × Ltr)} (h : Seg M tw p xs) (e : ∀ i, p ≤ i → i < p + xs.length → mI M' 121 (851 + i) = mI M 121 (851 + i) ∧ mI M' 123 i = mI M 123 i) : Seg M' tw p xs := by
  intro i q hi
  have hl := (List.getElem?_eq_some_iff.mp hi).1
  have := e (p + i) (by omega) (by omega)
  rw [this.1, this.2]
  exact h i q hi
theorem rs_f {α : Type} {M : Mem} (h : RS M) (x : Option α) : chk (isO M 10 120) x = x := chk_t (h.io (by decide) (by decide) (by decide))
theorem rs_fa {α : Type} {M : Mem} (h : RS M) (x : Option α) : chk (isO M 100 121) x = x := chk_t (h.io (by decide) (by decide) (by decide))
theorem rs_fw {α : Type} {M : Mem} (h : RS M) (x : Option α) : chk (isO M 100 123) x = x := chk_t (h.io (by decide) (by decide) (by decide))
theorem rs_0 {M : Mem} (h : RS M) : mR M 120 0 = 121 := h.r (by decide)
theorem rs_2 {M : Mem} (h : RS M) : mR M 120 2 = 123 := h.r (by decide)
theorem rs_in {M : Mem} (h : RS M) {k : Nat} (hk : k < 10465) : inB (nI k) (mLn M 121) := by
  rw [h.ln (c := 10465) (by decide) (by decide) (by decide)]; exact inB_n hk (by decide)
theorem rs_inw {M : Mem} (h : RS M) {k : Nat} (hk : k < 9000) : inB (nI k) (mLn M 123) := by
  rw [h.ln (c := 9000) (by decide) (by decide) (by decide)]; exact inB_n hk (by decide)
theorem rs_c {α : Type} {M : Mem} (h : RS M) {k : Nat} (hk : k < 10465) (x : Option α) : chk (inB (nI k) (mLn M 121)) x = x := chk_t (rs_in h hk)
theorem rs_cw {α : Type} {M : Mem} (h : RS M) {k : Nat} (hk : k < 9000) (x : Option α) : chk (inB (nI k) (mLn M 123)) x = x := chk_t (rs_inw h hk)
theorem c851 (k : Nat) : (851 : Int32) + nI k = nI (851 + k) := by rw [show (851 : Int32) = nI 851 from rfl, nI_add]
theorem mI_c {M : Mem} {o k : Nat} (h : k < 10465) : mI M o (nI k).toNatClampNeg = mI M o k := by rw [nI_clamp (by omega)]
theorem sI_c {M : Mem} {o k : Nat} {x : Int32} (h : k < 10465) : sI M o (nI k).toNatClampNeg x = sI M o k x := by rw [nI_clamp (by omega)]
theorem cl_n {k : Nat} (h : k < 10465) : (nI k).toNatClampNeg = k := nI_clamp (by omega)
set_option maxHeartbeats 1000000 in
theorem send_l (tw : Bool) (pre : List (Nat × Ltr)) (l : Nat) (hl : l < 256) (kd s : Int32) (hpre : ∀ x, x ∈ pre → x.1 ≤ l) : ∀ (d : Nat) (q rest : List (Nat × Ltr)) (M : Mem) (n : Nat), q.length = d → (∀ x, x ∈ q → l < x.1 ∧ x.1 < 256) → pre.length + d + rest.length < 9000 → RS M → Seg M tw 0 (pre ++ q) → Seg M tw (pre.length + d + 1) rest → d + 1 ≤ n → ∃ n' M1, f_X10_send_18 n 120 kd s (nI l) (nI (pre.length + d)) M = f_X10_send_90 n' 120 kd s (nI l) (nI pre.length) M1 ∧ Seg M1 tw 0 pre ∧ Seg M1 tw (pre.length + 1) (q ++ rest) ∧ FrL M M1 := by
  intro d
  induction d with
  | zero =>
    intro q rest M n hq hlt hlen hS h1 h2 hn
    have hq0 : q = [] := List.eq_nil_of_length_eq_zero hq
    subst hq0
    obtain ⟨n, rfl⟩ : ∃ m, n = m + 1 := ⟨n - 1, by omega⟩
    refine ⟨n, M, ?_, by simpa using h1, by simpa using h2, FrL.rf M⟩
    rw [f_X10_send_18, Nat.add_zero]
    rcases nil_app pre with rfl | ⟨pre', z, rfl⟩
    · rw [if_pos (show nI ([] : List (Nat × Ltr)).length ≤ 0 from nI_le (Nat.le_refl 0) (by decide))]
    · have hz := hpre z (by simp)
      have hg := h1 pre'.length z (by simp)
      have hk : (pre' ++ [z]).length = pre'.length + 1 := by simp
      have hv : mI M 121 (nI (851 + pre'.length)).toNatClampNeg = enc z := by
        rw [cl_n (by rw [hk] at hlen; omega), show 851 + pre'.length = 851 + (0 + pre'.length) by omega]; exact hg.1
      rw [hk] at hlen ⊢
      rw [if_neg (by rw [show (0 : Int32) = nI 0 from rfl]; exact nI_ge (by omega) (by omega)), rs_f hS, rs_0 hS, bnd_e, rs_fa hS, c851, show nI (851 + (pre'.length + 1)) - (1 : Int32) = nI (851 + pre'.length) by rw [show 851 + (pre'.length + 1) = (851 + pre'.length) + 1 by omega, nI_pred], rs_c hS (by omega), f_X10_pairOf, hv, enc_pair (by omega), obd_s, if_pos (nI_le hz (by omega))]
  | succ d ih =>
    intro q rest M n hq hlt hlen hS h1 h2 hn
    obtain ⟨n, rfl⟩ : ∃ m, n = m + 1 := ⟨n - 1, by omega⟩
    rcases nil_app q with rfl | ⟨q', z, rfl⟩
    · simp at hq
    have hq' : q'.length = d := by simpa using hq
    have hz := hlt z (by simp)
    have hg := h1 (pre.length + d) z (by rw [List.getElem?_append_right (by omega)]; simp [hq'])
    rw [Nat.zero_add] at hg
    have hv : mI M 121 (nI (851 + (pre.length + d))).toNatClampNeg = enc z := by rw [cl_n (by omega)]; exact hg.1
    have e1 : nI (851 + (pre.length + (d + 1))) - (1 : Int32) = nI (851 + (pre.length + d)) := by rw [show 851 + (pre.length + (d + 1)) = (851 + (pre.length + d)) + 1 by omega, nI_pred]
    have e2 : nI (pre.length + (d + 1)) - (1 : Int32) = nI (pre.length + d) := by rw [show pre.length + (d + 1) = (pre.length + d) + 1 by omega, nI_pred]
    have e3 : nI (pre.length + (d + 1)) + (-1 : Int32) = nI (pre.length + d) := by rw [show pre.length + (d + 1) = (pre.length + d) + 1 by omega, pk_m1]
    generalize hM2 : sI (sI M 121 (851 + (pre.length + (d + 1))) (enc z)) 123 (pre.length + (d + 1)) (mI M 123 (pre.length + d)) = M2
    have hSa : RS (sI M 121 (851 + (pre.length + (d + 1))) (enc z)) := hS.e rfl
    have hS2 : RS M2 := by subst hM2; exact hS.e rfl
    have m1 : ∀ b, b ≠ 851 + (pre.length + (d + 1)) → mI M2 121 b = mI M 121 b := by
      intro b hb; subst hM2; simp [mI_sI, hb]
    have m2 : ∀ b, b ≠ pre.length + (d + 1) → mI M2 123 b = mI M 123 b := by
      intro b hb; subst hM2; simp [mI_sI, hb]
    have m3 : mI M2 121 (851 + (pre.length + (d + 1))) = enc z := by subst hM2; simp [mI_sI]
    have m4 : mI M2 123 (pre.length + (d + 1)) = mI M 123 (pre.length + d) := by subst hM2; simp [mI_sI]
    have s1 : Seg M2 tw 0 (pre ++ q') := by
      have : Seg M tw 0 ((pre ++ q') ++ [z]) := by simpa using h1
      refine (Seg.ap.mp this).1.cg fun i _ hi => ?_
      simp only [List.length_append, hq'] at hi
      exact ⟨m1 _ (by omega), m2 _ (by omega)⟩
    have s2 : Seg M2 tw (pre.length + d + 1) (z :: rest) := by
      rw [show z :: rest = [z] ++ rest from rfl, Seg.ap]
      refine ⟨Seg.one.mpr ⟨?_, fun ht => ?_⟩, ?_⟩
      · rw [show 851 + (pre.length + d + 1) = 851 + (pre.length + (d + 1)) by omega]; exact m3
      · rw [show pre.length + d + 1 = pre.length + (d + 1) by omega, m4]; exact hg.2 ht
      · have h3 : Seg M tw (pre.length + (d + 1) + 1) rest := h2
        rw [show pre.length + d + 1 + [z].length = pre.length + (d + 1) + 1 by simp; omega]
        exact h3.cg fun i h5 _ => ⟨m1 _ (by omega), m2 _ (by omega)⟩
    obtain ⟨n', M1, i1, i2, i3, i4⟩ := ih q' (z :: rest) M2 n hq' (fun x hx => hlt x (by simp [hx])) (by simp; omega) hS2 s1 s2 (by omega)
    refine ⟨n', M1, ?_, i2, by simpa using i3, FrL.tr ⟨?_, ?_, ?_, ?_⟩ i4⟩
    · rw [← i1, f_X10_send_18, if_neg (by rw [show (0 : Int32) = nI 0 from rfl]; exact nI_ge (by omega) (by omega)), rs_f hS, rs_0 hS, bnd_e, rs_fa hS, c851, e1, rs_c hS (by omega), f_X10_pairOf, hv, enc_pair hz.2, obd_s, if_neg (nI_ge hz.1 (by omega)), bnd_e, rs_fa hS, bnd_e, rs_fa hS, rs_c hS (by omega), rs_c hS (by omega), bnd_e, cl_n (by omega), hv, rs_2 hSa, bnd_e, rs_fw hSa, bnd_e, rs_fw hSa, e2, rs_cw hSa (by omega), rs_cw hSa (by omega), bnd_e, e3, bnd_e, cl_n (by omega), cl_n (by omega), mI_o _ _ _ _ _ (by decide), hM2]
    · subst hM2; rfl
    · intro o q1 q2 k; subst hM2; simp [mI_sI, q1, q2]
    · intro o k; subst hM2; rfl
    · intro b hb; exact m1 b (by omega)
/-! ===== the reference sends a letter, takes one, finds one ===== -/
theorem RVw.cg {M M' : Mem} {S S' : St} (h : RVw M S) (e : ∀ b, 149 ≤ b → b < 850 → mI M' 121 b = mI M 121 b) (w : xW S' = xW S) : RVw M' S' := by
  intro a ha
  rw [w]
  obtain ⟨h1, h2, h3, h4⟩ := h a ha
  refine ⟨?_, h2, fun i q hi => ?_, fun i hi hj => ?_⟩
  · rw [e _ (by omega) (by omega)]; exact h1
  · have hl := (List.getElem?_eq_some_iff.mp hi).1
    rw [e _ (by omega) (by omega), e _ (by omega) (by omega)]
    exact h3 i q hi
  · rw [e _ (by omega) (by omega), e _ (by omega) (by omega)]
    exact h4 i hi hj
theorem lastn_le {α : Type} (n : Nat) (l : List α) : (lastn n l).length ≤ n := by
  unfold lastn
  rw [List.length_drop]
  omega
theorem RVb.cg {M M' : Mem} {A B n : Nat} {xs : List Row4} (h : RVb M A B n xs) (e : mI M' 121 A = mI M 121 A) (e2 : ∀ b, B ≤ b → b < B + 4 * n → mI M' 121 b = mI M 121 b) : RVb M' A B n xs := by
  refine ⟨e.trans h.1, fun i q hi => ?_⟩
  have hl := (List.getElem?_eq_some_iff.mp hi).1
  have hn := lastn_le n xs
  rw [e2 _ (by omega) (by omega), e2 _ (by omega) (by omega), e2 _ (by omega) (by omega), e2 _ (by omega) (by omega)]
  exact h.2 i q hi
/-- sent: a letter of kind k from f to g, stamp s, at time t -/
def sn (t : Int32) (k f g : Nat) (s : Int32) (S : St) : St := uL (uR S 16 k (xR S 16 k + 1)) (16 * f + g) (xL S (16 * f + g) ++ [(nI k, s, t)])
theorem fl_sn {t : Int32} {k f g : Nat} {s : Int32} {S : St} (h : 16 * f + g < 256) : fl (sn t k f g s S) = (flr (xL S) 0 (16 * f + g) ++ ((xL S (16 * f + g)).map fun x => (16 * f + g, x))) ++ ([(16 * f + g, (nI k, s, t))] ++ flr (xL S) (16 * f + g + 1) (255 - (16 * f + g))) := by
  unfold sn
  rw [fl_uL _ h, xL_uR]
  simp [List.append_assoc]
theorem c16 (f g : Nat) : ((16 : Int32) * nI f) + nI g = nI (16 * f + g) := by rw [show (16 : Int32) = nI 16 from rfl, pk_mul, nI_add]
theorem c9859 (k : Nat) : (9859 : Int32) + nI k = nI (9859 + k) := by rw [show (9859 : Int32) = nI 9859 from rfl, nI_add]
theorem l850 : (850 : Int32) = nI 850 := rfl
set_option maxHeartbeats 1000000 in
theorem RV.send {M : Mem} {tw : Bool} {t : Int32} {S : St} {pb pt : List Row4} (h : RV M tw t S pb pt) {k f g : Nat} {s : Int32} (hf : f < 16) (hg : g < 16) (hk : k < 6) (hlen : (fl S).length < 9000) {n : Nat} (hn : 9100 ≤ n) : ∃ M', f_X10_send n 120 (nI k) (nI f) (nI g) s M = some M' ∧ RV M' tw t (sn t k f g s S) pb pt ∧ Fr PA M M' := by
  obtain ⟨hS, ht, ha, hw, hl, hb1, hb2⟩ := h
  generalize hl0 : 16 * f + g = l
  have hl1 : l < 256 := by omega
  have hsp := fl_split S hl1
  generalize hP : flr (xL S) 0 l ++ ((xL S l).map fun x => (l, x)) = pre at hsp
  generalize hQ : flr (xL S) (l + 1) (255 - l) = q at hsp
  have hpre : ∀ x, x ∈ pre → x.1 ≤ l := by
    intro x hx
    subst hP
    rcases List.mem_append.mp hx with hx | hx
    · have := flr_in hx; omega
    · obtain ⟨y, _, rfl⟩ := List.mem_map.mp hx
      exact Nat.le_refl _
  have hq : ∀ x, x ∈ q → l < x.1 ∧ x.1 < 256 := by
    intro x hx
    subst hQ
    have := flr_in hx; omega
  have hlen2 : pre.length + q.length = (fl S).length := by rw [hsp, List.length_append]
  obtain ⟨n', M1, i1, i2, i3, i4⟩ := send_l tw pre l hl1 (nI k) s hpre q.length q [] M n rfl hq (by simp; omega) hS (hsp ▸ hl.2.2) (Seg.nil _ _ _) (by omega)
  have hS1 : RS M1 := hS.e i4.1
  rw [List.append_nil] at i3
  generalize hMa : sI M1 121 (851 + pre.length) (enc (l, (nI k, s, t))) = Ma
  generalize hMb : sI Ma 123 pre.length t = Mb
  generalize hMc : sI Mb 121 850 (nI ((fl S).length + 1)) = Mc
  generalize hMd : sI Mc 121 (9859 + k) (xR S 16 k + 1) = Md
  have hSa : RS Ma := by subst hMa; exact hS1.e rfl
  have hSb : RS Mb := by subst hMb; exact hSa.e rfl
  have hSc : RS Mc := by subst hMc; exact hSb.e rfl
  have hSd : RS Md := by subst hMd; exact hSc.e rfl
  have k1 : ∀ b, b < 850 ∨ (9851 ≤ b ∧ b ≠ 9859 + k) → mI Md 121 b = mI M 121 b := by
    intro b hb
    rw [← hMd, mI_n _ _ _ _ (by omega), ← hMc, mI_n _ _ _ _ (by omega), ← hMb, mI_o _ _ _ _ _ (by decide), ← hMa, mI_n _ _ _ _ (by omega)]
    exact i4.2.2.2 b (by omega)
  have k0 : ∀ o, o ≠ 121 → o ≠ 123 → ∀ b, mI Md o b = mI M o b := by
    intro o q1 q2 b
    rw [← hMd, mI_o _ _ _ _ _ q1, ← hMc, mI_o _ _ _ _ _ q1, ← hMb, mI_o _ _ _ _ _ q2, ← hMa, mI_o _ _ _ _ _ q1]
    exact i4.2.1 o q1 q2 b
  have t3 : mI Ma 120 3 = t := by
    rw [← hMa, mI_o _ _ _ _ _ (by decide), i4.2.1 120 (by decide) (by decide)]; exact ht
  have c3 : mI Mb 121 850 = nI (fl S).length := by
    rw [← hMb, mI_o _ _ _ _ _ (by decide), ← hMa, mI_n _ _ _ _ (by omega), i4.2.2.2 850 (by omega)]
    exact hl.1
  have v16 : vk 16 k := by unfold vk; omega
  have a16 : ad 16 k = 9859 + k := rfl
  have d3 : mI Mc 121 (9859 + k) = xR S 16 k := by
    rw [← hMc, mI_n _ _ _ _ (by omega), ← hMb, mI_o _ _ _ _ _ (by decide), ← hMa, mI_n _ _ _ _ (by omega), i4.2.2.2 _ (by omega), ← a16]
    exact ha 16 k v16
  refine ⟨Md, ?_, ⟨hSd, ?_, ?_, hw.cg (fun b _ _ => k1 b (by omega)) rfl, ⟨?_, ?_, ?_⟩, hb1.cg (k1 _ (by omega)) (fun b _ _ => k1 b (by omega)), hb2.cg (k1 _ (by omega)) (fun b _ _ => k1 b (by omega))⟩, ?_⟩
  · rw [f_X10_send, c16, hl0, bnd_e, rs_f hS, rs_0 hS, bnd_e, rs_fa hS, l850, rs_c hS (by decide), bnd_e, cl_n (by decide), hl.1, ← hlen2, i1, f_X10_send_90, rs_f hS1, rs_0 hS1, bnd_e, rs_fa hS1, c851, rs_c hS1 (by omega), bnd_e, cl_n (by omega)]
    rw [show ((s <<< ((11 : Int32) &&& 31)) ||| (nI k <<< ((8 : Int32) &&& 31))) ||| nI l = enc (l, (nI k, s, t)) from rfl, hMa, rs_2 hSa, bnd_e, rs_fw hSa, rs_cw hSa (by omega), bnd_e, cl_n (by omega), t3, hMb, rs_0 hSb, bnd_e, rs_fa hSb, l850, rs_c hSb (by decide), rs_c hSb (by decide), bnd_e, cl_n (by decide), c3, nI_1, hMc, rs_0 hSc, bnd_e, rs_fa hSc, c9859, bnd_e, rs_c hSc (by omega), rs_c hSc (by omega), bnd_e, cl_n (by omega), d3, hMd]
  · rw [k0 120 (by decide) (by decide)]; exact ht
  · intro kk ii hv
    have lim := ad_lim hv
    show mI Md 121 (ad kk ii) = if kk = 16 ∧ ii = k then _ else xR S kk ii
    by_cases e : kk = 16 ∧ ii = k
    · rw [if_pos e, e.1, e.2, a16, ← hMd, mI_s]
    · rw [if_neg e, k1 _ ?_]
      · exact ha kk ii hv
      · have : ad kk ii ≠ 9859 + k := fun z => e (ad_inj hv v16 (z.trans a16.symm))
        omega
  · rw [fl_sn (by omega)]
    simp only [hl0, hP, hQ, List.length_append, List.length_singleton]
    rw [← hMd, mI_n _ _ _ _ (by omega), ← hMc, mI_s, ← hlen2]
    congr 1
    omega
  · rw [fl_sn (by omega)]
    simp only [hl0, hP, hQ, List.length_append, List.length_singleton]
    omega
  · rw [fl_sn (by omega)]
    simp only [hl0, hP, hQ]
    rw [Seg.ap, Seg.ap, Seg.one]
    refine ⟨i2.cg fun i _ hi => ⟨?_, ?_⟩, ⟨?_, fun _ => ?_⟩, ?_⟩
    · rw [← hMd, mI_n _ _ _ _ (by omega), ← hMc, mI_n _ _ _ _ (by omega), ← hMb, mI_o _ _ _ _ _ (by decide), ← hMa, mI_n _ _ _ _ (by omega)]
    · rw [← hMd, mI_o _ _ _ _ _ (by decide), ← hMc, mI_o _ _ _ _ _ (by decide), ← hMb, mI_n _ _ _ _ (by omega), ← hMa, mI_o _ _ _ _ _ (by decide)]
    · rw [Nat.zero_add, ← hMd, mI_n _ _ _ _ (by omega), ← hMc, mI_n _ _ _ _ (by omega), ← hMb, mI_o _ _ _ _ _ (by decide), ← hMa, mI_s]
    · rw [Nat.zero_add, ← hMd, mI_o _ _ _ _ _ (by decide), ← hMc, mI_o _ _ _ _ _ (by decide), ← hMb, mI_s]
    · rw [Nat.zero_add, List.length_singleton]
      refine i3.cg fun i hi1 hi => ⟨?_, ?_⟩
      · rw [← hMd, mI_n _ _ _ _ (by omega), ← hMc, mI_n _ _ _ _ (by omega), ← hMb, mI_o _ _ _ _ _ (by decide), ← hMa, mI_n _ _ _ _ (by omega)]
      · rw [← hMd, mI_o _ _ _ _ _ (by decide), ← hMc, mI_o _ _ _ _ _ (by decide), ← hMb, mI_n _ _ _ _ (by omega), ← hMa, mI_o _ _ _ _ _ (by decide)]
  · refine Fr.tr i4.toFr (Fr.tr (M' := Ma) ?_ (Fr.tr (M' := Mb) ?_ (Fr.tr (M' := Mc) ?_ ?_)))
    · rw [← hMa]; exact Fr.tsI ⟨by decide, by decide⟩
    · rw [← hMb]; exact Fr.tsI ⟨by decide, by decide⟩
    · rw [← hMc]; exact Fr.tsI ⟨by decide, by decide⟩
    · rw [← hMd]; exact Fr.tsI ⟨by decide, by decide⟩
set_option maxHeartbeats 1000000 in
theorem take_l (tw : Bool) : ∀ (suf pre : List (Nat × Ltr)) (M : Mem) (n : Nat), RS M → mI M 121 850 = nI (pre.length + 1 + suf.length) → pre.length + suf.length < 9000 → Seg M tw 0 pre → Seg M tw (pre.length + 1) suf → suf.length + 1 ≤ n → ∃ M1, f_X10_takeLetter_2 n 120 (nI pre.length) M = some (sI (sI M1 121 850 (nI (pre.length + suf.length))) 121 (851 + (pre.length + suf.length)) 0) ∧ Seg M1 tw 0 (pre ++ suf) ∧ FrL M M1 := by
  intro suf
  induction suf with
  | nil =>
    intro pre M n hS hc hlen h1 h2 hn
    obtain ⟨n, rfl⟩ : ∃ m, n = m + 1 := ⟨n - 1, by simp at hn; omega⟩
    simp only [List.length_nil, Nat.add_zero] at hc hlen ⊢
    have hSb : RS (sI M 121 850 (nI pre.length)) := hS.e rfl
    refine ⟨M, ?_, by simpa using h1, FrL.rf M⟩
    rw [f_X10_takeLetter_2, rs_f hS, rs_0 hS, bnd_e, rs_fa hS, l850, rs_c hS (by decide), mI_c (by decide), hc, nI_1, if_pos (nI_le (Nat.le_refl _) (by omega)), bnd_e, rs_fa hS, rs_c hS (by decide), rs_c hS (by decide), mI_c (by decide), hc, nI_pred, sI_c (by decide), bnd_e, rs_0 hSb, bnd_e, rs_fa hSb, bnd_e, rs_fa hSb, rs_c hSb (by decide), mI_c (by decide), mI_s, c851, rs_c hSb (by omega), sI_c (by omega), bnd_e]
  | cons z suf ih =>
    intro pre M n hS hc hlen h1 h2 hn
    simp only [List.length_cons] at hc hlen hn ⊢
    obtain ⟨n, rfl⟩ : ∃ m, n = m + 1 := ⟨n - 1, by omega⟩
    have hg := h2 0 z rfl
    simp only [Nat.add_zero] at hg
    generalize hMa : sI M 121 (851 + pre.length) (enc z) = Ma
    generalize hMb : sI Ma 123 pre.length (mI M 123 (pre.length + 1)) = Mb
    have hSa : RS Ma := by subst hMa; exact hS.e rfl
    have hSb : RS Mb := by subst hMb; exact hSa.e rfl
    have m1 : ∀ b, b ≠ 851 + pre.length → mI Mb 121 b = mI M 121 b := by
      intro b hb
      rw [← hMb, mI_o _ _ _ _ _ (by decide), ← hMa, mI_n _ _ _ _ hb]
    have m2 : ∀ b, b ≠ pre.length → mI Mb 123 b = mI M 123 b := by
      intro b hb
      rw [← hMb, mI_n _ _ _ _ hb, ← hMa, mI_o _ _ _ _ _ (by decide)]
    have e1 : mI Ma 123 (pre.length + 1) = mI M 123 (pre.length + 1) := by rw [← hMa, mI_o _ _ _ _ _ (by decide)]
    have s1 : Seg Mb tw 0 (pre ++ [z]) := by
      rw [Seg.ap, Seg.one]
      refine ⟨h1.cg fun i _ hi => ⟨m1 _ (by omega), m2 _ (by omega)⟩, ?_, fun ht => ?_⟩
      · rw [Nat.zero_add, ← hMb, mI_o _ _ _ _ _ (by decide), ← hMa, mI_s]
      · rw [Nat.zero_add, ← hMb, mI_s]; exact hg.2 ht
    have s2 : Seg Mb tw ((pre ++ [z]).length + 1) suf := by
      have h3 : Seg M tw (pre.length + 1) ([z] ++ suf) := h2
      have h4 := (Seg.ap.mp h3).2
      rw [show (pre ++ [z]).length + 1 = pre.length + 1 + [z].length by simp]
      exact h4.cg fun i hi _ => ⟨m1 _ (by simp at hi; omega), m2 _ (by simp at hi; omega)⟩
    have el : (pre ++ [z]).length = pre.length + 1 := by simp
    obtain ⟨M1, i1, i2, i3⟩ := ih (pre ++ [z]) Mb n hSb (by rw [m1 _ (by omega), hc, el]; congr 1; omega) (by rw [el]; omega) s1 s2 (by omega)
    refine ⟨M1, ?_, by simpa using i2, FrL.tr ⟨?_, ?_, ?_, ?_⟩ i3⟩
    · rw [el] at i1
      rw [show pre.length + (suf.length + 1) = pre.length + 1 + suf.length by omega, ← i1, f_X10_takeLetter_2, rs_f hS, rs_0 hS, bnd_e, rs_fa hS, l850, rs_c hS (by decide), mI_c (by decide), hc, nI_1, if_neg (nI_ge (by omega) (by omega)), bnd_e, rs_fa hS, bnd_e, rs_fa hS, c851, nI_1, rs_c hS (by omega), rs_c hS (by omega), bnd_e, sI_c (by omega), mI_c (by omega), show 851 + pre.length + 1 = 851 + (pre.length + 1) by omega, hg.1, hMa, rs_2 hSa, bnd_e, rs_fw hSa, bnd_e, rs_fw hSa, rs_cw hSa (by omega), rs_cw hSa (by omega), bnd_e, sI_c (by omega), mI_c (by omega), e1, hMb, bnd_e]
    · rw [← hMb, ← hMa]; rfl
    · intro o q1 q2 k
      rw [← hMb, mI_o _ _ _ _ _ q2, ← hMa, mI_o _ _ _ _ _ q1]
    · intro o k; rw [← hMb, ← hMa]; rfl
    · intro b hb; exact m1 b (by omega)
theorem at_l {M : Mem} {tw : Bool} (hS : RS M) {f g : Nat} (hf : f < 16) (hg : g < 16) (all : List (Nat × Ltr)) (hc : mI M 121 850 = nI all.length) (hlen : all.length ≤ 9000) (hs : Seg M tw 0 all) (hp : ∀ x, x ∈ all → x.1 < 256) : ∀ (a pre : List (Nat × Ltr)) (n : Nat) (b : List (Nat × Ltr)), all = pre ++ a ++ b → (∀ x, x ∈ a → x.1 ≠ 16 * f + g) → a.length + 1 ≤ n → (∀ z b', b = z :: b' → z.1 = 16 * f + g) → f_X10_letterAt_2 M n 120 (nI f) (nI g) (nI pre.length) = some (if b = [] then -1 else nI (pre.length + a.length)) := by
  intro a
  induction a with
  | nil =>
    intro pre n b e h1 hn hb
    obtain ⟨n, rfl⟩ : ∃ m, n = m + 1 := ⟨n - 1, by simp at hn; omega⟩
    simp only [List.append_nil] at e
    cases b with
    | nil =>
      rw [List.append_nil] at e
      subst e
      rw [f_X10_letterAt_2, rs_f hS, rs_0 hS, bnd_e, rs_fa hS, l850, rs_c hS (by decide), cl_n (by decide), hc, if_pos (nI_le (Nat.le_refl _) (by omega)), if_pos rfl]
    | cons z b =>
      have hz := hb z b rfl
      have hl : all.length = pre.length + 1 + b.length := by rw [e]; simp; omega
      have hgz := hs pre.length z (by rw [e, List.getElem?_append_right (Nat.le_refl _)]; simp)
      rw [Nat.zero_add] at hgz
      rw [f_X10_letterAt_2, rs_f hS, rs_0 hS, bnd_e, rs_fa hS, l850, rs_c hS (by decide), cl_n (by decide), hc, if_neg (nI_ge (by omega) (by omega)), bnd_e, rs_fa hS, c851, rs_c hS (by omega), f_X10_pairOf, cl_n (by omega), hgz.1, enc_pair (by omega), obd_s, c16, hz, if_pos rfl, if_neg (by simp)]
      simp
  | cons y a ih =>
    intro pre n b e h1 hn hb
    simp only [List.length_cons] at hn
    obtain ⟨n, rfl⟩ : ∃ m, n = m + 1 := ⟨n - 1, by omega⟩
    have hy := h1 y (by simp)
    have hy2 : y.1 < 256 := hp y (by rw [e]; simp)
    have hl : all.length = pre.length + (a.length + 1) + b.length := by rw [e]; simp; omega
    have hgz := hs pre.length y (by rw [e, List.append_assoc, List.getElem?_append_right (Nat.le_refl _)]; simp)
    rw [Nat.zero_add] at hgz
    have hi := ih (pre ++ [y]) n b (by rw [e]; simp) (fun x hx => h1 x (by simp [hx])) (by omega) hb
    rw [show (pre ++ [y]).length = pre.length + 1 by simp] at hi
    rw [f_X10_letterAt_2, rs_f hS, rs_0 hS, bnd_e, rs_fa hS, l850, rs_c hS (by decide), cl_n (by decide), hc, if_neg (nI_ge (by omega) (by omega)), bnd_e, rs_fa hS, c851, rs_c hS (by omega), f_X10_pairOf, cl_n (by omega), hgz.1, enc_pair hy2, obd_s, c16, if_neg (fun q => hy ((nI_eq (by omega) (by omega)).mp q)), bnd_e, nI_1, hi]
    congr 2
    congr 1
    simp; omega
/-- the place of the first letter of a lane that has one -/
theorem RV.tat {M : Mem} {tw : Bool} {t : Int32} {S : St} {pb pt : List Row4} (h : RV M tw t S pb pt) {f g : Nat} (hf : f < 16) (hg : g < 16) {x : Ltr} {r : List Ltr} (hx : xL S (16 * f + g) = x :: r) {n : Nat} (hn : 9100 ≤ n) : f_X10_letterAt n 120 (nI f) (nI g) M = some (nI (flr (xL S) 0 (16 * f + g)).length) := by
  obtain ⟨hS, ht, ha, hw, hl, hb1, hb2⟩ := h
  have hsp := fl_split S (show 16 * f + g < 256 by omega)
  have hb : (flr (xL S) 0 (16 * f + g)).length ≤ (fl S).length := by rw [hsp, List.length_append, List.length_append]; omega
  have := hl.2.1
  have q := at_l hS hf hg (fl S) hl.1 hl.2.1 hl.2.2 (fun x hx => (fl_mem hx).1) (flr (xL S) 0 (16 * f + g)) [] n ((((xL S (16 * f + g)).map fun x => (16 * f + g, x))) ++ flr (xL S) (16 * f + g + 1) (255 - (16 * f + g))) (by rw [hsp]; simp) (fun x hx => by have := flr_in hx; omega) (by omega) (by rw [hx]; intro z b' e; simp at e; rw [← e.1])
  rw [f_X10_letterAt, show (0 : Int32) = nI ([] : List (Nat × Ltr)).length from rfl, q, if_neg (by rw [hx]; simp)]
  simp
theorem RV.tno {M : Mem} {tw : Bool} {t : Int32} {S : St} {pb pt : List Row4} (h : RV M tw t S pb pt) {f g : Nat} (hf : f < 16) (hg : g < 16) (hx : xL S (16 * f + g) = []) {n : Nat} (hn : 9100 ≤ n) : f_X10_letterAt n 120 (nI f) (nI g) M = some (-1) := by
  obtain ⟨hS, ht, ha, hw, hl, hb1, hb2⟩ := h
  have := hl.2.1
  have q := at_l hS hf hg (fl S) hl.1 hl.2.1 hl.2.2 (fun x hx => (fl_mem hx).1) (fl S) [] n [] (by simp) (fun x hm e => by have := (fl_mem hm).2; rw [e, hx] at this; simp at this) (by omega) (by simp)
  rw [f_X10_letterAt, show (0 : Int32) = nI ([] : List (Nat × Ltr)).length from rfl, q, if_pos rfl]
set_option maxHeartbeats 1000000 in
/-- the first letter of a lane is taken away -/
theorem RV.take {M : Mem} {tw : Bool} {t : Int32} {S : St} {pb pt : List Row4} (h : RV M tw t S pb pt) {l : Nat} (hl0 : l < 256) {x : Ltr} {r : List Ltr} (hx : xL S l = x :: r) {n : Nat} (hn : 9100 ≤ n) : mI M 121 (851 + (flr (xL S) 0 l).length) = enc (l, x) ∧ (flr (xL S) 0 l).length < 9000 ∧ ∃ M', f_X10_takeLetter n 120 (nI (flr (xL S) 0 l).length) M = some M' ∧ RV M' tw t (uL S l r) pb pt ∧ Fr PA M M' := by
  obtain ⟨hS, ht, ha, hw, hl, hb1, hb2⟩ := h
  have hsp := fl_split S hl0
  rw [hx] at hsp
  have hnew := fl_uL S hl0 r
  generalize flr (xL S) 0 l = pre at hsp hnew ⊢
  generalize hQ : (r.map fun x => (l, x)) ++ flr (xL S) (l + 1) (255 - l) = suf
  have hsp2 : fl S = pre ++ ([(l, x)] ++ suf) := by rw [hsp, ← hQ]; simp
  have hnew2 : fl (uL S l r) = pre ++ suf := by rw [hnew, ← hQ]; simp
  have hlen : (fl S).length = pre.length + 1 + suf.length := by rw [hsp2]; simp; omega
  have hle := hl.2.1
  have hseg := hl.2.2
  rw [hsp2, Seg.ap, Seg.ap, Seg.one, Nat.zero_add, List.length_singleton] at hseg
  obtain ⟨g1, g2, g3⟩ := hseg
  obtain ⟨M1, i1, i2, i3⟩ := take_l tw suf pre M n hS (by rw [hl.1, hlen]) (by omega) g1 g3 (by omega)
  have hS1 : RS M1 := hS.e i3.1
  refine ⟨g2.1, by omega, _, i1, ?_, ?_⟩
  · generalize hMa : sI M1 121 850 (nI (pre.length + suf.length)) = Ma
    generalize hMb : sI Ma 121 (851 + (pre.length + suf.length)) 0 = Mb
    have k1 : ∀ b, b < 850 ∨ 9851 ≤ b → mI Mb 121 b = mI M 121 b := by
      intro b hb
      rw [← hMb, mI_n _ _ _ _ (by omega), ← hMa, mI_n _ _ _ _ (by omega)]
      exact i3.2.2.2 b (by omega)
    refine ⟨?_, ?_, fun kk ii hv => ?_, hw.cg (fun b _ _ => k1 b (by omega)) rfl, ⟨?_, ?_, ?_⟩, hb1.cg (k1 _ (by omega)) (fun b _ _ => k1 b (by omega)), hb2.cg (k1 _ (by omega)) (fun b _ _ => k1 b (by omega))⟩
    · subst hMb; subst hMa; exact hS1.e rfl
    · rw [← hMb, mI_o _ _ _ _ _ (by decide), ← hMa, mI_o _ _ _ _ _ (by decide), i3.2.1 120 (by decide) (by decide)]; exact ht
    · rw [k1 _ (ad_lim hv).2.1]; exact ha kk ii hv
    · rw [hnew2, ← hMb, mI_n _ _ _ _ (by omega), ← hMa, mI_s, List.length_append]
    · rw [hnew2, List.length_append]; omega
    · rw [hnew2]
      refine i2.cg fun i _ hi => ⟨?_, ?_⟩
      · rw [List.length_append] at hi
        rw [← hMb, mI_n _ _ _ _ (by omega), ← hMa, mI_n _ _ _ _ (by omega)]
      · rw [← hMb, mI_o _ _ _ _ _ (by decide), ← hMa, mI_o _ _ _ _ _ (by decide)]
  · exact Fr.tr i3.toFr (Fr.tr (Fr.tsI ⟨by decide, by decide⟩) (Fr.tsI ⟨by decide, by decide⟩))
/-! ===== the reference's registers, one by one ===== -/
theorem RV.toRK {M : Mem} {tw : Bool} {t : Int32} {S : St} {pb pt : List Row4} (h : RV M tw t S pb pt) : RK M 120 121 := h.1.toRK
theorem RV.rg {M : Mem} {tw : Bool} {t : Int32} {S : St} {pb pt : List Row4} (h : RV M tw t S pb pt) {k i : Nat} (hv : vk k i) : mI M 121 (ad k i) = xR S k i := h.2.2.1 k i hv
theorem RV.st {M : Mem} {tw : Bool} {t : Int32} {S : St} {pb pt : List Row4} (h : RV M tw t S pb pt) {k i : Nat} (hv : vk k i) (x : Int32) : RV (sI M 121 (ad k i) x) tw t (uR S k i x) pb pt := by
  obtain ⟨hS, ht, ha, hw, hl, hb1, hb2⟩ := h
  have lim := ad_lim hv
  refine ⟨hS.e rfl, ?_, fun k' i' hv' => ?_, fun a hA => ?_, ⟨?_, hl.2.1, hl.2.2.cg fun j _ hj => ⟨?_, ?_⟩⟩, hb1.cg ?_ (fun b _ _ => ?_), hb2.cg ?_ (fun b _ _ => ?_)⟩
  · rw [mI_o _ _ _ _ _ (by decide)]; exact ht
  · rw [mI_sI, xR_uR]
    by_cases e : k' = k ∧ i' = i
    · rw [if_pos e, e.1, e.2, if_pos ⟨rfl, rfl⟩]
    · rw [if_neg e, if_neg (fun q => e (ad_inj hv' hv q.2))]
      exact ha k' i' hv'
  · obtain ⟨h1, h2, h3, h4⟩ := hw a hA
    have w : ∀ j, j < 41 → mI (sI M 121 (ad k i) x) 121 (149 + 44 * a + j) = mI M 121 (149 + 44 * a + j) := fun j hj => mI_n _ _ _ _ (fun e => ad_w hv hA hj e.symm)
    refine ⟨(w 0 (by decide)).trans h1, h2, fun j q hj => ?_, fun j hj1 hj2 => ?_⟩
    · have hl := (List.getElem?_eq_some_iff.mp hj).1
      have h2' : (xW S a).length ≤ 20 := h2
      have hl' : j < (xW S a).length := hl
      rw [show 150 + 44 * a + 2 * j = 149 + 44 * a + (1 + 2 * j) by omega, show 151 + 44 * a + 2 * j = 149 + 44 * a + (2 + 2 * j) by omega, w _ (by omega), w _ (by omega), show 149 + 44 * a + (1 + 2 * j) = 150 + 44 * a + 2 * j by omega, show 149 + 44 * a + (2 + 2 * j) = 151 + 44 * a + 2 * j by omega]
      exact h3 j q hj
    · rw [show 150 + 44 * a + 2 * j = 149 + 44 * a + (1 + 2 * j) by omega, show 151 + 44 * a + 2 * j = 149 + 44 * a + (2 + 2 * j) by omega, w _ (by omega), w _ (by omega), show 149 + 44 * a + (1 + 2 * j) = 150 + 44 * a + 2 * j by omega, show 149 + 44 * a + (2 + 2 * j) = 151 + 44 * a + 2 * j by omega]
      exact h4 j hj1 hj2
  · rw [mI_n _ _ _ _ (by omega)]; exact hl.1
  · have := hl.2.1
    exact mI_n _ _ _ _ (by omega)
  · exact mI_o _ _ _ _ _ (by decide)
  · exact mI_n _ _ _ _ (by omega)
  · exact mI_n _ _ _ _ (by omega)
  · exact mI_n _ _ _ _ (by omega)
  · exact mI_n _ _ _ _ (by omega)
theorem Fr.tad {M : Mem} {k i : Nat} {x : Int32} : Fr PA M (sI M 121 (ad k i) x) := Fr.tsI ⟨by decide, by decide⟩
theorem vk_n {k i : Nat} (hk : k < 11) (hi : i < 16) : vk k i := Or.inl ⟨hk, hi⟩
section
variable {M : Mem} {tw : Bool} {t : Int32} {S : St} {pb pt : List Row4}
theorem RV.get0 (h : RV M tw t S pb pt) {v : Nat} (hv : v < 16) : f_X10_get 120 (nI v) (0 : Int32) M = some (xR S 0 v) := (f_get h.toRK hv (w := 0) (by decide)).trans (congrArg some (h.rg (k := 0) (vk_n (by decide) hv)))
theorem RV.let0 (h : RV M tw t S pb pt) {v : Nat} (hv : v < 16) (x : Int32) : f_X10_let 120 (nI v) (0 : Int32) x M = some (sI M 121 (ad 0 v) x) := f_let h.toRK hv (w := 0) (by decide)
theorem RV.get1 (h : RV M tw t S pb pt) {v : Nat} (hv : v < 16) : f_X10_get 120 (nI v) (1 : Int32) M = some (xR S 1 v) := (f_get h.toRK hv (w := 1) (by decide)).trans (congrArg some (h.rg (k := 1) (vk_n (by decide) hv)))
theorem RV.let1 (h : RV M tw t S pb pt) {v : Nat} (hv : v < 16) (x : Int32) : f_X10_let 120 (nI v) (1 : Int32) x M = some (sI M 121 (ad 1 v) x) := f_let h.toRK hv (w := 1) (by decide)
theorem RV.get2 (h : RV M tw t S pb pt) {v : Nat} (hv : v < 16) : f_X10_get 120 (nI v) (2 : Int32) M = some (xR S 2 v) := (f_get h.toRK hv (w := 2) (by decide)).trans (congrArg some (h.rg (k := 2) (vk_n (by decide) hv)))
theorem RV.let2 (h : RV M tw t S pb pt) {v : Nat} (hv : v < 16) (x : Int32) : f_X10_let 120 (nI v) (2 : Int32) x M = some (sI M 121 (ad 2 v) x) := f_let h.toRK hv (w := 2) (by decide)
theorem RV.get3 (h : RV M tw t S pb pt) {v : Nat} (hv : v < 16) : f_X10_get 120 (nI v) (3 : Int32) M = some (xR S 3 v) := (f_get h.toRK hv (w := 3) (by decide)).trans (congrArg some (h.rg (k := 3) (vk_n (by decide) hv)))
theorem RV.let3 (h : RV M tw t S pb pt) {v : Nat} (hv : v < 16) (x : Int32) : f_X10_let 120 (nI v) (3 : Int32) x M = some (sI M 121 (ad 3 v) x) := f_let h.toRK hv (w := 3) (by decide)
theorem RV.get4 (h : RV M tw t S pb pt) {v : Nat} (hv : v < 16) : f_X10_get 120 (nI v) (4 : Int32) M = some (xR S 4 v) := (f_get h.toRK hv (w := 4) (by decide)).trans (congrArg some (h.rg (k := 4) (vk_n (by decide) hv)))
theorem RV.let4 (h : RV M tw t S pb pt) {v : Nat} (hv : v < 16) (x : Int32) : f_X10_let 120 (nI v) (4 : Int32) x M = some (sI M 121 (ad 4 v) x) := f_let h.toRK hv (w := 4) (by decide)
theorem RV.get5 (h : RV M tw t S pb pt) {v : Nat} (hv : v < 16) : f_X10_get 120 (nI v) (5 : Int32) M = some (xR S 5 v) := (f_get h.toRK hv (w := 5) (by decide)).trans (congrArg some (h.rg (k := 5) (vk_n (by decide) hv)))
theorem RV.let5 (h : RV M tw t S pb pt) {v : Nat} (hv : v < 16) (x : Int32) : f_X10_let 120 (nI v) (5 : Int32) x M = some (sI M 121 (ad 5 v) x) := f_let h.toRK hv (w := 5) (by decide)
theorem RV.get6 (h : RV M tw t S pb pt) {v : Nat} (hv : v < 16) : f_X10_get 120 (nI v) (6 : Int32) M = some (xR S 6 v) := (f_get h.toRK hv (w := 6) (by decide)).trans (congrArg some (h.rg (k := 6) (vk_n (by decide) hv)))
theorem RV.let6 (h : RV M tw t S pb pt) {v : Nat} (hv : v < 16) (x : Int32) : f_X10_let 120 (nI v) (6 : Int32) x M = some (sI M 121 (ad 6 v) x) := f_let h.toRK hv (w := 6) (by decide)
theorem RV.get7 (h : RV M tw t S pb pt) {v : Nat} (hv : v < 16) : f_X10_get 120 (nI v) (7 : Int32) M = some (xR S 7 v) := (f_get h.toRK hv (w := 7) (by decide)).trans (congrArg some (h.rg (k := 7) (vk_n (by decide) hv)))
theorem RV.let7 (h : RV M tw t S pb pt) {v : Nat} (hv : v < 16) (x : Int32) : f_X10_let 120 (nI v) (7 : Int32) x M = some (sI M 121 (ad 7 v) x) := f_let h.toRK hv (w := 7) (by decide)
theorem RV.of0 (h : RV M tw t S pb pt) {v : Nat} (hv : v < 16) : f_X10_of 120 (nI v) (0 : Int32) M = some (xR S 8 v) := (f_of h.toRK hv (w := 0) (by decide)).trans (congrArg some (h.rg (k := 8) (vk_n (by decide) hv)))
theorem RV.put0 (h : RV M tw t S pb pt) {v : Nat} (hv : v < 16) (x : Int32) : f_X10_put 120 (nI v) (0 : Int32) x M = some (sI M 121 (ad 8 v) x) := f_put h.toRK hv (w := 0) (by decide)
theorem RV.of1 (h : RV M tw t S pb pt) {v : Nat} (hv : v < 16) : f_X10_of 120 (nI v) (1 : Int32) M = some (xR S 9 v) := (f_of h.toRK hv (w := 1) (by decide)).trans (congrArg some (h.rg (k := 9) (vk_n (by decide) hv)))
theorem RV.put1 (h : RV M tw t S pb pt) {v : Nat} (hv : v < 16) (x : Int32) : f_X10_put 120 (nI v) (1 : Int32) x M = some (sI M 121 (ad 9 v) x) := f_put h.toRK hv (w := 1) (by decide)
theorem RV.of2 (h : RV M tw t S pb pt) {v : Nat} (hv : v < 16) : f_X10_of 120 (nI v) (2 : Int32) M = some (xR S 10 v) := (f_of h.toRK hv (w := 2) (by decide)).trans (congrArg some (h.rg (k := 10) (vk_n (by decide) hv)))
theorem RV.put2 (h : RV M tw t S pb pt) {v : Nat} (hv : v < 16) (x : Int32) : f_X10_put 120 (nI v) (2 : Int32) x M = some (sI M 121 (ad 10 v) x) := f_put h.toRK hv (w := 2) (by decide)
theorem RV.of3 (h : RV M tw t S pb pt) {v : Nat} (hv : v < 16) : f_X10_of 120 (nI v) (3 : Int32) M = some (nI (xW S v).length) := (f_of h.toRK hv (w := 3) (by decide)).trans (congrArg some (by rw [show 146 + 44 * v + 3 = 149 + 44 * v by omega]; exact (h.2.2.2.1 v hv).1))
end
/-! ===== who is ahead ===== -/
def ahd (s v s' v' : Int32) : Bool := decide (s < s' ∨ (s = s' ∧ v < v'))
theorem f_ah10 (s v s' v' : Int32) (M : Mem) : f_X10_isAhead s v s' v' M = some (if ahd s v s' v' then 1 else 0) := by
  rw [f_X10_isAhead]
  unfold ahd
  by_cases h : s = s'
  · subst h
    rw [if_pos rfl]
    have h1 : ¬ s < s := Int32.lt_irrefl
    by_cases h2 : v' ≤ v
    · rw [if_pos h2]
      have : ¬ v < v' := Int32.not_lt.mpr h2
      simp [h1, this]
    · rw [if_neg h2]
      have : v < v' := Int32.not_le.mp h2
      simp [this]
  · rw [if_neg h]
    by_cases h2 : s' ≤ s
    · rw [if_pos h2]
      have : ¬ s < s' := Int32.not_lt.mpr h2
      simp [h, this]
    · rw [if_neg h2]
      have : s < s' := Int32.not_le.mp h2
      simp [this]
theorem f_ah9 (s v s' v' : Int32) (M : Mem) : f_X9_isAhead s v s' v' M = some (if ahd s v s' v' then 1 else 0) := by
  rw [f_X9_isAhead]
  unfold ahd
  by_cases h : s < s'
  · rw [if_pos h]; simp [h]
  · rw [if_neg h]
    by_cases h1 : s = s'
    · rw [if_pos h1]
      by_cases h2 : v' ≤ v
      · rw [if_pos h2]
        have : ¬ v < v' := Int32.not_lt.mpr h2
        simp [h, this]
      · rw [if_neg h2]
        have : v < v' := Int32.not_le.mp h2
        simp [h1, this]
    · rw [if_neg h1]; simp [h, h1]
/-! ===== who waits at an arbiter of the reference ===== -/
theorem c42 (i : Nat) : (4 : Int32) + ((2 : Int32) * nI i) = nI (4 + 2 * i) := by rw [show (4 : Int32) = nI 4 from rfl, show (2 : Int32) = nI 2 from rfl, pk_mul, nI_add]
theorem RV.wn {M : Mem} {tw : Bool} {t : Int32} {S : St} {pb pt : List Row4} (h : RV M tw t S pb pt) {a i : Nat} (ha : a < 16) (hi : i < 20) : f_X10_waitNode 120 (nI a) (nI i) M = some (mI M 121 (150 + 44 * a + 2 * i)) := by
  rw [f_X10_waitNode, rs_f h.1, c42, f_of h.toRK ha (by omega), obd_s]
  congr 2
  omega
theorem RV.ws {M : Mem} {tw : Bool} {t : Int32} {S : St} {pb pt : List Row4} (h : RV M tw t S pb pt) {a i : Nat} (ha : a < 16) (hi : i < 20) : f_X10_waitStamp 120 (nI a) (nI i) M = some (mI M 121 (151 + 44 * a + 2 * i)) := by
  rw [f_X10_waitStamp, rs_f h.1, c42, nI_1, f_of h.toRK ha (by omega), obd_s]
  congr 2
  omega
theorem wn_K {M : Mem} (h : RK M 120 121) {a i : Nat} (ha : a < 16) (hi : i < 20) : f_X10_waitNode 120 (nI a) (nI i) M = some (mI M 121 (150 + 44 * a + 2 * i)) := by
  rw [f_X10_waitNode, chk_t h.1, c42, f_of h ha (by omega), obd_s]
  congr 2
  omega
theorem ws_K {M : Mem} (h : RK M 120 121) {a i : Nat} (ha : a < 16) (hi : i < 20) : f_X10_waitStamp 120 (nI a) (nI i) M = some (mI M 121 (151 + 44 * a + 2 * i)) := by
  rw [f_X10_waitStamp, chk_t h.1, c42, nI_1, f_of h ha (by omega), obd_s]
  congr 2
  omega
theorem pn_K {M : Mem} (h : RK M 120 121) {a i : Nat} {x : Int32} (ha : a < 16) (hi : i < 20) : f_X10_put 120 (nI a) ((4 : Int32) + ((2 : Int32) * nI i)) x M = some (sI M 121 (150 + 44 * a + 2 * i) x) := by
  rw [c42, f_put h ha (by omega)]
  congr 2
  omega
theorem ps_K {M : Mem} (h : RK M 120 121) {a i : Nat} {x : Int32} (ha : a < 16) (hi : i < 20) : f_X10_put 120 (nI a) (((4 : Int32) + ((2 : Int32) * nI i)) + (1 : Int32)) x M = some (sI M 121 (151 + 44 * a + 2 * i) x) := by
  rw [c42, nI_1, f_put h ha (by omega)]
  congr 2
  omega
/-- the cells of who waits at a alone have changed (149 + 44 a .. 189 + 44 a) -/
def FrW (a : Nat) (M M' : Mem) : Prop := M'.1 = M.1 ∧ (∀ o, o ≠ 121 → ∀ k, mI M' o k = mI M o k) ∧ (∀ o k, mL M' o k = mL M o k) ∧ (∀ b, b < 149 + 44 * a ∨ 190 + 44 * a ≤ b → mI M' 121 b = mI M 121 b)
theorem FrW.rf (a : Nat) (M : Mem) : FrW a M M := ⟨rfl, fun _ _ _ => rfl, fun _ _ => rfl, fun _ _ => rfl⟩
theorem FrW.tr {a : Nat} {M M' M'' : Mem} (h : FrW a M M') (h' : FrW a M' M'') : FrW a M M'' :=
  ⟨h'.1.trans h.1, fun o q1 k => (h'.2.1 o q1 k).trans (h.2.1 o q1 k), fun o k => (h'.2.2.1 o k).trans (h.2.2.1 o k), fun b q => (h'.2.2.2 b q).trans (h.2.2.2 b q)⟩
theorem FrW.s {a b : Nat} {M : Mem} {x : Int32} (h1 : 149 + 44 * a ≤ b) (h2 : b < 190 + 44 * a) : FrW a M (sI M 121 b x) :=
  ⟨rfl, fun o q k => mI_o _ _ _ _ _ q, fun _ _ => rfl, fun c hc => mI_n _ _ _ _ (by omega)⟩
theorem FrW.toFr {a : Nat} {M M' : Mem} (h : FrW a M M') : Fr PA M M' :=
  ⟨h.1, fun o q k => h.2.1 o (fun e => q (e ▸ ⟨by decide, by decide⟩)) k, fun o k => h.2.2.1 o k⟩
def Wsg (M : Mem) (a p : Nat) (xs : List Wtr) : Prop := ∀ i q, xs[i]? = some q → mI M 121 (150 + 44 * a + 2 * (p + i)) = nI q.1 ∧ mI M 121 (151 + 44 * a + 2 * (p + i)) = q.2
theorem Wsg.nil (M : Mem) (a p : Nat) : Wsg M a p [] := fun i q h => by simp at h
theorem Wsg.ap {M : Mem} {a p : Nat} {xs ys : List Wtr} : Wsg M a p (xs ++ ys) ↔ Wsg M a p xs ∧ Wsg M a (p + xs.length) ys := by
  constructor
  · intro h
    refine ⟨fun i q hi => h i q ?_, fun i q hi => ?_⟩
    · rw [List.getElem?_append_left (List.getElem?_eq_some_iff.mp hi).1, hi]
    · have := h (xs.length + i) q (by rw [List.getElem?_append_right (by omega), Nat.add_sub_cancel_left, hi])
      rw [show p + xs.length + i = p + (xs.length + i) by omega]
      exact this
  · intro h i q hi
    by_cases hlt : i < xs.length
    · rw [List.getElem?_append_left hlt] at hi
      exact h.1 i q hi
    · rw [List.getElem?_append_right (by omega)] at hi
      have := h.2 (i - xs.length) q hi
      rw [show p + xs.length + (i - xs.length) = p + i by omega] at this
      exact this
theorem Wsg.one {M : Mem} {a p : Nat} {x : Wtr} : Wsg M a p [x] ↔ (mI M 121 (150 + 44 * a + 2 * p) = nI x.1 ∧ mI M 121 (151 + 44 * a + 2 * p) = x.2) := by
  constructor
  · intro h
    exact h 0 x rfl
  · intro h i q hi
    cases i with
    | zero => simp at hi; subst hi; exact h
    | succ i => simp at hi
theorem Wsg.cg {M M' : Mem} {a p : Nat} {xs : List Wtr} (h : Wsg M a p xs) (e : ∀ b, 150 + 44 * a + 2 * p ≤ b → b < 150 + 44 * a + 2 * (p + xs.length) → mI M' 121 b = mI M 121 b) : Wsg M' a p xs := by
  intro i q hi
  have hl := (List.getElem?_eq_some_iff.mp hi).1
  rw [e _ (by omega) (by omega), e _ (by omega) (by omega)]
  exact h i q hi
/-- RV behind a change of who waits at a -/
theorem RV.wst {M M' : Mem} {tw : Bool} {t : Int32} {S : St} {pb pt : List Row4} (h : RV M tw t S pb pt) {a : Nat} (ha : a < 16) {ws : List Wtr} (f : FrW a M M') (h1 : mI M' 121 (149 + 44 * a) = nI ws.length) (h2 : ws.length ≤ 20) (h3 : Wsg M' a 0 ws) (h4 : ∀ b, 150 + 44 * a + 2 * ws.length ≤ b → b < 190 + 44 * a → mI M' 121 b = 0) : RV M' tw t (uW S a ws) pb pt := by
  obtain ⟨hS, ht, hA, hw, hl, hb1, hb2⟩ := h
  refine ⟨hS.e f.1, (f.2.1 120 (by decide) 3).trans ht, fun k i hv => ?_, fun c hc => ?_, ⟨?_, hl.2.1, hl.2.2.cg fun j _ hj => ⟨?_, ?_⟩⟩, hb1.cg ?_ (fun b _ _ => ?_), hb2.cg ?_ (fun b _ _ => ?_)⟩
  · rw [f.2.2.2 _ ?_]
    · exact hA k i hv
    · have q : ∀ j, j < 41 → ad k i ≠ 149 + 44 * a + j := fun j hj => ad_w hv ha hj
      have q1 := q (ad k i - (149 + 44 * a))
      omega
  · rw [xW_uW]
    by_cases e : c = a
    · subst e
      rw [if_pos rfl]
      refine ⟨h1, h2, fun i q hi => ?_, fun i hi hj => ⟨h4 _ (by omega) (by omega), h4 _ (by omega) (by omega)⟩⟩
      have := h3 i q hi
      rw [Nat.zero_add] at this
      exact this
    · rw [if_neg e]
      obtain ⟨g1, g2, g3, g4⟩ := hw c hc
      refine ⟨?_, g2, fun i q hi => ?_, fun i hi hj => ?_⟩
      · rw [f.2.2.2 _ (by omega)]; exact g1
      · have hl := (List.getElem?_eq_some_iff.mp hi).1
        rw [f.2.2.2 _ (by omega), f.2.2.2 _ (by omega)]; exact g3 i q hi
      · rw [f.2.2.2 _ (by omega), f.2.2.2 _ (by omega)]; exact g4 i hi hj
  · rw [f.2.2.2 _ (by omega)]; exact hl.1
  · have := hl.2.1
    exact f.2.2.2 _ (by omega)
  · exact f.2.1 123 (by decide) _
  · exact f.2.2.2 _ (by omega)
  · exact f.2.2.2 _ (by omega)
  · exact f.2.2.2 _ (by omega)
  · exact f.2.2.2 _ (by omega)
set_option maxHeartbeats 1000000 in
theorem come_l {a v : Nat} {s : Int32} (ha : a < 16) (p : List Wtr) (hp : ∀ x, x ∈ p → ahd s (nI v) x.2 (nI x.1) = false) : ∀ (d : Nat) (q rest : List Wtr) (M : Mem) (n : Nat), q.length = d → (∀ x, x ∈ q → ahd s (nI v) x.2 (nI x.1) = true) → p.length + d + rest.length < 20 → RK M 120 121 → Wsg M a 0 (p ++ q) → Wsg M a (p.length + d + 1) rest → d + 1 ≤ n → ∃ n' M1, f_X10_comeWaiting_8 n 120 (nI a) (nI v) s (nI (p.length + d)) M = f_X10_comeWaiting_87 n' 120 (nI a) (nI v) s (nI p.length) M1 ∧ Wsg M1 a 0 p ∧ Wsg M1 a (p.length + 1) (q ++ rest) ∧ FrW a M M1 ∧ mI M1 121 (149 + 44 * a) = mI M 121 (149 + 44 * a) ∧ (∀ b, 150 + 44 * a + 2 * (p.length + d + 1) ≤ b → mI M1 121 b = mI M 121 b) := by
  intro d
  induction d with
  | zero =>
    intro q rest M n hq hlt hlen hK h1 h2 hn
    have hq0 : q = [] := List.eq_nil_of_length_eq_zero hq
    subst hq0
    obtain ⟨n, rfl⟩ : ∃ m, n = m + 1 := ⟨n - 1, by omega⟩
    refine ⟨n, M, ?_, by simpa using h1, by simpa using h2, FrW.rf a M, rfl, fun _ _ => rfl⟩
    rw [f_X10_comeWaiting_8, Nat.add_zero]
    rcases nil_app p with rfl | ⟨p', z, rfl⟩
    · rw [if_pos (show nI ([] : List Wtr).length ≤ 0 from nI_le (Nat.le_refl 0) (by decide))]
    · have hz := hp z (by simp)
      have hg := h1 p'.length z (by simp)
      rw [Nat.zero_add] at hg
      have hk : (p' ++ [z]).length = p'.length + 1 := by simp
      rw [hk] at hlen ⊢
      rw [if_neg (by rw [show (0 : Int32) = nI 0 from rfl]; exact nI_ge (by omega) (by omega)), chk_t hK.1, nI_pred, ws_K hK ha (by omega), obd_s, wn_K hK ha (by omega), obd_s, hg.1, hg.2, f_ah10, obd_s, hz, if_pos (by rfl)]
  | succ d ih =>
    intro q rest M n hq hlt hlen hK h1 h2 hn
    obtain ⟨n, rfl⟩ : ∃ m, n = m + 1 := ⟨n - 1, by omega⟩
    rcases nil_app q with rfl | ⟨q', z, rfl⟩
    · simp at hq
    have hq' : q'.length = d := by simpa using hq
    have hz := hlt z (by simp)
    have hg := h1 (p.length + d) z (by rw [List.getElem?_append_right (by omega)]; simp [hq'])
    rw [Nat.zero_add] at hg
    have e2 : nI (p.length + (d + 1)) - (1 : Int32) = nI (p.length + d) := by rw [show p.length + (d + 1) = (p.length + d) + 1 by omega, nI_pred]
    have e3 : nI (p.length + (d + 1)) + (-1 : Int32) = nI (p.length + d) := by rw [show p.length + (d + 1) = (p.length + d) + 1 by omega, pk_m1]
    generalize hMa : sI M 121 (150 + 44 * a + 2 * (p.length + (d + 1))) (nI z.1) = Ma
    generalize hMb : sI Ma 121 (151 + 44 * a + 2 * (p.length + (d + 1))) z.2 = Mb
    have hKa : RK Ma 120 121 := by subst hMa; exact hK
    have hKb : RK Mb 120 121 := by subst hMb; exact hKa
    have m1 : ∀ b, b ≠ 150 + 44 * a + 2 * (p.length + (d + 1)) → b ≠ 151 + 44 * a + 2 * (p.length + (d + 1)) → mI Mb 121 b = mI M 121 b := by
      intro b hb1 hb2
      rw [← hMb, mI_n _ _ _ _ hb2, ← hMa, mI_n _ _ _ _ hb1]
    have fa : FrW a M Mb := by
      refine FrW.tr (M' := Ma) ?_ ?_
      · rw [← hMa]; exact FrW.s (by omega) (by omega)
      · rw [← hMb]; exact FrW.s (by omega) (by omega)
    have s1 : Wsg Mb a 0 (p ++ q') := by
      have : Wsg M a 0 ((p ++ q') ++ [z]) := by simpa using h1
      refine (Wsg.ap.mp this).1.cg fun b _ hb => ?_
      simp only [List.length_append, hq'] at hb
      exact m1 _ (by omega) (by omega)
    have s2 : Wsg Mb a (p.length + d + 1) (z :: rest) := by
      rw [show z :: rest = [z] ++ rest from rfl, Wsg.ap]
      refine ⟨Wsg.one.mpr ⟨?_, ?_⟩, ?_⟩
      · rw [← hMb, mI_n _ _ _ _ (by omega), ← hMa, show 150 + 44 * a + 2 * (p.length + d + 1) = 150 + 44 * a + 2 * (p.length + (d + 1)) by omega, mI_s]
      · rw [← hMb, show 151 + 44 * a + 2 * (p.length + d + 1) = 151 + 44 * a + 2 * (p.length + (d + 1)) by omega, mI_s]
      · have h3 : Wsg M a (p.length + (d + 1) + 1) rest := h2
        rw [show p.length + d + 1 + [z].length = p.length + (d + 1) + 1 by simp; omega]
        exact h3.cg fun b h5 _ => m1 _ (by omega) (by omega)
    obtain ⟨n', M1, i1, i2, i3, i4, i5, i6⟩ := ih q' (z :: rest) Mb n hq' (fun x hx => hlt x (by simp [hx])) (by simp; omega) hKb s1 s2 (by omega)
    refine ⟨n', M1, ?_, i2, by simpa using i3, FrW.tr fa i4, i5.trans (m1 _ (by omega) (by omega)), fun b hb => (i6 b (by omega)).trans (m1 b (by omega) (by omega))⟩
    have e5 : mI Ma 121 (151 + 44 * a + 2 * (p.length + d)) = z.2 := by rw [← hMa, mI_n _ _ _ _ (by omega)]; exact hg.2
    rw [← i1, f_X10_comeWaiting_8, if_neg (by rw [show (0 : Int32) = nI 0 from rfl]; exact nI_ge (by omega) (by omega)), chk_t hK.1, e2, ws_K hK ha (by omega), obd_s, wn_K hK ha (by omega), obd_s, hg.1, hg.2, f_ah10, obd_s, hz, if_neg (by decide), obd_s, pn_K hK ha (by omega), obd_s, hMa, chk_t hKa.1, ws_K hKa ha (by omega), obd_s, e5, ps_K hKa ha (by omega), obd_s, hMb, e3, bnd_e]
/-- one comes waiting: between p and q -/
theorem RV.come {M : Mem} {tw : Bool} {t : Int32} {S : St} {pb pt : List Row4} (h : RV M tw t S pb pt) {a v : Nat} {s : Int32} (ha : a < 16) {p q : List Wtr} (hw : xW S a = p ++ q) (hp : ∀ x, x ∈ p → ahd s (nI v) x.2 (nI x.1) = false) (hq : ∀ x, x ∈ q → ahd s (nI v) x.2 (nI x.1) = true) (hl : (xW S a).length < 20) {n : Nat} (hn : 30 ≤ n) : ∃ M', f_X10_comeWaiting n 120 (nI a) (nI v) s M = some M' ∧ RV M' tw t (uW S a (p ++ (v, s) :: q)) pb pt ∧ FrW a M M' := by
  have hW := h.2.2.2.1 a ha
  have hlen : p.length + q.length = (xW S a).length := by rw [hw, List.length_append]
  have hseg : Wsg M a 0 (p ++ q) := by
    rw [← hw]
    intro i z hi
    rw [Nat.zero_add]
    exact hW.2.2.1 i z hi
  obtain ⟨n', M1, i1, i2, i3, i4, i5, i6⟩ := come_l (v := v) (s := s) ha p hp q.length q [] M n rfl hq (by simp; omega) h.toRK hseg (Wsg.nil _ _ _) (by omega)
  rw [List.append_nil] at i3
  have hK1 : RK M1 120 121 := (h.1.e i4.1).toRK
  generalize hMa : sI M1 121 (150 + 44 * a + 2 * p.length) (nI v) = Ma
  generalize hMb : sI Ma 121 (151 + 44 * a + 2 * p.length) s = Mb
  generalize hMc : sI Mb 121 (149 + 44 * a) (nI ((xW S a).length + 1)) = Mc
  have hKa : RK Ma 120 121 := by subst hMa; exact hK1
  have hKb : RK Mb 120 121 := by subst hMb; exact hKa
  have m1 : ∀ b, b ≠ 150 + 44 * a + 2 * p.length → b ≠ 151 + 44 * a + 2 * p.length → b ≠ 149 + 44 * a → mI Mc 121 b = mI M1 121 b := by
    intro b hb1 hb2 hb3
    rw [← hMc, mI_n _ _ _ _ hb3, ← hMb, mI_n _ _ _ _ hb2, ← hMa, mI_n _ _ _ _ hb1]
  have e3 : mI Mb 121 (149 + 44 * a) = nI (xW S a).length := by
    rw [← hMb, mI_n _ _ _ _ (by omega), ← hMa, mI_n _ _ _ _ (by omega), i5]; exact hW.1
  have fr : FrW a M Mc := by
    refine FrW.tr i4 (FrW.tr (M' := Ma) ?_ (FrW.tr (M' := Mb) ?_ ?_))
    · rw [← hMa]; exact FrW.s (by omega) (by omega)
    · rw [← hMb]; exact FrW.s (by omega) (by omega)
    · rw [← hMc]; exact FrW.s (by omega) (by omega)
  have hl2 : (p ++ (v, s) :: q).length = (xW S a).length + 1 := by simp; omega
  refine ⟨Mc, ?_, h.wst ha fr ?_ (by omega) ?_ (fun b hb1 hb2 => ?_), fr⟩
  · have o3 := f_of (w := 3) hKb ha (by decide)
    have p3 := f_put (w := 3) (x := nI ((xW S a).length + 1)) hKb ha (by decide)
    rw [show (nI 3) = (3 : Int32) from rfl] at o3 p3
    rw [f_X10_comeWaiting, rs_f h.1, h.of3 ha, obd_s, ← hlen, i1, f_X10_comeWaiting_87, chk_t hK1.1, pn_K hK1 ha (by omega), obd_s, hMa, chk_t hKa.1, ps_K hKa ha (by omega), obd_s, hMb, chk_t hKb.1, o3, obd_s, show 146 + 44 * a + 3 = 149 + 44 * a by omega, e3, nI_1, p3, obd_s, show 146 + 44 * a + 3 = 149 + 44 * a by omega, hMc]
  · rw [hl2, ← hMc, mI_s]
  · rw [show p ++ (v, s) :: q = p ++ ([(v, s)] ++ q) by simp, Wsg.ap, Wsg.ap, Wsg.one]
    refine ⟨i2.cg fun b h5 h6 => m1 _ (by omega) (by omega) (by omega), ⟨?_, ?_⟩, ?_⟩
    · rw [Nat.zero_add, ← hMc, mI_n _ _ _ _ (by omega), ← hMb, mI_n _ _ _ _ (by omega), ← hMa, mI_s]
    · rw [Nat.zero_add, ← hMc, mI_n _ _ _ _ (by omega), ← hMb, mI_s]
    · rw [Nat.zero_add, List.length_singleton]
      exact i3.cg fun b h5 h6 => m1 _ (by omega) (by omega) (by omega)
  · rw [hl2] at hb1
    rw [m1 _ (by omega) (by omega) (by omega), i6 _ (by omega)]
    have hz := hW.2.2.2 ((b - (150 + 44 * a)) / 2) (by omega) (by omega)
    rcases Nat.mod_two_eq_zero_or_one (b - (150 + 44 * a)) with e | e
    · have : b = 150 + 44 * a + 2 * ((b - (150 + 44 * a)) / 2) := by omega
      rw [this]; exact hz.1
    · have : b = 151 + 44 * a + 2 * ((b - (150 + 44 * a)) / 2) := by omega
      rw [this]; exact hz.2
/-! ===== one goes from those that wait; the first one is granted ===== -/
theorem c4n (j : Nat) : (4 : Int32) + nI j = nI (4 + j) := by rw [show (4 : Int32) = nI 4 from rfl, nI_add]
theorem c4n2 (j : Nat) : ((4 : Int32) + nI j) + (2 : Int32) = nI (6 + j) := by rw [c4n, show (2 : Int32) = nI 2 from rfl, nI_add]; congr 1; omega
theorem c2n (j : Nat) : (2 : Int32) * nI j = nI (2 * j) := by rw [show (2 : Int32) = nI 2 from rfl, pk_mul]
set_option maxHeartbeats 1000000 in
theorem go_l {a m : Nat} (ha : a < 16) (hm : m < 20) : ∀ (d k : Nat) (M : Mem) (n : Nat), k + d = 2 * m → RK M 120 121 → d + 1 ≤ n → ∃ M1, f_X10_goWaiting_14 n 120 (nI a) (nI m) (nI k) M = some M1 ∧ FrW a M M1 ∧ mI M1 121 (149 + 44 * a) = nI m ∧ (∀ j, j < 40 → mI M1 121 (150 + 44 * a + j) = if k ≤ j ∧ j < 2 * m then mI M 121 (150 + 44 * a + (j + 2)) else if j = 2 * m ∨ j = 2 * m + 1 then 0 else mI M 121 (150 + 44 * a + j)) := by
  intro d
  induction d with
  | zero =>
    intro k M n hk hK hn
    obtain ⟨n, rfl⟩ : ∃ m, n = m + 1 := ⟨n - 1, by omega⟩
    have hk2 : k = 2 * m := by omega
    subst hk2
    generalize hMa : sI M 121 (150 + 44 * a + 2 * m) 0 = Ma
    generalize hMb : sI Ma 121 (151 + 44 * a + 2 * m) 0 = Mb
    generalize hMc : sI Mb 121 (149 + 44 * a) (nI m) = Mc
    have hKa : RK Ma 120 121 := by subst hMa; exact hK
    have hKb : RK Mb 120 121 := by subst hMb; exact hKa
    have p3 := f_put (w := 3) (x := nI m) hKb ha (by decide)
    rw [show (nI 3) = (3 : Int32) from rfl, show 146 + 44 * a + 3 = 149 + 44 * a by omega, hMc] at p3
    refine ⟨Mc, ?_, ?_, ?_, fun j hj => ?_⟩
    · rw [f_X10_goWaiting_14, c2n, if_pos (nI_le (Nat.le_refl _) (by omega)), chk_t hK.1, ← c2n, pn_K hK ha hm, obd_s, hMa, chk_t hKa.1, ps_K hKa ha hm, obd_s, hMb, chk_t hKb.1, p3, obd_s]
    · refine FrW.tr (M' := Ma) ?_ (FrW.tr (M' := Mb) ?_ ?_)
      · rw [← hMa]; exact FrW.s (by omega) (by omega)
      · rw [← hMb]; exact FrW.s (by omega) (by omega)
      · rw [← hMc]; exact FrW.s (by omega) (by omega)
    · rw [← hMc, mI_s]
    · rw [if_neg (by omega), ← hMc, mI_n _ _ _ _ (by omega)]
      by_cases e : j = 2 * m
      · rw [if_pos (Or.inl e), ← hMb, mI_n _ _ _ _ (by omega), ← hMa, e, mI_s]
      · by_cases e2 : j = 2 * m + 1
        · rw [if_pos (Or.inr e2), ← hMb, e2, show 150 + 44 * a + (2 * m + 1) = 151 + 44 * a + 2 * m by omega, mI_s]
        · rw [if_neg (by omega), ← hMb, mI_n _ _ _ _ (by omega), ← hMa, mI_n _ _ _ _ (by omega)]
  | succ d ih =>
    intro k M n hk hK hn
    obtain ⟨n, rfl⟩ : ∃ m, n = m + 1 := ⟨n - 1, by omega⟩
    generalize hMa : sI M 121 (150 + 44 * a + k) (mI M 121 (150 + 44 * a + (k + 2))) = Ma
    have hKa : RK Ma 120 121 := by subst hMa; exact hK
    obtain ⟨M1, i1, i2, i3, i4⟩ := ih (k + 1) Ma n (by omega) hKa (by omega)
    have o1 := f_of (w := 6 + k) hK ha (by omega)
    have p1 := f_put (w := 4 + k) (x := mI M 121 (150 + 44 * a + (k + 2))) hK ha (by omega)
    rw [show 146 + 44 * a + (6 + k) = 150 + 44 * a + (k + 2) by omega] at o1
    rw [show 146 + 44 * a + (4 + k) = 150 + 44 * a + k by omega, hMa] at p1
    refine ⟨M1, ?_, FrW.tr ?_ i2, i3, fun j hj => ?_⟩
    · rw [← i1, f_X10_goWaiting_14, c2n, if_neg (nI_ge (by omega) (by omega)), chk_t hK.1, c4n2, o1, obd_s, c4n, p1, obd_s, nI_1, bnd_e]
    · rw [← hMa]; exact FrW.s (by omega) (by omega)
    · rw [i4 j hj]
      by_cases e : j = k
      · subst e
        rw [if_neg (by omega), if_neg (by omega), if_pos (by omega), ← hMa, mI_s]
      · have x1 : mI Ma 121 (150 + 44 * a + (j + 2)) = mI M 121 (150 + 44 * a + (j + 2)) ∨ j + 2 = k := by
          by_cases q : j + 2 = k
          · exact Or.inr q
          · exact Or.inl (by rw [← hMa, mI_n _ _ _ _ (by omega)])
        have x2 : mI Ma 121 (150 + 44 * a + j) = mI M 121 (150 + 44 * a + j) := by rw [← hMa, mI_n _ _ _ _ (by omega)]
        by_cases c1 : k + 1 ≤ j ∧ j < 2 * m
        · rw [if_pos c1, if_pos (by omega)]
          rcases x1 with x1 | x1
          · exact x1
          · omega
        · rw [if_neg c1, if_neg (show ¬ (k ≤ j ∧ j < 2 * m) by omega), x2]
/-- the i-th goes -/
theorem RV.go {M : Mem} {tw : Bool} {t : Int32} {S : St} {pb pt : List Row4} (h : RV M tw t S pb pt) {a : Nat} (ha : a < 16) {p q : List Wtr} {x : Wtr} (hw : xW S a = p ++ x :: q) {n : Nat} (hn : 50 ≤ n) : ∃ M', f_X10_goWaiting n 120 (nI a) (nI p.length) M = some M' ∧ RV M' tw t (uW S a (p ++ q)) pb pt ∧ FrW a M M' := by
  have hW := h.2.2.2.1 a ha
  have hlen : (xW S a).length = p.length + q.length + 1 := by rw [hw]; simp; omega
  have h20 := hW.2.1
  obtain ⟨M1, i1, i2, i3, i4⟩ := go_l (a := a) (m := p.length + q.length) ha (by omega) (2 * q.length) (2 * p.length) M n (by omega) h.toRK (by omega)
  refine ⟨M1, ?_, h.wst ha i2 ?_ (by simp; omega) (fun i z hi => ?_) (fun b hb1 hb2 => ?_), i2⟩
  · rw [f_X10_goWaiting, rs_f h.1, h.of3 ha, obd_s, hlen, nI_pred, bnd_e, c2n, bnd_e, i1]
  · rw [i3, List.length_append]
  · have hl := (List.getElem?_eq_some_iff.mp hi).1
    rw [List.length_append] at hl
    rw [Nat.zero_add]
    have y1 := i4 (2 * i) (by omega)
    have y2 := i4 (2 * i + 1) (by omega)
    rw [show 150 + 44 * a + (2 * i + 1) = 151 + 44 * a + 2 * i by omega] at y2
    by_cases c : i < p.length
    · rw [List.getElem?_append_left c] at hi
      have g := hW.2.2.1 i z (by rw [hw, List.getElem?_append_left c, hi])
      rw [y1, y2, if_neg (by omega), if_neg (by omega), if_neg (by omega), if_neg (by omega)]
      exact g
    · rw [List.getElem?_append_right (by omega)] at hi
      have g := hW.2.2.1 (i + 1) z (by rw [hw, List.getElem?_append_right (by omega), show i + 1 - p.length = (i - p.length) + 1 by omega, List.getElem?_cons_succ, hi])
      rw [y1, y2, if_pos (by omega), if_pos (by omega), show 150 + 44 * a + (2 * i + 2) = 150 + 44 * a + 2 * (i + 1) by omega, show 150 + 44 * a + (2 * i + 1 + 2) = 151 + 44 * a + 2 * (i + 1) by omega]
      exact g
  · rw [List.length_append] at hb1
    have y := i4 (b - (150 + 44 * a)) (by omega)
    rw [show 150 + 44 * a + (b - (150 + 44 * a)) = b by omega] at y
    rw [y, if_neg (by omega)]
    by_cases c : b - (150 + 44 * a) = 2 * (p.length + q.length) ∨ b - (150 + 44 * a) = 2 * (p.length + q.length) + 1
    · rw [if_pos c]
    · rw [if_neg c]
      have hz := hW.2.2.2 ((b - (150 + 44 * a)) / 2) (by omega) (by omega)
      rcases Nat.mod_two_eq_zero_or_one (b - (150 + 44 * a)) with e | e
      · have : b = 150 + 44 * a + 2 * ((b - (150 + 44 * a)) / 2) := by omega
        rw [this]; exact hz.1
      · have : b = 151 + 44 * a + 2 * ((b - (150 + 44 * a)) / 2) := by omega
        rw [this]; exact hz.2
/-- nobody is granted by a -/
def nob (a : Nat) (S : St) : St := uR (uR (uR S 8 a (-1)) 9 a 0) 10 a 0
def gF (t : Int32) (a : Nat) (S : St) : St := match xW S a with
  | [] => nob a S
  | w :: r => sn t 1 a w.1 w.2 (uW (uR (uR (nob a S) 8 a (nI w.1)) 9 a w.2) a r)
theorem uR_uR (S : St) (k i : Nat) (x y : Int32) : uR (uR S k i x) k i y = uR S k i y := by
  unfold uR
  refine Prod.ext ?_ rfl
  funext a b
  simp only [up2]
  by_cases e : a = k ∧ b = i
  · rw [if_pos e, if_pos e]
  · rw [if_neg e, if_neg e, if_neg e]
theorem uR_cm (S : St) {k i k' i' : Nat} (x y : Int32) (h : ¬ (k = k' ∧ i = i')) : uR (uR S k i x) k' i' y = uR (uR S k' i' y) k i x := by
  unfold uR
  refine Prod.ext ?_ rfl
  funext a b
  simp only [up2]
  by_cases e : a = k ∧ b = i
  · by_cases e' : a = k' ∧ b = i'
    · exact absurd ⟨e.1.symm.trans e'.1, e.2.symm.trans e'.2⟩ h
    · rw [if_neg e', if_pos e, if_pos e]
  · by_cases e' : a = k' ∧ b = i'
    · rw [if_pos e', if_neg e, if_pos e']
    · rw [if_neg e', if_neg e, if_neg e, if_neg e']
theorem uR_uW (S : St) (k i : Nat) (x : Int32) (a : Nat) (w : List Wtr) : uR (uW S a w) k i x = uW (uR S k i x) a w := rfl
theorem fl_uW (S : St) (a : Nat) (w : List Wtr) : fl (uW S a w) = fl S := rfl
theorem fl_uR (S : St) (k i : Nat) (x : Int32) : fl (uR S k i x) = fl S := rfl
theorem RV.tnob {M : Mem} {tw : Bool} {t : Int32} {S : St} {pb pt : List Row4} (h : RV M tw t S pb pt) {a : Nat} (ha : a < 16) : ∃ M', f_X10_nobody 120 (nI a) M = some M' ∧ RV M' tw t (nob a S) pb pt ∧ Fr PA M M' := by
  have h1 := h.st (vk_n (k := 8) (by decide) ha) (-1)
  have h2 := h1.st (vk_n (k := 9) (by decide) ha) 0
  have h3 := h2.st (vk_n (k := 10) (by decide) ha) 0
  refine ⟨_, ?_, h3, Fr.tr Fr.tad (Fr.tr Fr.tad Fr.tad)⟩
  rw [f_X10_nobody, rs_f h.1, h.put0 ha, obd_s, rs_f h1.1, h1.put1 ha, obd_s, rs_f h2.1, h2.put2 ha, obd_s]
theorem RV.wn0 {M : Mem} {tw : Bool} {t : Int32} {S : St} {pb pt : List Row4} (h : RV M tw t S pb pt) {a : Nat} (ha : a < 16) : f_X10_waitNode 120 (nI a) (0 : Int32) M = some (mI M 121 (150 + 44 * a)) := h.wn (i := 0) ha (by decide)
theorem RV.ws0 {M : Mem} {tw : Bool} {t : Int32} {S : St} {pb pt : List Row4} (h : RV M tw t S pb pt) {a : Nat} (ha : a < 16) : f_X10_waitStamp 120 (nI a) (0 : Int32) M = some (mI M 121 (151 + 44 * a)) := h.ws (i := 0) ha (by decide)
theorem RV.w0 {M : Mem} {tw : Bool} {t : Int32} {S : St} {pb pt : List Row4} (h : RV M tw t S pb pt) {a : Nat} (ha : a < 16) {w : Wtr} {r : List Wtr} (hw : xW S a = w :: r) : mI M 121 (150 + 44 * a) = nI w.1 ∧ mI M 121 (151 + 44 * a) = w.2 := (h.2.2.2.1 a ha).2.2.1 0 w (by rw [hw]; rfl)
theorem RV.wl {M : Mem} {tw : Bool} {t : Int32} {S : St} {pb pt : List Row4} (h : RV M tw t S pb pt) {a : Nat} (ha : a < 16) : (xW S a).length ≤ 20 := (h.2.2.2.1 a ha).2.1
theorem RV.tgF {M : Mem} {tw : Bool} {t : Int32} {S : St} {pb pt : List Row4} (h : RV M tw t S pb pt) {a : Nat} (ha : a < 16) (hlen : (fl S).length < 9000) (hw : ∀ w, w ∈ xW S a → w.1 < 16) {n : Nat} (hn : 9100 ≤ n) : ∃ M', f_X10_grantFirst n 120 (nI a) M = some M' ∧ RV M' tw t (gF t a S) pb pt ∧ Fr PA M M' := by
  obtain ⟨M1, e1, h1, f1⟩ := h.tnob ha
  cases hc : xW S a with
  | nil =>
    refine ⟨M1, ?_, ?_, f1⟩
    · rw [f_X10_grantFirst, rs_f h.1, e1, obd_s, rs_f h1.1, h1.of3 ha, obd_s, show xW (nob a S) a = [] from hc, if_pos (by rfl)]
    · unfold gF; rw [hc]; exact h1
  | cons w r =>
    have hc1 : xW (nob a S) a = w :: r := hc
    have hwl := h.wl ha
    have hwl2 : (xW S a).length = r.length + 1 := by rw [hc]; rfl
    have hw16 : w.1 < 16 := hw w (by rw [hc]; simp)
    have h2 := h1.st (vk_n (k := 8) (by decide) ha) (nI w.1)
    have h3 := h2.st (vk_n (k := 9) (by decide) ha) w.2
    obtain ⟨M4, e4, h4, f4⟩ := h3.go (p := []) (q := r) (x := w) ha hc (n := n) (by omega)
    obtain ⟨M5, e5, h5, f5⟩ := h4.send (k := 1) (f := a) (g := w.1) (s := w.2) ha hw16 (by decide) hlen hn
    have w01 := h1.w0 ha hc1
    have w02 := h2.w0 ha hc1
    have r8 : xR (uW (uR (uR (nob a S) 8 a (nI w.1)) 9 a w.2) a ([] ++ r)) 8 a = nI w.1 := by
      rw [xR_uW, xR_uR, if_neg (by omega), xR_uR, if_pos ⟨rfl, rfl⟩]
    have r9 : xR (uW (uR (uR (nob a S) 8 a (nI w.1)) 9 a w.2) a ([] ++ r)) 9 a = w.2 := by
      rw [xR_uW, xR_uR, if_pos ⟨rfl, rfl⟩]
    refine ⟨M5, ?_, ?_, Fr.tr f1 (Fr.tr Fr.tad (Fr.tr Fr.tad (Fr.tr f4.toFr f5)))⟩
    · rw [f_X10_grantFirst, rs_f h.1, e1, obd_s, rs_f h1.1, h1.of3 ha, obd_s, hc1, if_neg (by rw [show (0 : Int32) = nI 0 from rfl]; exact fun q => by have := (nI_eq (by simp; omega) (by decide)).mp q; simp at this), h1.wn0 ha, obd_s, w01.1, h1.put0 ha, obd_s, rs_f h2.1, h2.ws0 ha, obd_s, w02.2, h2.put1 ha, obd_s, rs_f h3.1, show (0 : Int32) = nI ([] : List Wtr).length from rfl, e4, obd_s, rs_f h4.1]
      rw [show (nI ([] : List Wtr).length) = (0 : Int32) from rfl, h4.of0 ha, obd_s, h4.of1 ha, obd_s, r8, r9, show (1 : Int32) = nI 1 from rfl, e5, obd_s]
    · unfold gF; rw [hc]; exact h5
/-! ===== REQUEST, YIELD, RELEASE at an arbiter of the reference ===== -/
def spl (f : Wtr → Bool) : List Wtr → List Wtr × List Wtr
  | [] => ([], [])
  | w :: r => if f w then ([], w :: r) else (w :: (spl f r).1, (spl f r).2)
theorem spl_ap (f : Wtr → Bool) (l : List Wtr) : (spl f l).1 ++ (spl f l).2 = l := by
  induction l with
  | nil => rfl
  | cons w r ih =>
    unfold spl
    by_cases h : f w = true
    · rw [if_pos h]; rfl
    · rw [if_neg h]; simp [ih]
theorem spl_1 (f : Wtr → Bool) (l : List Wtr) : ∀ x, x ∈ (spl f l).1 → f x = false := by
  induction l with
  | nil => intro x h; simp [spl] at h
  | cons w r ih =>
    intro x hx
    unfold spl at hx
    by_cases h : f w = true
    · rw [if_pos h] at hx; simp at hx
    · rw [if_neg h] at hx
      rcases List.mem_cons.mp hx with rfl | hx
      · simpa using h
      · exact ih x hx
def ahw (v : Nat) (s : Int32) (w : Wtr) : Bool := ahd s (nI v) w.2 (nI w.1)
def ins (v : Nat) (s : Int32) (l : List Wtr) : List Wtr := (spl (ahw v s) l).1 ++ (v, s) :: (spl (ahw v s) l).2
theorem ins_len (v : Nat) (s : Int32) (l : List Wtr) : (ins v s l).length = l.length + 1 := by
  have := congrArg List.length (spl_ap (ahw v s) l)
  rw [List.length_append] at this
  unfold ins
  rw [List.length_append, List.length_cons]
  omega
/-- of those that v by s is ahead of none comes before one that it isn't ahead of -/
def Srt (v : Nat) (s : Int32) (l : List Wtr) : Prop := ∀ x, x ∈ (spl (ahw v s) l).2 → ahw v s x = true
theorem fl_sn_len {t : Int32} {k f g : Nat} {s : Int32} {S : St} (h : 16 * f + g < 256) : (fl (sn t k f g s S)).length = (fl S).length + 1 := by
  rw [fl_sn h, fl_split S h]
  simp only [List.length_append, List.length_singleton]
  omega
theorem bz_if (b : Bool) : bz (if b then (1 : Int32) else 0) := by
  cases b
  · exact Or.inl rfl
  · exact Or.inr rfl
theorem if10 (b : Bool) : ((if b then (1 : Int32) else 0) = 0) ↔ (b = false) := by
  cases b
  · simp
  · simp [ne10]
theorem if11 (b : Bool) : ((if b then (1 : Int32) else 0) = 1) ↔ (b = true) := by
  cases b
  · simp [ne01]
  · simp
theorem RV.aog {M : Mem} {tw : Bool} {t : Int32} {S : St} {pb pt : List Row4} (h : RV M tw t S pb pt) {a : Nat} (ha : a < 16) (v s : Int32) : f_X10_isAheadOfGranted 120 (nI a) v s M = some (if ahd s v (xR S 9 a) (xR S 8 a) then 1 else 0) := by
  rw [f_X10_isAheadOfGranted, rs_f h.1, h.of1 ha, obd_s, h.of0 ha, obd_s, f_ah10, obd_s, chk_t (bz_if _)]
def gn (S : St) (a : Nat) : Nat := (xR S 8 a).toNatClampNeg
theorem gn_e {S : St} {a g : Nat} (h : xR S 8 a = nI g) (hg : g < 16) : gn S a = g := by
  unfold gn; rw [h, nI_clamp (by omega)]
def rq3 (t : Int32) (a : Nat) (S : St) : St := if xR S 10 a = 1 then S else sn t 3 a (gn S a) (xR S 9 a) (uR S 10 a 1)
def rq2 (t : Int32) (a : Nat) (old : List Wtr) (S : St) : St := match old with
  | [] => S
  | w :: _ => if ahd w.2 (nI w.1) (xR S 9 a) (xR S 8 a) then sn t 2 a w.1 w.2 S else S
def rq (t : Int32) (a v : Nat) (s : Int32) (S : St) : St :=
  if xR S 8 a = -1 then gF t a (uW S a (ins v s (xW S a)))
  else if (ins v s (xW S a)).head? = some (v, s) ∧ ahd s (nI v) (xR S 9 a) (xR S 8 a) = true then rq3 t a (rq2 t a (xW S a) (uW S a (ins v s (xW S a))))
  else sn t 2 a v s (uW S a (ins v s (xW S a)))
/-- whom a granted -/
def Gok (S : St) (a : Nat) : Prop := xR S 8 a = -1 ∨ ∃ g, g < 16 ∧ xR S 8 a = nI g
theorem nI_m1 {g : Nat} (h : g < 16) : ¬ nI g = -1 := by
  intro q
  have h1 := nI_pos (n := g) (by omega)
  rw [q] at h1
  exact h1 (by decide)
theorem RV.trq3 {M : Mem} {tw : Bool} {t : Int32} {S : St} {pb pt : List Row4} (h : RV M tw t S pb pt) {a : Nat} (ha : a < 16) (hlen : (fl S).length < 9000) (hg : ∃ g, g < 16 ∧ xR S 8 a = nI g) {n : Nat} (hn : 9100 ≤ n) : ∃ M', f_X10_requested_133 n 120 (nI a) M = some M' ∧ RV M' tw t (rq3 t a S) pb pt ∧ Fr PA M M' := by
  obtain ⟨g, hg16, hge⟩ := hg
  unfold rq3
  by_cases e : xR S 10 a = 1
  · rw [if_pos e]
    refine ⟨M, ?_, h, Fr.rf _ _⟩
    rw [f_X10_requested_133, rs_f h.1, h.of2 ha, obd_s, if_pos e]
  · rw [if_neg e, gn_e hge hg16]
    have h1 := h.st (vk_n (k := 10) (by decide) ha) 1
    obtain ⟨M2, e2, h2, f2⟩ := h1.send (k := 3) (f := a) (g := g) (s := xR S 9 a) ha hg16 (by decide) hlen hn
    refine ⟨M2, ?_, h2, Fr.tr Fr.tad f2⟩
    rw [f_X10_requested_133, rs_f h.1, h.of2 ha, obd_s, if_neg e, h.put2 ha, obd_s, rs_f h1.1, h1.of0 ha, obd_s, h1.of1 ha, obd_s, show xR (uR S 10 a 1) 8 a = nI g from hge, show xR (uR S 10 a 1) 9 a = xR S 9 a from rfl, show (3 : Int32) = nI 3 from rfl, e2, obd_s]
theorem RV.rqf {M : Mem} {tw : Bool} {t : Int32} {S : St} {pb pt : List Row4} (h : RV M tw t S pb pt) {a v : Nat} {s : Int32} (ha : a < 16) (hv : v < 16) (hlen : (fl S).length < 9000) {n : Nat} (hn : 9100 ≤ n) : ∃ M', f_X10_requested_97 n 120 (nI a) (nI v) s M = some M' ∧ RV M' tw t (sn t 2 a v s S) pb pt ∧ Fr PA M M' := by
  obtain ⟨M2, e2, h2, f2⟩ := h.send (k := 2) (f := a) (g := v) (s := s) ha hv (by decide) hlen hn
  refine ⟨M2, ?_, h2, f2⟩
  rw [f_X10_requested_97, rs_f h.1, show (2 : Int32) = nI 2 from rfl, e2, obd_s]
theorem ins_hd {v : Nat} {s : Int32} {l : List Wtr} : ∃ w r, ins v s l = w :: r := by
  unfold ins
  cases (spl (ahw v s) l).1 with
  | nil => exact ⟨_, _, rfl⟩
  | cons w r => exact ⟨_, _, rfl⟩
set_option maxHeartbeats 1000000 in
theorem RV.rq14 {M : Mem} {tw : Bool} {t : Int32} {S : St} {pb pt : List Row4} (h : RV M tw t S pb pt) {a v : Nat} {s : Int32} (ha : a < 16) (hv : v < 16) (hlen : (fl S).length + 2 ≤ 9000) (hW : ∀ w, w ∈ xW S a → w.1 < 16) (hwl : (xW S a).length < 20) (hs : Srt v s (xW S a)) (hG : Gok S a) {n : Nat} (hn : 9100 ≤ n) {u0 : Int32} (hu0 : (xW S a = [] ∧ u0 = 0) ∨ (xW S a ≠ [] ∧ u0 = 1)) : ∃ M', f_X10_requested_14 n 120 (nI a) (nI v) s u0 M = some M' ∧ RV M' tw t (rq t a v s S) pb pt ∧ Fr PA M M' := by
  obtain ⟨M1, e1, h1, f1⟩ := h.come (v := v) (s := s) ha (p := (spl (ahw v s) (xW S a)).1) (q := (spl (ahw v s) (xW S a)).2) (spl_ap _ _).symm (spl_1 _ _) hs hwl (n := n) (by omega)
  have hS1 : uW S a ((spl (ahw v s) (xW S a)).1 ++ (v, s) :: (spl (ahw v s) (xW S a)).2) = uW S a (ins v s (xW S a)) := rfl
  rw [hS1] at h1
  have hfl : (fl (uW S a (ins v s (xW S a)))).length = (fl S).length := rfl
  obtain ⟨w, r, hwr⟩ := @ins_hd v s (xW S a)
  have hx1 : xW (uW S a (ins v s (xW S a))) a = w :: r := by rw [xW_uW, if_pos rfl, hwr]
  have hW1 : ∀ w, w ∈ xW (uW S a (ins v s (xW S a))) a → w.1 < 16 := by
    intro x hx
    rw [xW_uW, if_pos rfl] at hx
    unfold ins at hx
    rcases List.mem_append.mp hx with hx | hx
    · exact hW x (by rw [← spl_ap (ahw v s) (xW S a)]; exact List.mem_append_left _ hx)
    · rcases List.mem_cons.mp hx with rfl | hx
      · exact hv
      · exact hW x (by rw [← spl_ap (ahw v s) (xW S a)]; exact List.mem_append_right _ hx)
  have hr8 : xR (uW S a (ins v s (xW S a))) 8 a = xR S 8 a := rfl
  have hr9 : xR (uW S a (ins v s (xW S a))) 9 a = xR S 9 a := rfl
  rcases hG with hG | hG
  · obtain ⟨M2, e2, h2, f2⟩ := h1.tgF ha (by omega) hW1 hn
    refine ⟨M2, ?_, ?_, Fr.tr f1.toFr f2⟩
    · rw [f_X10_requested_14, rs_f h.1, h.wn0 ha, obd_s, h.ws0 ha, obd_s, e1, obd_s, rs_f h1.1, h1.of0 ha, obd_s, hr8, if_pos hG, e2, obd_s]
    · unfold rq; rw [if_pos hG]; exact h2
  · obtain ⟨g, hg16, hge⟩ := hG
    have hne : ¬ xR S 8 a = -1 := by rw [hge]; exact nI_m1 hg16
    have w01 := h1.w0 ha hx1
    have fail : ∀ u : Int32, (u = 0 ∨ ahd s (nI v) (xR S 9 a) (xR S 8 a) = false) → ∃ M', f_X10_requested_80 n 120 (nI a) (nI v) s u0 (mI M 121 (150 + 44 * a)) (mI M 121 (151 + 44 * a)) u M1 = some M' ∧ RV M' tw t (sn t 2 a v s (uW S a (ins v s (xW S a)))) pb pt ∧ Fr PA M M' := by
      intro u hu
      obtain ⟨M2, e2, h2, f2⟩ := h1.rqf (v := v) (s := s) ha hv (by omega) hn
      refine ⟨M2, ?_, h2, Fr.tr f1.toFr f2⟩
      rw [f_X10_requested_80]
      by_cases q : u = 0
      · rw [if_pos q, e2]
      · rw [if_neg q, rs_f h1.1, h1.aog ha, obd_s, hr9, hr8, if_pos ((if10 _).mpr (hu.resolve_left q)), e2]
    have open1 : ∀ x, f_X10_requested_80 n 120 (nI a) (nI v) s u0 (mI M 121 (150 + 44 * a)) (mI M 121 (151 + 44 * a)) (if w = (v, s) then 1 else 0) M1 = x → f_X10_requested_14 n 120 (nI a) (nI v) s u0 M = x := by
      intro x hx
      rw [f_X10_requested_14, rs_f h.1, h.wn0 ha, obd_s, h.ws0 ha, obd_s, e1, obd_s, rs_f h1.1, h1.of0 ha, obd_s, hr8, if_neg hne, h1.wn0 ha, obd_s, w01.1]
      by_cases q1 : w.1 = v
      · rw [if_pos (by rw [q1]), h1.ws0 ha, obd_s, w01.2]
        by_cases q2 : w.2 = s
        · rw [if_pos q2]
          rw [if_pos (Prod.ext q1 q2)] at hx
          exact hx
        · rw [if_neg q2]
          rw [if_neg (fun q => q2 (congrArg Prod.snd q))] at hx
          exact hx
      · rw [if_neg (fun q => q1 ((nI_eq (by have := hW1 w (by rw [hx1]; simp); omega) (by omega)).mp q))]
        rw [if_neg (fun q => q1 (congrArg Prod.fst q))] at hx
        exact hx
    by_cases c1 : w = (v, s)
    · rw [if_pos c1] at open1
      by_cases c2 : ahd s (nI v) (xR S 9 a) (xR S 8 a) = true
      · have hcond : (ins v s (xW S a)).head? = some (v, s) ∧ ahd s (nI v) (xR S 9 a) (xR S 8 a) = true := ⟨by rw [hwr, c1]; rfl, c2⟩
        have erq : rq t a v s S = rq3 t a (rq2 t a (xW S a) (uW S a (ins v s (xW S a)))) := by unfold rq; rw [if_neg hne, if_pos hcond]
        have start : ∀ x, (if u0 = 0 then f_X10_requested_133 n 120 (nI a) M1 else obd (f_X10_isAheadOfGranted 120 (nI a) (mI M 121 (150 + 44 * a)) (mI M 121 (151 + 44 * a)) M1) fun r11 => if r11 = 0 then f_X10_requested_133 n 120 (nI a) M1 else obd (f_X10_send n 120 (2 : Int32) (nI a) (mI M 121 (150 + 44 * a)) (mI M 121 (151 + 44 * a)) M1) fun M15 => f_X10_requested_133 n 120 (nI a) M15) = x → f_X10_requested_80 n 120 (nI a) (nI v) s u0 (mI M 121 (150 + 44 * a)) (mI M 121 (151 + 44 * a)) 1 M1 = x := by
          intro x hx
          rw [f_X10_requested_80, if_neg ne10, rs_f h1.1, h1.aog ha, obd_s, hr9, hr8, if_neg (fun q => by rw [(if10 _).mp q] at c2; cases c2)]
          exact hx
        have hcase : ∃ M2, (f_X10_requested_80 n 120 (nI a) (nI v) s u0 (mI M 121 (150 + 44 * a)) (mI M 121 (151 + 44 * a)) 1 M1 = f_X10_requested_133 n 120 (nI a) M2) ∧ RV M2 tw t (rq2 t a (xW S a) (uW S a (ins v s (xW S a)))) pb pt ∧ Fr PA M1 M2 := by
          by_cases hc : xW S a = []
          · refine ⟨M1, start _ ?_, ?_, Fr.rf _ _⟩
            · rcases hu0 with z | z
              · rw [if_pos z.2]
              · exact absurd hc z.1
            · have e : rq2 t a (xW S a) (uW S a (ins v s (xW S a))) = uW S a (ins v s (xW S a)) := by
                generalize uW S a (ins v s (xW S a)) = S1
                rw [hc]; rfl
              rw [e]; exact h1
          · obtain ⟨y, ys, hy⟩ := List.exists_cons_of_ne_nil hc
            have hu1 : ¬ u0 = 0 := by
              rcases hu0 with z | z
              · exact absurd z.1 hc
              · rw [z.2]; exact ne10
            have y0 := h.w0 ha hy
            have e : rq2 t a (xW S a) (uW S a (ins v s (xW S a))) = if ahd y.2 (nI y.1) (xR S 9 a) (xR S 8 a) then sn t 2 a y.1 y.2 (uW S a (ins v s (xW S a))) else uW S a (ins v s (xW S a)) := by
              rw [← hr8, ← hr9]
              generalize uW S a (ins v s (xW S a)) = S1
              rw [hy]; rfl
            rw [e]
            by_cases c3 : ahd y.2 (nI y.1) (xR S 9 a) (xR S 8 a) = true
            · obtain ⟨M2, e2, h2, f2⟩ := h1.send (k := 2) (f := a) (g := y.1) (s := y.2) ha (hW y (by rw [hy]; simp)) (by decide) (by omega) hn
              refine ⟨M2, start _ ?_, ?_, f2⟩
              · rw [if_neg hu1, y0.1, y0.2, h1.aog ha, obd_s, hr9, hr8, if_neg (fun q => by rw [(if10 _).mp q] at c3; cases c3), show (2 : Int32) = nI 2 from rfl, e2, obd_s]
              · rw [if_pos c3]; exact h2
            · refine ⟨M1, start _ ?_, ?_, Fr.rf _ _⟩
              · rw [if_neg hu1, y0.1, y0.2, h1.aog ha, obd_s, hr9, hr8, if_pos ((if10 _).mpr (by simpa using c3))]
              · rw [if_neg c3]; exact h1
        obtain ⟨M2, e2, h2, f2⟩ := hcase
        have k8 : xR (rq2 t a (xW S a) (uW S a (ins v s (xW S a)))) 8 a = nI g := by
          unfold rq2
          split
          · exact hge
          · split
            · unfold sn
              rw [xR_uL, xR_uR, if_neg (by omega)]; exact hge
            · exact hge
        have kl : (fl (rq2 t a (xW S a) (uW S a (ins v s (xW S a))))).length < 9000 := by
          by_cases hc : xW S a = []
          · have e : rq2 t a (xW S a) (uW S a (ins v s (xW S a))) = uW S a (ins v s (xW S a)) := by
              generalize uW S a (ins v s (xW S a)) = S1
              rw [hc]; rfl
            rw [e, hfl]; omega
          · obtain ⟨y, ys, hy⟩ := List.exists_cons_of_ne_nil hc
            have hy16 := hW y (by rw [hy]; simp)
            have e : rq2 t a (xW S a) (uW S a (ins v s (xW S a))) = if ahd y.2 (nI y.1) (xR S 9 a) (xR S 8 a) then sn t 2 a y.1 y.2 (uW S a (ins v s (xW S a))) else uW S a (ins v s (xW S a)) := by
              rw [← hr8, ← hr9]
              generalize uW S a (ins v s (xW S a)) = S1
              rw [hy]; rfl
            rw [e]
            split
            · rw [fl_sn_len (by omega), hfl]; omega
            · rw [hfl]; omega
        obtain ⟨M3, e3, h3, f3⟩ := h2.trq3 ha kl ⟨g, hg16, k8⟩ hn
        exact ⟨M3, open1 _ (e2.trans e3), by rw [erq]; exact h3, Fr.tr f1.toFr (Fr.tr f2 f3)⟩
      · have hcond : ¬ ((ins v s (xW S a)).head? = some (v, s) ∧ ahd s (nI v) (xR S 9 a) (xR S 8 a) = true) := fun q => c2 q.2
        have erq : rq t a v s S = sn t 2 a v s (uW S a (ins v s (xW S a))) := by unfold rq; rw [if_neg hne, if_neg hcond]
        obtain ⟨M2, e2, h2, f2⟩ := fail 1 (Or.inr (by simpa using c2))
        exact ⟨M2, open1 _ e2, by rw [erq]; exact h2, f2⟩
    · rw [if_neg c1] at open1
      have hcond : ¬ ((ins v s (xW S a)).head? = some (v, s) ∧ ahd s (nI v) (xR S 9 a) (xR S 8 a) = true) := fun q => c1 (by rw [hwr] at q; simpa using q.1)
      have erq : rq t a v s S = sn t 2 a v s (uW S a (ins v s (xW S a))) := by unfold rq; rw [if_neg hne, if_neg hcond]
      obtain ⟨M2, e2, h2, f2⟩ := fail 0 (Or.inl rfl)
      exact ⟨M2, open1 _ e2, by rw [erq]; exact h2, f2⟩
theorem RV.trq {M : Mem} {tw : Bool} {t : Int32} {S : St} {pb pt : List Row4} (h : RV M tw t S pb pt) {a v : Nat} {s : Int32} (ha : a < 16) (hv : v < 16) (hlen : (fl S).length + 2 ≤ 9000) (hW : ∀ w, w ∈ xW S a → w.1 < 16) (hwl : (xW S a).length < 20) (hs : Srt v s (xW S a)) (hG : Gok S a) {n : Nat} (hn : 9100 ≤ n) : ∃ M', f_X10_requested n 120 (nI a) (nI v) s M = some M' ∧ RV M' tw t (rq t a v s S) pb pt ∧ Fr PA M M' := by
  by_cases c : xW S a = []
  · obtain ⟨M1, e1, h1, f1⟩ := h.rq14 (v := v) (s := s) ha hv hlen hW hwl hs hG hn (Or.inl ⟨c, rfl⟩)
    refine ⟨M1, ?_, h1, f1⟩
    rw [f_X10_requested, rs_f h.1, h.of3 ha, obd_s, c, if_pos (show nI ([] : List Wtr).length ≤ 0 from nI_le (Nat.le_refl 0) (by decide)), e1]
  · obtain ⟨M1, e1, h1, f1⟩ := h.rq14 (v := v) (s := s) ha hv hlen hW hwl hs hG hn (Or.inr ⟨c, rfl⟩)
    have hp : 0 < (xW S a).length := List.length_pos_iff.mpr c
    refine ⟨M1, ?_, h1, f1⟩
    rw [f_X10_requested, rs_f h.1, h.of3 ha, obd_s, if_neg (by rw [show (0 : Int32) = nI 0 from rfl]; exact nI_ge hp (by omega)), e1]
def yl (t : Int32) (a v : Nat) (s : Int32) (S : St) : St := if xR S 8 a = nI v ∧ xR S 9 a = s then gF t a (uW S a (ins v s (xW S a))) else S
theorem RV.ig {M : Mem} {tw : Bool} {t : Int32} {S : St} {pb pt : List Row4} (h : RV M tw t S pb pt) {a : Nat} (ha : a < 16) (v s : Int32) : f_X10_isGranted 120 (nI a) v s M = some (if xR S 8 a = v ∧ xR S 9 a = s then 1 else 0) := by
  rw [f_X10_isGranted, rs_f h.1, h.of0 ha, obd_s]
  by_cases q1 : xR S 8 a = v
  · rw [if_pos q1, h.of1 ha, obd_s]
    by_cases q2 : xR S 9 a = s
    · rw [if_pos q2, if_pos ⟨q1, q2⟩]
    · rw [if_neg q2, if_neg (fun q => q2 q.2)]
  · rw [if_neg q1, if_neg (fun q => q1 q.1)]
theorem ins_mem {v : Nat} {s : Int32} {l : List Wtr} {x : Wtr} (h : x ∈ ins v s l) : x = (v, s) ∨ x ∈ l := by
  unfold ins at h
  rcases List.mem_append.mp h with h | h
  · exact Or.inr (by rw [← spl_ap (ahw v s) l]; exact List.mem_append_left _ h)
  · rcases List.mem_cons.mp h with h | h
    · exact Or.inl h
    · exact Or.inr (by rw [← spl_ap (ahw v s) l]; exact List.mem_append_right _ h)
theorem RV.tyl {M : Mem} {tw : Bool} {t : Int32} {S : St} {pb pt : List Row4} (h : RV M tw t S pb pt) {a v : Nat} {s : Int32} (ha : a < 16) (hv : v < 16) (hlen : (fl S).length < 9000) (hW : ∀ w, w ∈ xW S a → w.1 < 16) (hwl : (xW S a).length < 20) (hs : Srt v s (xW S a)) {n : Nat} (hn : 9100 ≤ n) : ∃ M', f_X10_yielded n 120 (nI a) (nI v) s M = some M' ∧ RV M' tw t (yl t a v s S) pb pt ∧ Fr PA M M' := by
  unfold yl
  by_cases c : xR S 8 a = nI v ∧ xR S 9 a = s
  · rw [if_pos c]
    obtain ⟨M1, e1, h1, f1⟩ := h.come (v := v) (s := s) ha (p := (spl (ahw v s) (xW S a)).1) (q := (spl (ahw v s) (xW S a)).2) (spl_ap _ _).symm (spl_1 _ _) hs hwl (n := n) (by omega)
    obtain ⟨M2, e2, h2, f2⟩ := h1.tgF ha hlen (fun w hw => by
      rw [xW_uW, if_pos rfl] at hw
      rcases ins_mem (l := xW S a) hw with rfl | hw
      · exact hv
      · exact hW w hw) hn
    refine ⟨M2, ?_, h2, Fr.tr f1.toFr f2⟩
    rw [f_X10_yielded, rs_f h.1, h.ig ha, obd_s, if_pos c, if_neg ne10, e1, obd_s, rs_f h1.1, e2, obd_s]
  · rw [if_neg c]
    refine ⟨M, ?_, h, Fr.rf _ _⟩
    rw [f_X10_yielded, rs_f h.1, h.ig ha, obd_s, if_neg c, if_pos rfl]
/-- the first (v, s) goes -/
def gone (v : Nat) (s : Int32) : List Wtr → List Wtr
  | [] => []
  | w :: r => if w = (v, s) then r else w :: gone v s r
def rl (t : Int32) (a v : Nat) (s : Int32) (S : St) : St := if xR S 8 a = nI v ∧ xR S 9 a = s then gF t a S else uW S a (gone v s (xW S a))
theorem uW_id (S : St) (a : Nat) : uW S a (xW S a) = S := by
  unfold uW
  refine Prod.ext rfl (Prod.ext ?_ rfl)
  funext b
  show up1 S.2.1 a (S.2.1 a) b = S.2.1 b
  unfold up1
  by_cases e : b = a
  · rw [if_pos e, e]
  · rw [if_neg e]
theorem RV.rl19 {M : Mem} {tw : Bool} {t : Int32} {S : St} {pb pt : List Row4} (h : RV M tw t S pb pt) {a v : Nat} {s : Int32} (ha : a < 16) (hv : v < 16) (hW : ∀ w, w ∈ xW S a → w.1 < 16) : ∀ (q p : List Wtr) (n : Nat), xW S a = p ++ q → q.length + 60 ≤ n → ∃ M', f_X10_released_19 n 120 (nI a) (nI v) s (nI p.length) M = some M' ∧ RV M' tw t (uW S a (p ++ gone v s q)) pb pt ∧ FrW a M M' := by
  intro q
  induction q with
  | nil =>
    intro p n e hn
    obtain ⟨n, rfl⟩ : ∃ m, n = m + 1 := ⟨n - 1, by omega⟩
    have hl := h.wl ha
    rw [List.append_nil] at e
    refine ⟨M, ?_, ?_, FrW.rf a M⟩
    · rw [f_X10_released_19, rs_f h.1, h.of3 ha, obd_s, e, if_pos (nI_le (Nat.le_refl _) (by rw [e] at hl; omega))]
    · rw [show gone v s [] = [] from rfl, List.append_nil, ← e, uW_id]; exact h
  | cons w r ih =>
    intro p n e hn
    simp only [List.length_cons] at hn
    obtain ⟨n, rfl⟩ : ∃ m, n = m + 1 := ⟨n - 1, by omega⟩
    have hl := h.wl ha
    have hl2 : (xW S a).length = p.length + r.length + 1 := by rw [e]; simp; omega
    have g := (h.2.2.2.1 a ha).2.2.1 p.length w (by rw [e, List.getElem?_append_right (Nat.le_refl _)]; simp)
    have hi := ih (p ++ [w]) n (by rw [e]; simp) (by omega)
    rw [show (p ++ [w]).length = p.length + 1 by simp] at hi
    have hw16 := hW w (by rw [e]; simp)
    have start : ∀ x, (if nI w.1 = nI v then (if w.2 = s then obd (f_X10_goWaiting n 120 (nI a) (nI p.length) M) fun M17 => some M17 else f_X10_released_19 n 120 (nI a) (nI v) s (nI (p.length + 1)) M) else f_X10_released_19 n 120 (nI a) (nI v) s (nI (p.length + 1)) M) = x → f_X10_released_19 (n + 1) 120 (nI a) (nI v) s (nI p.length) M = x := by
      intro x hx
      rw [f_X10_released_19, rs_f h.1, h.of3 ha, obd_s, hl2, if_neg (nI_ge (by omega) (by omega)), h.wn ha (by omega), obd_s, g.1, h.ws ha (by omega), obd_s, g.2]
      simp only [bnd_e, nI_1]
      exact hx
    by_cases c : w = (v, s)
    · obtain ⟨M2, e2, h2, f2⟩ := h.go (n := n) ha e (by omega)
      refine ⟨M2, start _ ?_, ?_, f2⟩
      · rw [c, if_pos rfl, if_pos rfl, e2, obd_s]
      · rw [show gone v s (w :: r) = r by unfold gone; rw [if_pos c]]
        exact h2
    · obtain ⟨M2, e2, h2, f2⟩ := hi
      refine ⟨M2, start _ ?_, ?_, f2⟩
      · by_cases c1 : nI w.1 = nI v
        · rw [if_pos c1, if_neg (fun c2 => c (Prod.ext ((nI_eq (by omega) (by omega)).mp c1) c2)), e2]
        · rw [if_neg c1, e2]
      · rw [show gone v s (w :: r) = w :: gone v s r by rw [gone, if_neg c]]
        simpa using h2
theorem RV.trl {M : Mem} {tw : Bool} {t : Int32} {S : St} {pb pt : List Row4} (h : RV M tw t S pb pt) {a v : Nat} {s : Int32} (ha : a < 16) (hv : v < 16) (hlen : (fl S).length < 9000) (hW : ∀ w, w ∈ xW S a → w.1 < 16) {n : Nat} (hn : 9100 ≤ n) : ∃ M', f_X10_released n 120 (nI a) (nI v) s M = some M' ∧ RV M' tw t (rl t a v s S) pb pt ∧ Fr PA M M' := by
  unfold rl
  by_cases c : xR S 8 a = nI v ∧ xR S 9 a = s
  · rw [if_pos c]
    obtain ⟨M2, e2, h2, f2⟩ := h.tgF ha hlen hW hn
    refine ⟨M2, ?_, h2, f2⟩
    rw [f_X10_released, rs_f h.1, h.ig ha, obd_s, if_pos c, if_neg ne10, e2, obd_s]
  · rw [if_neg c]
    have hl := h.wl ha
    obtain ⟨M2, e2, h2, f2⟩ := h.rl19 (v := v) (s := s) ha hv hW (xW S a) [] n (by simp) (by omega)
    refine ⟨M2, ?_, by simpa using h2, f2.toFr⟩
    rw [f_X10_released, rs_f h.1, h.ig ha, obd_s, if_neg c, if_pos rfl, show (0 : Int32) = nI ([] : List Wtr).length from rfl, e2]
/-! ===== how many bits ===== -/
def pcN (m : Nat) : Nat := ((List.range 32).filter fun i => m.testBit i).length
theorem pcN_half {m : Nat} (h : m < 2 ^ 31) : pcN m = m % 2 + pcN (m / 2) := by
  have e : List.range 32 = 0 :: (List.range 31).map Nat.succ := List.range_succ_eq_map
  have e2 : List.range 32 = List.range 31 ++ [31] := List.range_succ
  have hb : (m / 2).testBit 31 = false := Nat.testBit_lt_two_pow (by omega)
  have h1 : pcN (m / 2) = ((List.range 31).filter fun i => (m / 2).testBit i).length := by
    unfold pcN
    rw [e2, List.filter_append, List.length_append]
    simp [hb]
  rw [h1]
  unfold pcN
  rw [e]
  have h3 : ((List.range 31).map Nat.succ).filter (fun i => m.testBit i) = ((List.range 31).filter fun i => (m / 2).testBit i).map Nat.succ := by
    rw [List.filter_map]
    congr 1
  rw [List.filter_cons, h3]
  by_cases h2 : m % 2 = 1
  · have : m.testBit 0 = true := by rw [Nat.testBit_zero]; simp [h2]
    rw [if_pos this, List.length_cons, List.length_map, h2]; omega
  · have : m.testBit 0 = false := by rw [Nat.testBit_zero]; simp [h2]
    rw [if_neg (by rw [this]; simp), List.length_map]; omega
theorem pcN_0 : pcN 0 = 0 := by decide
theorem and_pred (m : Nat) (h : 0 < m) : (m &&& (m - 1)) % 2 = 0 ∧ (m &&& (m - 1)) / 2 = if m % 2 = 1 then m / 2 else (m / 2) &&& (m / 2 - 1) := by
  constructor
  · have := Nat.testBit_and m (m - 1) 0
    simp only [Nat.testBit_zero] at this
    have h2 : ¬ (m % 2 = 1 ∧ (m - 1) % 2 = 1) := by omega
    have h3 : (m &&& (m - 1)) % 2 < 2 := Nat.mod_lt _ (by decide)
    by_cases q : (m &&& (m - 1)) % 2 = 1
    · rw [q] at this
      simp at this
      exact absurd this h2
    · omega
  · by_cases q : m % 2 = 1
    · rw [if_pos q]
      apply Nat.eq_of_testBit_eq
      intro i
      rw [← Nat.testBit_succ, Nat.testBit_and, Nat.testBit_succ, Nat.testBit_succ, show (m - 1) / 2 = m / 2 by omega, Bool.and_self]
    · rw [if_neg q]
      apply Nat.eq_of_testBit_eq
      intro i
      rw [← Nat.testBit_succ, Nat.testBit_and, Nat.testBit_succ, Nat.testBit_succ, Nat.testBit_and, show (m - 1) / 2 = m / 2 - 1 by omega]
theorem pcN_pred : ∀ (k m : Nat), m < 2 ^ k → k ≤ 31 → 0 < m → pcN (m &&& (m - 1)) + 1 = pcN m := by
  intro k
  induction k with
  | zero => intro m h _ h0; omega
  | succ k ih =>
    intro m h hk h0
    have hm : m < 2 ^ 31 := Nat.lt_of_lt_of_le h (Nat.pow_le_pow_right (by decide) hk)
    have ha : m &&& (m - 1) ≤ m := Nat.and_le_left
    obtain ⟨a1, a2⟩ := and_pred m h0
    rw [pcN_half hm, pcN_half (m := m &&& (m - 1)) (by omega), a1, a2]
    by_cases q : m % 2 = 1
    · rw [if_pos q, q]; omega
    · rw [if_neg q]
      have := ih (m / 2) (by rw [Nat.pow_succ] at h; omega) (by omega) (by omega)
      omega
theorem many_l (M : Mem) : ∀ (d m c n : Nat), pcN m = d → m < 2 ^ 31 → d + 1 ≤ n → f_X10_many_4 M n (nI c) (nI m) = some (nI (c + d)) := by
  intro d
  induction d with
  | zero =>
    intro m c n h hm hn
    obtain ⟨n, rfl⟩ : ∃ m, n = m + 1 := ⟨n - 1, by omega⟩
    have : m = 0 := by
      rcases Nat.eq_zero_or_pos m with q | q
      · exact q
      · have := pcN_pred 31 m hm (Nat.le_refl _) q
        omega
    subst this
    rw [f_X10_many_4, if_pos (by rfl)]
    rfl
  | succ d ih =>
    intro m c n h hm hn
    obtain ⟨n, rfl⟩ : ∃ m, n = m + 1 := ⟨n - 1, by omega⟩
    have h0 : 0 < m := by
      rcases Nat.eq_zero_or_pos m with q | q
      · rw [q, pcN_0] at h; omega
      · exact q
    have := pcN_pred 31 m hm (Nat.le_refl _) h0
    have ha : m &&& (m - 1) ≤ m := Nat.and_le_left
    rw [f_X10_many_4, if_neg (nI_ne0 h0 (by omega)), bnd_e, nI_1, show nI m - (1 : Int32) = nI (m - 1) by rw [show m = (m - 1) + 1 by omega, nI_pred]; rfl, nx_and, bnd_e, ih _ _ _ (by omega) (by omega) (by omega)]
    congr 2
    omega
def pc (x : Int32) : Nat := ((List.range 32).filter fun i => bt x i).length
theorem pc_N (m : Nat) : pc (nI m) = pcN m := by
  unfold pc pcN
  congr 1
  apply List.filter_congr
  intro i hi
  rw [bt_nI m (List.mem_range.mp hi)]
theorem pc_le (x : Int32) : pc x ≤ 32 := by
  unfold pc
  have := List.length_filter_le (fun i => bt x i) (List.range 32)
  rw [List.length_range] at this
  exact this
theorem nI_tn (x : Int32) : x = nI x.toBitVec.toNat := by
  apply Int32.toBitVec_inj.mp
  show _ = BitVec.ofNat 32 _
  rw [BitVec.ofNat_toNat, BitVec.setWidth_eq]
theorem bt_hi {x : Int32} {k : Nat} (hk : k ≤ 32) (h : ∀ i, k ≤ i → i < 32 → bt x i = false) : x.toBitVec.toNat < 2 ^ k := by
  apply Nat.lt_pow_two_of_testBit
  intro i hi
  by_cases q : i < 32
  · have := h i hi q
    unfold bt at this
    rw [BitVec.getLsbD] at this
    exact this
  · exact Nat.testBit_lt_two_pow (Nat.lt_of_lt_of_le x.toBitVec.isLt (Nat.pow_le_pow_right (by decide) (by omega)))
theorem f_many {x : Int32} (h : ∀ i, 31 ≤ i → i < 32 → bt x i = false) {n : Nat} (hn : 40 ≤ n) (M : Mem) : f_X10_many n x M = some (nI (pc x)) := by
  have hx := bt_hi (by decide) h
  rw [nI_tn x, pc_N, f_X10_many]
  have hp : pcN x.toBitVec.toNat ≤ 32 := by rw [← pc_N, ← nI_tn]; exact pc_le x
  have := many_l M (pcN x.toBitVec.toNat) x.toBitVec.toNat 0 n rfl hx (by omega)
  rw [Nat.zero_add] at this
  exact this
/-! ===== the masks of the reference ===== -/
theorem bt_or1 (x : Int32) {v i : Nat} (hv : v < 32) (hi : i < 32) : bt (x ||| ((1 : Int32) <<< (nI v &&& 31))) i = (bt x i || decide (i = v)) := bt_on x hv hi
theorem or_0 (x : Int32) : x ||| (0 : Int32) = x := Int32.or_zero
theorem cl0 : ((0 : Int32)).toNatClampNeg = 0 := by decide
theorem rs_c0 {α : Type} {M : Mem} (h : RS M) (x : Option α) : chk (inB (0 : Int32) (mLn M 121)) x = x := rs_c h (k := 0) (by decide) x
theorem RV.N {M : Mem} {tw : Bool} {t : Int32} {S : St} {pb pt : List Row4} (h : RV M tw t S pb pt) {N : Nat} (hN : xR S 20 0 = nI N) : mI M 121 0 = nI N := (h.rg (k := 20) (i := 0) (by unfold vk; omega)).trans hN
theorem ins_l {M : Mem} {tw : Bool} {t : Int32} {S : St} {pb pt : List Row4} (h : RV M tw t S pb pt) {N : Nat} (hN : xR S 20 0 = nI N) (h16 : N ≤ 16) (q : Int32) (fn : Mem → Nat → Nat → Int32 → Int32 → Option Int32) (hf : fn = f_X10_insides_4 ∧ q = 2 ∨ fn = f_X10_askings_4 ∧ q = 1) : ∀ (d i n : Nat) (x : Int32), i + d = N → d + 1 ≤ n → (∀ w, w < 32 → bt x w = decide (w < i ∧ xR S 0 w = q)) → ∃ y, fn M n 120 x (nI i) = some y ∧ ∀ w, w < 32 → bt y w = decide (w < N ∧ xR S 0 w = q) := by
  intro d
  induction d with
  | zero =>
    intro i n x hi hn hx
    obtain ⟨n, rfl⟩ : ∃ m, n = m + 1 := ⟨n - 1, by omega⟩
    have hi2 : i = N := by omega
    subst hi2
    refine ⟨x, ?_, hx⟩
    rcases hf with ⟨rfl, rfl⟩ | ⟨rfl, rfl⟩
    · rw [f_X10_insides_4, rs_f h.1, rs_0 h.1, bnd_e, rs_fa h.1, rs_c0 h.1, cl0, h.N hN, if_pos (nI_le (Nat.le_refl _) (by omega))]
    · rw [f_X10_askings_4, rs_f h.1, rs_0 h.1, bnd_e, rs_fa h.1, rs_c0 h.1, cl0, h.N hN, if_pos (nI_le (Nat.le_refl _) (by omega))]
  | succ d ih =>
    intro i n x hi hn hx
    obtain ⟨n, rfl⟩ : ∃ m, n = m + 1 := ⟨n - 1, by omega⟩
    have step : ∀ y, fn M n 120 (if xR S 0 i = q then x ||| ((1 : Int32) <<< (nI i &&& 31)) else x ||| 0) (nI (i + 1)) = y → fn M (n + 1) 120 x (nI i) = y := by
      intro y hy
      rcases hf with ⟨rfl, rfl⟩ | ⟨rfl, rfl⟩
      · rw [f_X10_insides_4, rs_f h.1, rs_0 h.1, bnd_e, rs_fa h.1, rs_c0 h.1, cl0, h.N hN, if_neg (nI_ge (by omega) (by omega)), h.get0 (by omega), obd_s]
        simp only [bnd_e, nI_1]
        by_cases c : xR S 0 i = 2
        · rw [if_pos c] at hy ⊢; exact hy
        · rw [if_neg c] at hy ⊢; exact hy
      · rw [f_X10_askings_4, rs_f h.1, rs_0 h.1, bnd_e, rs_fa h.1, rs_c0 h.1, cl0, h.N hN, if_neg (nI_ge (by omega) (by omega)), h.get0 (by omega), obd_s]
        simp only [bnd_e, nI_1]
        by_cases c : xR S 0 i = 1
        · rw [if_pos c] at hy ⊢; exact hy
        · rw [if_neg c] at hy ⊢; exact hy
    obtain ⟨y, h1, h2⟩ := ih (i + 1) n (if xR S 0 i = q then x ||| ((1 : Int32) <<< (nI i &&& 31)) else x ||| 0) (by omega) (by omega) (fun w hw => by
      by_cases c : xR S 0 i = q
      · rw [if_pos c, bt_or1 _ (by omega) hw, hx w hw]
        by_cases c2 : w = i
        · subst c2; simp [c]
        · have : (w < i + 1) = (w < i) := by apply propext; omega
          simp [c2, this]
      · rw [if_neg c, or_0, hx w hw]
        by_cases c2 : w = i
        · subst c2; simp [c]
        · have : (w < i + 1) = (w < i) := by apply propext; omega
          simp [this])
    exact ⟨y, step _ h1, h2⟩
theorem RV.insd {M : Mem} {tw : Bool} {t : Int32} {S : St} {pb pt : List Row4} (h : RV M tw t S pb pt) {N : Nat} (hN : xR S 20 0 = nI N) (h16 : N ≤ 16) {n : Nat} (hn : 40 ≤ n) : ∃ y, f_X10_insides n 120 M = some y ∧ ∀ w, w < 32 → bt y w = decide (w < N ∧ xR S 0 w = 2) := by
  rw [f_X10_insides]
  exact ins_l h hN h16 2 f_X10_insides_4 (Or.inl ⟨rfl, rfl⟩) N 0 n 0 (by omega) (by omega) (fun w hw => by rw [b_0]; simp)
theorem RV.askg {M : Mem} {tw : Bool} {t : Int32} {S : St} {pb pt : List Row4} (h : RV M tw t S pb pt) {N : Nat} (hN : xR S 20 0 = nI N) (h16 : N ≤ 16) {n : Nat} (hn : 40 ≤ n) : ∃ y, f_X10_askings n 120 M = some y ∧ ∀ w, w < 32 → bt y w = decide (w < N ∧ xR S 0 w = 1) := by
  rw [f_X10_askings]
  exact ins_l h hN h16 1 f_X10_askings_4 (Or.inr ⟨rfl, rfl⟩) N 0 n 0 (by omega) (by omega) (fun w hw => by rw [b_0]; simp)
/-- how many are inside -/
def pcI (N : Nat) (S : St) : Nat := ((List.range 32).filter fun w => decide (w < N ∧ xR S 0 w = 2)).length
theorem pc_mask {N : Nat} {S : St} {y : Int32} (h : ∀ w, w < 32 → bt y w = decide (w < N ∧ xR S 0 w = 2)) : pc y = pcI N S := by
  unfold pc pcI
  congr 1
  apply List.filter_congr
  intro i hi
  exact h i (List.mem_range.mp hi)
/-! ===== the book and the trace of the reference ===== -/
theorem lastn_push {α : Type} (n : Nat) (hn : 0 < n) (l : List α) (x : α) : lastn n (l ++ [x]) = (if (lastn n l).length = n then (lastn n l).drop 1 else lastn n l) ++ [x] := by
  unfold lastn
  rw [List.length_drop, List.length_append, List.length_singleton]
  by_cases h : n ≤ l.length
  · rw [if_pos (by omega), List.drop_drop, List.drop_append_of_le_length (by omega)]
    congr 2
    omega
  · rw [if_neg (by omega), show l.length - n = 0 by omega, show l.length + 1 - n = 0 by omega]
    rfl
/-- the cells B .. B + 4 n - 1 and the count A alone have changed -/
def FrB (A B n : Nat) (M M' : Mem) : Prop := M'.1 = M.1 ∧ (∀ o, o ≠ 121 → ∀ k, mI M' o k = mI M o k) ∧ (∀ o k, mL M' o k = mL M o k) ∧ (∀ b, b ≠ A → (b < B ∨ B + 4 * n ≤ b) → mI M' 121 b = mI M 121 b)
theorem FrB.rf (A B n : Nat) (M : Mem) : FrB A B n M M := ⟨rfl, fun _ _ _ => rfl, fun _ _ => rfl, fun _ _ _ => rfl⟩
theorem FrB.tr {A B n : Nat} {M M' M'' : Mem} (h : FrB A B n M M') (h' : FrB A B n M' M'') : FrB A B n M M'' :=
  ⟨h'.1.trans h.1, fun o q k => (h'.2.1 o q k).trans (h.2.1 o q k), fun o k => (h'.2.2.1 o k).trans (h.2.2.1 o k), fun b q1 q2 => (h'.2.2.2 b q1 q2).trans (h.2.2.2 b q1 q2)⟩
theorem FrB.s {A B n b : Nat} {M : Mem} {x : Int32} (h : b = A ∨ (B ≤ b ∧ b < B + 4 * n)) : FrB A B n M (sI M 121 b x) :=
  ⟨rfl, fun o q k => mI_o _ _ _ _ _ q, fun _ _ => rfl, fun c h1 h2 => mI_n _ _ _ _ (by omega)⟩
theorem FrB.toFr {A B n : Nat} {M M' : Mem} (h : FrB A B n M M') : Fr PA M M' :=
  ⟨h.1, fun o q k => h.2.1 o (fun e => q (e ▸ ⟨by decide, by decide⟩)) k, fun o k => h.2.2.1 o k⟩
set_option maxHeartbeats 1000000 in
theorem shift_E {v1 v2 v3 : Int32} (v : Int32) : ∀ (d : Nat) (M : Mem) (n : Nat), RS M → d ≤ 116 → d + 1 ≤ n → ∃ M1 n', f_X10_enter_237 n 120 v v2 v3 (nI (10029 - d)) M = f_X10_enter_237 (n' + 1) 120 v v2 v3 (nI 10029) M1 ∧ FrB 9857 9913 30 M M1 ∧ mI M1 121 9857 = mI M 121 9857 ∧ (∀ b, b < 10029 → 10029 - d ≤ b → mI M1 121 b = mI M 121 (b + 4)) ∧ (∀ b, b < 10029 - d ∨ 10029 ≤ b → mI M1 121 b = mI M 121 b) := by
  intro d
  induction d with
  | zero =>
    intro M n hS hd hn
    obtain ⟨n, rfl⟩ : ∃ m, n = m + 1 := ⟨n - 1, by omega⟩
    exact ⟨M, n, rfl, FrB.rf _ _ _ _, rfl, fun b h1 h2 => by omega, fun _ _ => rfl⟩
  | succ d ih =>
    intro M n hS hd hn
    obtain ⟨n, rfl⟩ : ∃ m, n = m + 1 := ⟨n - 1, by omega⟩
    generalize hMa : sI M 121 (10029 - (d + 1)) (mI M 121 (10029 - (d + 1) + 4)) = Ma
    have hSa : RS Ma := by subst hMa; exact hS.e rfl
    obtain ⟨M1, n', i1, i2, i3, i4, i5⟩ := ih Ma n hSa (by omega) (by omega)
    refine ⟨M1, n', ?_, FrB.tr ?_ i2, ?_, fun b h1 h2 => ?_, fun b h1 => ?_⟩
    · rw [← i1, f_X10_enter_237, if_neg (by rw [show (10029 : Int32) = nI 10029 from rfl]; exact nI_ge (by omega) (by omega)), rs_f hS, rs_0 hS, bnd_e, rs_fa hS, bnd_e, rs_fa hS, show nI (10029 - (d + 1)) + (4 : Int32) = nI (10029 - (d + 1) + 4) by rw [show (4 : Int32) = nI 4 from rfl, nI_add], rs_c hS (by omega), rs_c hS (by omega), bnd_e, cl_n (by omega), cl_n (by omega), hMa, nI_1, bnd_e]
      congr 2
      omega
    · rw [← hMa]; exact FrB.s (Or.inr (by omega))
    · rw [i3, ← hMa, mI_n _ _ _ _ (by omega)]
    · by_cases c : b = 10029 - (d + 1)
      · rw [i5 b (by omega), ← hMa, c, mI_s]
      · rw [i4 b h1 (by omega), ← hMa, mI_n _ _ _ _ (by omega)]
    · rw [i5 b (by omega), ← hMa, mI_n _ _ _ _ (by omega)]
set_option maxHeartbeats 1000000 in
theorem shift_T {v1 v2 v3 v4 : Int32} : ∀ (d : Nat) (M : Mem) (n : Nat), RS M → d ≤ 156 → d + 1 ≤ n → ∃ M1 n', n ≤ n' + 1 + d ∧ f_X10_writeTrace_18 n 120 v1 v2 v3 v4 (nI (10189 - d)) M = f_X10_writeTrace_18 (n' + 1) 120 v1 v2 v3 v4 (nI 10189) M1 ∧ FrB 9858 10033 40 M M1 ∧ mI M1 121 9858 = mI M 121 9858 ∧ (∀ b, b < 10189 → 10189 - d ≤ b → mI M1 121 b = mI M 121 (b + 4)) ∧ (∀ b, b < 10189 - d ∨ 10189 ≤ b → mI M1 121 b = mI M 121 b) := by
  intro d
  induction d with
  | zero =>
    intro M n hS hd hn
    obtain ⟨n, rfl⟩ : ∃ m, n = m + 1 := ⟨n - 1, by omega⟩
    exact ⟨M, n, by omega, rfl, FrB.rf _ _ _ _, rfl, fun b h1 h2 => by omega, fun _ _ => rfl⟩
  | succ d ih =>
    intro M n hS hd hn
    obtain ⟨n, rfl⟩ : ∃ m, n = m + 1 := ⟨n - 1, by omega⟩
    generalize hMa : sI M 121 (10189 - (d + 1)) (mI M 121 (10189 - (d + 1) + 4)) = Ma
    have hSa : RS Ma := by subst hMa; exact hS.e rfl
    obtain ⟨M1, n', i0, i1, i2, i3, i4, i5⟩ := ih Ma n hSa (by omega) (by omega)
    refine ⟨M1, n', by omega, ?_, FrB.tr ?_ i2, ?_, fun b h1 h2 => ?_, fun b h1 => ?_⟩
    · rw [← i1, f_X10_writeTrace_18, if_neg (by rw [show (10189 : Int32) = nI 10189 from rfl]; exact nI_ge (by omega) (by omega)), rs_f hS, rs_0 hS, bnd_e, rs_fa hS, bnd_e, rs_fa hS, show nI (10189 - (d + 1)) + (4 : Int32) = nI (10189 - (d + 1) + 4) by rw [show (4 : Int32) = nI 4 from rfl, nI_add], rs_c hS (by omega), rs_c hS (by omega), bnd_e, cl_n (by omega), cl_n (by omega), hMa, nI_1, bnd_e]
      congr 2
      omega
    · rw [← hMa]; exact FrB.s (Or.inr (by omega))
    · rw [i3, ← hMa, mI_n _ _ _ _ (by omega)]
    · by_cases c : b = 10189 - (d + 1)
      · rw [i5 b (by omega), ← hMa, c, mI_s]
      · rw [i4 b h1 (by omega), ← hMa, mI_n _ _ _ _ (by omega)]
    · rw [i5 b (by omega), ← hMa, mI_n _ _ _ _ (by omega)]
/-- one row put behind m others -/
def put4 (M : Mem) (B m : Nat) (q : Row4) : Mem := sI (sI (sI (sI M 121 (B + 4 * m) q.1) 121 (B + 4 * m + 1) q.2.1) 121 (B + 4 * m + 2) q.2.2.1) 121 (B + 4 * m + 3) q.2.2.2
theorem put4_o (M : Mem) (B m : Nat) (q : Row4) {b : Nat} (h : b < B + 4 * m ∨ B + 4 * m + 3 < b) : mI (put4 M B m q) 121 b = mI M 121 b := by
  unfold put4
  rw [mI_n _ _ _ _ (by omega), mI_n _ _ _ _ (by omega), mI_n _ _ _ _ (by omega), mI_n _ _ _ _ (by omega)]
theorem put4_s (M : Mem) (B m : Nat) (q : Row4) : mI (put4 M B m q) 121 (B + 4 * m) = q.1 ∧ mI (put4 M B m q) 121 (B + 4 * m + 1) = q.2.1 ∧ mI (put4 M B m q) 121 (B + 4 * m + 2) = q.2.2.1 ∧ mI (put4 M B m q) 121 (B + 4 * m + 3) = q.2.2.2 := by
  unfold put4
  refine ⟨?_, ?_, ?_, ?_⟩
  · rw [mI_n _ _ _ _ (by omega), mI_n _ _ _ _ (by omega), mI_n _ _ _ _ (by omega), mI_s]
  · rw [mI_n _ _ _ _ (by omega), mI_n _ _ _ _ (by omega), mI_s]
  · rw [mI_n _ _ _ _ (by omega), mI_s]
  · rw [mI_s]
theorem put4_F {A B n m : Nat} (M : Mem) (q : Row4) (h : m < n) : FrB A B n M (put4 M B m q) := by
  unfold put4
  exact FrB.tr (FrB.s (Or.inr (by omega))) (FrB.tr (FrB.s (Or.inr (by omega))) (FrB.tr (FrB.s (Or.inr (by omega))) (FrB.s (Or.inr (by omega)))))
theorem Rows.put {M : Mem} {B : Nat} {xs : List Row4} (h : Rows M B xs) (q : Row4) : Rows (put4 M B xs.length q) B (xs ++ [q]) := by
  intro i z hi
  by_cases c : i < xs.length
  · rw [List.getElem?_append_left c] at hi
    rw [put4_o _ _ _ _ (by omega), put4_o _ _ _ _ (by omega), put4_o _ _ _ _ (by omega), put4_o _ _ _ _ (by omega)]
    exact h i z hi
  · rw [List.getElem?_append_right (by omega)] at hi
    have hl := (List.getElem?_eq_some_iff.mp hi).1
    rw [List.length_singleton] at hl
    have e : i = xs.length := by omega
    subst e
    rw [Nat.sub_self] at hi
    simp at hi
    rw [← hi]
    exact put4_s _ _ _ _
theorem Rows.cg {M M' : Mem} {B : Nat} {xs : List Row4} (h : Rows M B xs) (e : ∀ b, B ≤ b → b < B + 4 * xs.length → mI M' 121 b = mI M 121 b) : Rows M' B xs := by
  intro i q hi
  have hl := (List.getElem?_eq_some_iff.mp hi).1
  rw [e _ (by omega) (by omega), e _ (by omega) (by omega), e _ (by omega) (by omega), e _ (by omega) (by omega)]
  exact h i q hi
theorem Rows.sh {M M' : Mem} {B : Nat} {xs : List Row4} (h : Rows M B xs) (e : ∀ b, B ≤ b → b + 4 < B + 4 * xs.length → mI M' 121 b = mI M 121 (b + 4)) : Rows M' B (xs.drop 1) := by
  intro i q hi
  rw [List.getElem?_drop] at hi
  have hl := (List.getElem?_eq_some_iff.mp hi).1
  rw [e _ (by omega) (by omega), e _ (by omega) (by omega), e _ (by omega) (by omega), e _ (by omega) (by omega)]
  have := h (1 + i) q hi
  rw [show B + 4 * i + 4 = B + 4 * (1 + i) by omega, show B + 4 * i + 1 + 4 = B + 4 * (1 + i) + 1 by omega, show B + 4 * i + 2 + 4 = B + 4 * (1 + i) + 2 by omega, show B + 4 * i + 3 + 4 = B + 4 * (1 + i) + 3 by omega]
  exact this
/-- RV behind a change of the book -/
theorem RV.bookE {M M' : Mem} {tw : Bool} {t : Int32} {S : St} {pb pt : List Row4} (h : RV M tw t S pb pt) (x : Row4) (f : FrB 9857 9913 30 M M') (hb : RVb M' 9857 9913 30 (pb ++ (xE S ++ [x]))) : RV M' tw t (uE S x) pb pt := by
  obtain ⟨hS, ht, hA, hw, hl, hb1, hb2⟩ := h
  refine ⟨hS.e f.1, (f.2.1 120 (by decide) 3).trans ht, fun k i hv => ?_, hw.cg (fun b _ _ => f.2.2.2 b (by omega) (by omega)) rfl, ⟨?_, hl.2.1, hl.2.2.cg fun j _ hj => ⟨?_, ?_⟩⟩, hb, hb2.cg (f.2.2.2 _ (by omega) (by omega)) (fun b _ _ => f.2.2.2 _ (by omega) (by omega))⟩
  · have := ad_lim hv
    rw [f.2.2.2 _ (by omega) (by omega)]; exact hA k i hv
  · rw [f.2.2.2 _ (by omega) (by omega)]; exact hl.1
  · have := hl.2.1
    exact f.2.2.2 _ (by omega) (by omega)
  · exact f.2.1 123 (by decide) _
theorem RV.bookT {M M' : Mem} {tw : Bool} {t : Int32} {S : St} {pb pt : List Row4} (h : RV M tw t S pb pt) (x : Row4) (f : FrB 9858 10033 40 M M') (hb : RVb M' 9858 10033 40 (pt ++ (xT S ++ [x]))) : RV M' tw t (uT S x) pb pt := by
  obtain ⟨hS, ht, hA, hw, hl, hb1, hb2⟩ := h
  refine ⟨hS.e f.1, (f.2.1 120 (by decide) 3).trans ht, fun k i hv => ?_, hw.cg (fun b _ _ => f.2.2.2 b (by omega) (by omega)) rfl, ⟨?_, hl.2.1, hl.2.2.cg fun j _ hj => ⟨?_, ?_⟩⟩, hb1.cg (f.2.2.2 _ (by omega) (by omega)) (fun b _ _ => f.2.2.2 _ (by omega) (by omega)), hb⟩
  · have := ad_lim hv
    rw [f.2.2.2 _ (by omega) (by omega)]; exact hA k i hv
  · rw [f.2.2.2 _ (by omega) (by omega)]; exact hl.1
  · have := hl.2.1
    exact f.2.2.2 _ (by omega) (by omega)
  · exact f.2.1 123 (by decide) _
theorem RVb.push {M Ma Mb : Mem} {A B n : Nat} (hn : 0 < n) (hA : A < B ∨ B + 4 * n ≤ A) {xs : List Row4} (h : RVb M A B n xs) (q : Row4) (m : Nat) (hm : m = if (lastn n xs).length = n then n - 1 else (lastn n xs).length) (ha : Rows Ma B (if (lastn n xs).length = n then (lastn n xs).drop 1 else lastn n xs)) (e : Mb = sI (put4 Ma B m q) 121 A (nI (m + 1))) : RVb Mb A B n (xs ++ [q]) := by
  subst e
  have hle := lastn_le n xs
  have hlen : (if (lastn n xs).length = n then (lastn n xs).drop 1 else lastn n xs).length = m := by
    rw [hm]
    by_cases c : (lastn n xs).length = n
    · rw [if_pos c, if_pos c, List.length_drop, c]
    · rw [if_neg c, if_neg c]
  have hmn : m < n := by
    rw [hm]
    by_cases c : (lastn n xs).length = n
    · rw [if_pos c]; omega
    · rw [if_neg c]; omega
  refine ⟨?_, ?_⟩
  · rw [mI_s, lastn_push n hn, List.length_append, hlen, List.length_singleton]
  · rw [lastn_push n hn]
    have := ha.put q
    rw [hlen] at this
    refine this.cg fun b h1 h2 => mI_n _ _ _ _ ?_
    rw [List.length_append, hlen, List.length_singleton] at h2
    omega
theorem c4i (B m : Nat) : nI B + ((4 : Int32) * nI m) = nI (B + 4 * m) := by rw [show (4 : Int32) = nI 4 from rfl, pk_mul, nI_add]
set_option maxHeartbeats 1000000 in
theorem RV.w279 {M : Mem} (hS : RS M) {m v : Nat} (hv : v < 16) (hm : m < 30) (hA : mI M 121 9857 = nI m) (x y : Int32) (n : Nat) : f_X10_enter_279 n 120 (nI v) x y M = some (sI (put4 M 9913 m (nI v, mI M 121 (18 + 8 * v + 2), x, y)) 121 9857 (nI (m + 1))) := by
  generalize hMa : sI M 121 (9913 + 4 * m) (nI v) = Ma
  generalize hMb : sI Ma 121 (9913 + 4 * m + 1) (mI M 121 (18 + 8 * v + 2)) = Mb
  generalize hMc : sI Mb 121 (9913 + 4 * m + 2) x = Mc
  generalize hMd : sI Mc 121 (9913 + 4 * m + 3) y = Md
  have hSa : RS Ma := by subst hMa; exact hS.e rfl
  have hSb : RS Mb := by subst hMb; exact hSa.e rfl
  have hSc : RS Mc := by subst hMc; exact hSb.e rfl
  have hSd : RS Md := by subst hMd; exact hSc.e rfl
  have hp : put4 M 9913 m (nI v, mI M 121 (18 + 8 * v + 2), x, y) = Md := by
    unfold put4
    rw [hMa, hMb, hMc, hMd]
  have g2 : f_X10_get 120 (nI v) (2 : Int32) Ma = some (mI M 121 (18 + 8 * v + 2)) := by
    have := f_get hSa.toRK hv (w := 2) (by decide)
    rw [← hMa] at this ⊢
    rw [mI_n _ _ _ _ (by omega)] at this
    exact this
  have hB : mI Md 121 9857 = nI m := by
    rw [← hMd, mI_n _ _ _ _ (by omega), ← hMc, mI_n _ _ _ _ (by omega), ← hMb, mI_n _ _ _ _ (by omega), ← hMa, mI_n _ _ _ _ (by omega)]
    exact hA
  rw [hp, f_X10_enter_279, rs_f hS, rs_0 hS, bnd_e, rs_fa hS, show (9857 : Int32) = nI 9857 from rfl, rs_c hS (by decide), mI_c (by decide), hA, show (9913 : Int32) = nI 9913 from rfl, c4i, bnd_e, bnd_e, rs_fa hS, rs_c hS (by omega), bnd_e, cl_n (by omega), hMa, rs_0 hSa, bnd_e, rs_fa hSa, g2, obd_s, nI_1, rs_c hSa (by omega), bnd_e, cl_n (by omega), hMb, rs_0 hSb, bnd_e, rs_fa hSb, show nI (9913 + 4 * m) + (2 : Int32) = nI (9913 + 4 * m + 2) by rw [show (2 : Int32) = nI 2 from rfl, nI_add], rs_c hSb (by omega), bnd_e, cl_n (by omega), hMc, rs_0 hSc, bnd_e, rs_fa hSc, show nI (9913 + 4 * m) + (3 : Int32) = nI (9913 + 4 * m + 3) by rw [show (3 : Int32) = nI 3 from rfl, nI_add], rs_c hSc (by omega), bnd_e, cl_n (by omega), hMd, rs_0 hSd, bnd_e, rs_fa hSd, rs_c hSd (by decide), rs_c hSd (by decide), bnd_e, cl_n (by decide), hB, nI_1]
/-! ===== one enters; a bringing is written down ===== -/
set_option maxHeartbeats 1000000 in
theorem RV.e217 {M : Mem} {tw : Bool} {t : Int32} {S : St} {pb pt : List Row4} (h : RV M tw t S pb pt) {v : Nat} (hv : v < 16) (x y : Int32) {n : Nat} (hn : 130 ≤ n) : ∃ M', (if mI M 121 9857 = (30 : Int32) then f_X10_enter_237 n 120 (nI v) x y (9913 : Int32) M else f_X10_enter_279 n 120 (nI v) x y M) = some M' ∧ RV M' tw t (uE S (nI v, xR S 2 v, x, y)) pb pt ∧ Fr PA M M' := by
  have hB := h.2.2.2.2.2.1
  have hle := lastn_le 30 (pb ++ xE S)
  have g2 : mI M 121 (18 + 8 * v + 2) = xR S 2 v := h.rg (vk_n (k := 2) (by decide) hv)
  by_cases c : (lastn 30 (pb ++ xE S)).length = 30
  · have hc : mI M 121 9857 = (30 : Int32) := by rw [hB.1, c]; rfl
    rw [if_pos hc]
    obtain ⟨M1, n', i1, i2, i3, i4, i5⟩ := shift_E (v1 := 0) (v2 := x) (v3 := y) (nI v) 116 M n h.1 (by decide) (by omega)
    rw [show nI (10029 - 116) = (9913 : Int32) from rfl] at i1
    generalize hMa : sI M1 121 9857 (nI 29) = Ma
    have hS1 : RS M1 := h.1.e i2.1
    have hSa : RS Ma := by subst hMa; exact hS1.e rfl
    have q279 := RV.w279 hSa hv (m := 29) (by decide) (by rw [← hMa, mI_s]) x y n'
    have ga : mI Ma 121 (18 + 8 * v + 2) = xR S 2 v := by
      rw [← hMa, mI_n _ _ _ _ (by omega), i5 _ (by omega)]; exact g2
    rw [ga] at q279
    refine ⟨sI (put4 Ma 9913 29 (nI v, xR S 2 v, x, y)) 121 9857 (nI (29 + 1)), ?_, h.bookE _ (FrB.tr i2 (FrB.tr (M' := Ma) ?_ (FrB.tr (put4_F (n := 30) (m := 29) Ma _ (by decide)) (FrB.s (Or.inl rfl))))) ?_, ?_⟩
    · rw [i1, f_X10_enter_237, if_pos (by rw [show (10029 : Int32) = nI 10029 from rfl]; exact nI_le (Nat.le_refl _) (by decide)), rs_f hS1, rs_0 hS1, bnd_e, rs_fa hS1, show (9857 : Int32) = nI 9857 from rfl, rs_c hS1 (by decide), rs_c hS1 (by decide), bnd_e, cl_n (by decide), i3, hc, show (30 : Int32) - 1 = nI 29 from rfl, hMa, q279]
    · rw [← hMa]; exact FrB.s (Or.inl rfl)
    · rw [← List.append_assoc]
      refine RVb.push (M := M) (Ma := Ma) (by decide) (Or.inl (by decide)) hB _ 29 (by rw [if_pos c]) ?_ rfl
      rw [if_pos c]
      refine hB.2.sh fun b h1 h2 => ?_
      rw [c] at h2
      rw [← hMa, mI_n _ _ _ _ (by omega), i4 b (by omega) (by omega)]
    · refine Fr.tr i2.toFr (Fr.tr (M' := Ma) ?_ (Fr.tr (put4_F (A := 9857) (n := 30) (m := 29) Ma _ (by decide)).toFr (Fr.tsI ⟨by decide, by decide⟩)))
      rw [← hMa]; exact Fr.tsI ⟨by decide, by decide⟩
  · have hc : ¬ mI M 121 9857 = (30 : Int32) := by
      rw [hB.1, show (30 : Int32) = nI 30 from rfl]
      exact fun q => c ((nI_eq (by omega) (by decide)).mp q)
    rw [if_neg hc]
    have q279 := RV.w279 h.1 hv (m := (lastn 30 (pb ++ xE S)).length) (by omega) hB.1 x y n
    rw [g2] at q279
    refine ⟨_, q279, h.bookE _ (FrB.tr (put4_F (n := 30) M _ (by omega)) (FrB.s (Or.inl rfl))) ?_, Fr.tr (put4_F (A := 9857) (n := 30) M _ (by omega)).toFr (Fr.tsI ⟨by decide, by decide⟩)⟩
    rw [← List.append_assoc]
    refine RVb.push (M := M) (Ma := M) (by decide) (Or.inl (by decide)) hB _ _ (by rw [if_neg c]) ?_ rfl
    rw [if_neg c]
    exact hB.2
/-- somebody asks that is ahead of v -/
def ovr (N v : Nat) (S : St) : Bool := (List.range N).any fun w => decide (xR S 0 w = 1) && ahd (xR S 2 w) (nI w) (xR S 2 v) (nI v)
def ovr' (i d v : Nat) (S : St) : Bool := (List.range' i d).any fun w => decide (xR S 0 w = 1) && ahd (xR S 2 w) (nI w) (xR S 2 v) (nI v)
theorem RV.e136 {M : Mem} {tw : Bool} {t : Int32} {S : St} {pb pt : List Row4} (h : RV M tw t S pb pt) {N : Nat} (hN : xR S 20 0 = nI N) (h16 : N ≤ 16) {v : Nat} (hv : v < 16) (x y : Int32) : ∀ (d i : Nat) (b : Bool) (n : Nat), i + d = N → d + 131 ≤ n → ∃ n', 130 ≤ n' ∧ f_X10_enter_136 n 120 (nI v) x y (if b then 1 else 0) (nI i) M = f_X10_enter_217 n' 120 (nI v) x y (if b || ovr' i d v S then 1 else 0) (xR S 15 5) (9856 : Int32) 121 M := by
  intro d
  induction d with
  | zero =>
    intro i b n hi hn
    obtain ⟨n, rfl⟩ : ∃ m, n = m + 1 := ⟨n - 1, by omega⟩
    have hi2 : i = N := by omega
    subst hi2
    refine ⟨n, by omega, ?_⟩
    have e5 : mI M 121 9856 = xR S 15 5 := h.rg (k := 15) (i := 5) (by unfold vk; omega)
    rw [f_X10_enter_136, rs_f h.1, rs_0 h.1, bnd_e, rs_fa h.1, rs_c0 h.1, cl0, h.N hN, if_pos (nI_le (Nat.le_refl _) (by omega)), bnd_e, rs_fa h.1, show (9856 : Int32) = nI 9856 from rfl, rs_c h.1 (by decide), mI_c (by decide), e5]
    have : ovr' i 0 v S = false := rfl
    rw [this, Bool.or_false]
    cases b
    · rfl
    · rfl
  | succ d ih =>
    intro i b n hi hn
    obtain ⟨n, rfl⟩ : ∃ m, n = m + 1 := ⟨n - 1, by omega⟩
    have eo : ovr' i (d + 1) v S = ((decide (xR S 0 i = 1) && ahd (xR S 2 i) (nI i) (xR S 2 v) (nI v)) || ovr' (i + 1) d v S) := by
      unfold ovr'
      rw [List.range'_succ, List.any_cons]
    obtain ⟨n', h1, h2⟩ := ih (i + 1) (b || (decide (xR S 0 i = 1) && ahd (xR S 2 i) (nI i) (xR S 2 v) (nI v))) n (by omega) (by omega)
    refine ⟨n', h1, ?_⟩
    rw [eo, ← Bool.or_assoc, ← h2, f_X10_enter_136, rs_f h.1, rs_0 h.1, bnd_e, rs_fa h.1, rs_c0 h.1, cl0, h.N hN, if_neg (nI_ge (by omega) (by omega))]
    simp only [bnd_e, nI_1]
    cases b with
    | true => rw [if_neg (by decide)]; rfl
    | false =>
      rw [if_pos (by rfl), h.get0 (by omega), obd_s, Bool.false_or]
      by_cases c : xR S 0 i = 1
      · rw [if_pos c, h.get2 (by omega), obd_s, h.get2 hv, obd_s, f_ah10, obd_s]
        cases ha : ahd (xR S 2 i) (nI i) (xR S 2 v) (nI v)
        · simp [c]
        · simp [c, ne10]
      · rw [if_neg c]; simp [c]
def en0 (t : Int32) (N v : Nat) (S : St) : St :=
  let S1 := uR (uR (uR (uR S 0 v 2) 5 v 0) 15 0 (xR S 15 0 + 1)) 12 v (xR S 12 v + 1)
  let x := xR S 15 1 - xR S 13 v
  let y := xR S 14 v
  let S2 := if x ≤ xR S 15 4 then S1 else uR S1 15 4 x
  let S3 := if y ≤ xR S 15 3 then S2 else uR S2 15 3 y
  let S4 := if pcI N S3 ≤ 1 then S3 else uR S3 15 2 (xR S3 15 2 + 1)
  let S5 := uR S4 15 5 (xR S4 15 5 + (if ovr N v S4 then 1 else 0))
  uE S5 (nI v, xR S5 2 v, x, y)
theorem c9865 (v : Nat) : (9865 : Int32) + ((3 : Int32) * nI v) = nI (9865 + 3 * v) := by rw [show (9865 : Int32) = nI 9865 from rfl, show (3 : Int32) = nI 3 from rfl, pk_mul, nI_add]
theorem RV.cnt {M : Mem} {tw : Bool} {t : Int32} {S : St} {pb pt : List Row4} (h : RV M tw t S pb pt) {v w : Nat} (hv : v < 16) (hw : w < 3) : f_X10_countOf 120 (nI v) (nI w) M = some (xR S (12 + w) v) := by
  have e : mI M 121 (9865 + 3 * v + w) = xR S (12 + w) v := by
    have hk : vk (12 + w) v := by unfold vk; omega
    have := h.rg hk
    rwa [show ad (12 + w) v = 9865 + 3 * v + w by have := ad_cases hk; omega] at this
  rw [f_X10_countOf, rs_f h.1, rs_0 h.1, bnd_e, rs_fa h.1, c9865, nI_add, rs_c h.1 (by omega), cl_n (by omega), e]
theorem pcI_uR {N : Nat} {S : St} {k i : Nat} {x : Int32} (hk : k ≠ 0) : pcI N (uR S k i x) = pcI N S := by
  unfold pcI
  congr 1
  apply List.filter_congr
  intro w _
  rw [xR_uR, if_neg (fun q => hk q.1.symm)]
set_option maxHeartbeats 2000000 in
theorem RV.ten0 {M : Mem} {tw : Bool} {t : Int32} {S : St} {pb pt : List Row4} (h : RV M tw t S pb pt) {N : Nat} (hN : xR S 20 0 = nI N) (h16 : N ≤ 16) {v : Nat} (hv : v < 16) {n : Nat} (hn : 200 ≤ n) : ∃ M', f_X10_enter n 120 (nI v) M = some M' ∧ RV M' tw t (en0 t N v S) pb pt ∧ Fr PA M M' := by
  have v15 : ∀ i, i < 6 → vk 15 i := fun i hi => by unfold vk; omega
  have v12 : vk 12 v := by unfold vk; omega
  have h1 := h.st (vk_n (k := 0) (by decide) hv) 2
  have h2 := h1.st (vk_n (k := 5) (by decide) hv) 0
  have h3 := h2.st (v15 0 (by decide)) (xR S 15 0 + 1)
  have h4 := h3.st v12 (xR S 12 v + 1)
  generalize hM1 : sI M 121 (ad 0 v) 2 = M1 at h1 h2 h3 h4
  generalize hM2 : sI M1 121 (ad 5 v) 0 = M2 at h2 h3 h4
  generalize hM3 : sI M2 121 (ad 15 0) (xR S 15 0 + 1) = M3 at h3 h4
  generalize hM4 : sI M3 121 (ad 12 v) (xR S 12 v + 1) = M4 at h4
  have F1 : Fr PA M M1 := by rw [← hM1]; exact Fr.tad
  have F2 : Fr PA M1 M2 := by rw [← hM2]; exact Fr.tad
  have F3 : Fr PA M2 M3 := by rw [← hM3]; exact Fr.tad
  have F4 : Fr PA M3 M4 := by rw [← hM4]; exact Fr.tad
  generalize hS4 : uR (uR (uR (uR S 0 v 2) 5 v 0) 15 0 (xR S 15 0 + 1)) 12 v (xR S 12 v + 1) = S4 at h4
  have r151 : xR S4 15 1 = xR S 15 1 := by subst hS4; simp [xR_uR]
  have r154 : xR S4 15 4 = xR S 15 4 := by subst hS4; simp [xR_uR]
  have r153 : xR S4 15 3 = xR S 15 3 := by subst hS4; simp [xR_uR]
  have r13 : xR S4 13 v = xR S 13 v := by subst hS4; simp [xR_uR]
  have r14 : xR S4 14 v = xR S 14 v := by subst hS4; simp [xR_uR]
  have hN4 : xR S4 20 0 = nI N := by subst hS4; simpa [xR_uR] using hN
  have a150 : mI M2 121 9851 = xR S 15 0 := by
    have := h2.rg (v15 0 (by decide))
    rw [show ad 15 0 = 9851 from rfl] at this
    rw [this]; simp [xR_uR]
  have a12 : mI M3 121 (9865 + 3 * v) = xR S 12 v := by
    have := h3.rg v12
    rw [show ad 12 v = 9865 + 3 * v by have := ad_cases v12; omega] at this
    rw [this]; simp [xR_uR]
  have a151 : mI M4 121 9852 = xR S 15 1 := (h4.rg (v15 1 (by decide))).trans r151
  have a154 : mI M4 121 9855 = xR S 15 4 := (h4.rg (v15 4 (by decide))).trans r154
  -- the tail
  have tail : ∀ {M : Mem} {S : St} (_ : RV M tw t S pb pt) (_ : xR S 20 0 = nI N) (x y : Int32) (n : Nat), 190 ≤ n → ∃ M', f_X10_enter_107 n 120 (nI v) x y M = some M' ∧ RV M' tw t (let S4 := if pcI N S ≤ 1 then S else uR S 15 2 (xR S 15 2 + 1); let S5 := uR S4 15 5 (xR S4 15 5 + (if ovr N v S4 then 1 else 0)); uE S5 (nI v, xR S5 2 v, x, y)) pb pt ∧ Fr PA M M' := by
    intro M S h hN x y n hn
    obtain ⟨msk, g1, g2⟩ := h.insd hN h16 (n := n) (by omega)
    have hm := f_many (x := msk) (fun i hi1 hi2 => by rw [g2 i hi2]; simp; omega) (n := n) (by omega) M
    have hpc := pc_mask g2
    have p32 := pc_le msk
    have last : ∀ {M : Mem} {S : St} (_ : RV M tw t S pb pt) (_ : xR S 20 0 = nI N) (n : Nat), 190 ≤ n → ∃ M', f_X10_enter_136 n 120 (nI v) x y 0 0 M = some M' ∧ RV M' tw t (let S5 := uR S 15 5 (xR S 15 5 + (if ovr N v S then 1 else 0)); uE S5 (nI v, xR S5 2 v, x, y)) pb pt ∧ Fr PA M M' := by
      intro M S h hN n hn
      obtain ⟨n', q1, q2⟩ := h.e136 hN h16 hv x y N 0 false n (by omega) (by omega)
      have eo : ovr' 0 N v S = ovr N v S := by
        unfold ovr' ovr
        rw [List.range_eq_range']
      rw [Bool.false_or, eo] at q2
      have q2' : f_X10_enter_136 n 120 (nI v) x y 0 0 M = f_X10_enter_217 n' 120 (nI v) x y (if ovr N v S then 1 else 0) (xR S 15 5) (9856 : Int32) 121 M := q2
      have h5 := h.st (v15 5 (by decide)) (xR S 15 5 + (if ovr N v S then 1 else 0))
      generalize hM5 : sI M 121 (ad 15 5) (xR S 15 5 + (if ovr N v S then 1 else 0)) = M5 at h5
      obtain ⟨M6, e6, h6, f6⟩ := h5.e217 hv x y (n := n') (by omega)
      refine ⟨M6, ?_, h6, Fr.tr (M' := M5) ?_ f6⟩
      · rw [q2', f_X10_enter_217, rs_fa h.1, show (9856 : Int32) = nI 9856 from rfl, rs_c h.1 (by decide), bnd_e, cl_n (by decide), show (9856 : Nat) = ad 15 5 from rfl, hM5, rs_f h5.1, rs_0 h5.1, bnd_e, rs_fa h5.1, show (9857 : Int32) = nI 9857 from rfl, rs_c h5.1 (by decide), cl_n (by decide)]
        exact e6
      · rw [← hM5]; exact Fr.tad
    by_cases c : pcI N S ≤ 1
    · obtain ⟨M', e', h', f'⟩ := last h hN n hn
      refine ⟨M', ?_, ?_, f'⟩
      · rw [f_X10_enter_107, rs_f h.1, g1, obd_s, hm, obd_s, hpc, if_pos (by rw [show (1 : Int32) = nI 1 from rfl]; exact nI_le c (by decide)), e']
      · rw [if_pos c]; exact h'
    · have h5 := h.st (v15 2 (by decide)) (xR S 15 2 + 1)
      generalize hM5 : sI M 121 (ad 15 2) (xR S 15 2 + 1) = M5 at h5
      have a152 : mI M 121 9853 = xR S 15 2 := h.rg (v15 2 (by decide))
      obtain ⟨M', e', h', f'⟩ := last h5 (by simpa [xR_uR] using hN) n hn
      refine ⟨M', ?_, ?_, Fr.tr (M' := M5) ?_ f'⟩
      · rw [f_X10_enter_107, rs_f h.1, g1, obd_s, hm, obd_s, hpc, if_neg (by rw [show (1 : Int32) = nI 1 from rfl]; exact nI_ge (by omega) (by omega)), rs_0 h.1, bnd_e, rs_fa h.1, show (9853 : Int32) = nI 9853 from rfl, rs_c h.1 (by decide), rs_c h.1 (by decide), bnd_e, cl_n (by decide), a152, show (9853 : Nat) = ad 15 2 from rfl, hM5, e']
      · rw [if_neg c]; exact h'
      · rw [← hM5]; exact Fr.tad
  have mid : ∀ {M : Mem} {S : St} (_ : RV M tw t S pb pt) (_ : xR S 20 0 = nI N) (x y : Int32) (n : Nat), 190 ≤ n → ∃ M', f_X10_enter_86 n 120 (nI v) x y M = some M' ∧ RV M' tw t (let S3 := if y ≤ xR S 15 3 then S else uR S 15 3 y; let S4 := if pcI N S3 ≤ 1 then S3 else uR S3 15 2 (xR S3 15 2 + 1); let S5 := uR S4 15 5 (xR S4 15 5 + (if ovr N v S4 then 1 else 0)); uE S5 (nI v, xR S5 2 v, x, y)) pb pt ∧ Fr PA M M' := by
    intro M S h hN x y n hn
    have a153 : mI M 121 9854 = xR S 15 3 := h.rg (v15 3 (by decide))
    by_cases c : y ≤ xR S 15 3
    · obtain ⟨M', e', h', f'⟩ := tail h hN x y n hn
      refine ⟨M', ?_, ?_, f'⟩
      · rw [f_X10_enter_86, rs_f h.1, rs_0 h.1, bnd_e, rs_fa h.1, show (9854 : Int32) = nI 9854 from rfl, rs_c h.1 (by decide), mI_c (by decide), a153, if_pos c, e']
      · rw [if_pos c]; exact h'
    · have h5 := h.st (v15 3 (by decide)) y
      generalize hM5 : sI M 121 (ad 15 3) y = M5 at h5
      obtain ⟨M', e', h', f'⟩ := tail h5 (by simpa [xR_uR] using hN) x y n hn
      refine ⟨M', ?_, ?_, Fr.tr (M' := M5) ?_ f'⟩
      · rw [f_X10_enter_86, rs_f h.1, rs_0 h.1, bnd_e, rs_fa h.1, show (9854 : Int32) = nI 9854 from rfl, rs_c h.1 (by decide), mI_c (by decide), a153, if_neg c, bnd_e, rs_fa h.1, rs_c h.1 (by decide), bnd_e, sI_c (by decide), show (9854 : Nat) = ad 15 3 from rfl, hM5, e']
      · rw [if_neg c]; exact h'
      · rw [← hM5]; exact Fr.tad
  have c1 := h4.cnt (w := 1) hv (by decide)
  have c2 := h4.cnt (w := 2) hv (by decide)
  rw [show 12 + 1 = 13 from rfl, r13, show nI 1 = (1 : Int32) from rfl] at c1
  rw [show 12 + 2 = 14 from rfl, r14, show nI 2 = (2 : Int32) from rfl] at c2
  have open1 : ∀ z, (if xR S 15 1 - xR S 13 v ≤ xR S 15 4 then f_X10_enter_86 n 120 (nI v) (xR S 15 1 - xR S 13 v) (xR S 14 v) M4 else f_X10_enter_86 n 120 (nI v) (xR S 15 1 - xR S 13 v) (xR S 14 v) (sI M4 121 (ad 15 4) (xR S 15 1 - xR S 13 v))) = z → f_X10_enter n 120 (nI v) M = z := by
    intro z hz
    rw [f_X10_enter, rs_f h.1, h.let0 hv, obd_s, hM1, rs_f h1.1, h1.let5 hv, obd_s, hM2, rs_f h2.1, rs_0 h2.1, bnd_e, rs_fa h2.1, show (9851 : Int32) = nI 9851 from rfl, rs_c h2.1 (by decide), rs_c h2.1 (by decide), bnd_e, cl_n (by decide), a150, show (9851 : Nat) = ad 15 0 from rfl, hM3, rs_0 h3.1, bnd_e, rs_fa h3.1, c9865, bnd_e, rs_c h3.1 (by omega), rs_c h3.1 (by omega), bnd_e, cl_n (by omega), a12, show 9865 + 3 * v = ad 12 v by have := ad_cases v12; omega, hM4, rs_0 h4.1, bnd_e, rs_fa h4.1, show (9852 : Int32) = nI 9852 from rfl, rs_c h4.1 (by decide), c1, obd_s, mI_c (by decide), a151, bnd_e, c2, obd_s, bnd_e, rs_fa h4.1, show (9855 : Int32) = nI 9855 from rfl, rs_c h4.1 (by decide), mI_c (by decide), a154]
    by_cases c : xR S 15 1 - xR S 13 v ≤ xR S 15 4
    · rw [if_pos c] at hz ⊢
      exact hz
    · rw [if_neg c] at hz ⊢
      rw [bnd_e, rs_fa h4.1, rs_c h4.1 (by decide), bnd_e, sI_c (by decide)]
      exact hz
  by_cases c : xR S 15 1 - xR S 13 v ≤ xR S 15 4
  · obtain ⟨M', e', h', f'⟩ := mid h4 hN4 (xR S 15 1 - xR S 13 v) (xR S 14 v) n (by omega)
    rw [if_pos c] at open1
    refine ⟨M', open1 _ e', ?_, Fr.tr F1 (Fr.tr F2 (Fr.tr F3 (Fr.tr F4 f')))⟩
    unfold en0
    simp only [hS4]
    rw [if_pos c]
    rw [r153] at h'
    exact h'
  · have h5 := h4.st (v15 4 (by decide)) (xR S 15 1 - xR S 13 v)
    rw [if_neg c] at open1
    generalize hM5 : sI M4 121 (ad 15 4) (xR S 15 1 - xR S 13 v) = M5 at h5 open1
    obtain ⟨M', e', h', f'⟩ := mid h5 (by simpa [xR_uR] using hN4) (xR S 15 1 - xR S 13 v) (xR S 14 v) n (by omega)
    refine ⟨M', open1 _ e', ?_, Fr.tr F1 (Fr.tr F2 (Fr.tr F3 (Fr.tr F4 (Fr.tr (M' := M5) ?_ f'))))⟩
    · unfold en0
      simp only [hS4]
      rw [if_neg c]
      rw [show xR (uR S4 15 4 (xR S 15 1 - xR S 13 v)) 15 3 = xR S 15 3 by rw [xR_uR, if_neg (by omega), r153]] at h'
      exact h'
    · rw [← hM5]; exact Fr.tad
/-- since when it is inside, by the clock of the letters: the class alone holds it -/
def en (t : Int32) (N v : Nat) (S : St) : St := uR (en0 t N v S) 21 v t
theorem RV.r21 {M : Mem} {tw : Bool} {t : Int32} {S : St} {pb pt : List Row4} (h : RV M tw t S pb pt) (i : Nat) (x : Int32) : RV M tw t (uR S 21 i x) pb pt := by
  obtain ⟨h1, h2, h3, h4⟩ := h
  refine ⟨h1, h2, fun k j hk => ?_, h4⟩
  rw [xR_uR, if_neg (fun z => by unfold vk at hk; omega)]
  exact h3 k j hk
theorem RV.ten {M : Mem} {tw : Bool} {t : Int32} {S : St} {pb pt : List Row4} (h : RV M tw t S pb pt) {N : Nat} (hN : xR S 20 0 = nI N) (h16 : N ≤ 16) {v : Nat} (hv : v < 16) {n : Nat} (hn : 200 ≤ n) : ∃ M', f_X10_enter n 120 (nI v) M = some M' ∧ RV M' tw t (en t N v S) pb pt ∧ Fr PA M M' := by
  obtain ⟨M', e, h', f⟩ := h.ten0 hN h16 hv hn
  exact ⟨M', e, h'.r21 v t, f⟩
/-! ===== the quorum of a node now, by the reference ===== -/
/-- in a tree: WHOLE of v by the broken ones b -/
def whF (N : Nat) (b : Int32) : Nat → Nat → Int32
  | 0, _ => 0
  | f + 1, v =>
    let l := if 2 * v + 1 < N then whF N b f (2 * v + 1) else 0
    let r := if 2 * v + 1 < N then whF N b f (2 * v + 2) else 0
    if bt b v then (if l = 0 then 0 else if r = 0 then 0 else l ||| r)
    else if 2 * v + 1 < N then (if l = 0 then (if r = 0 then 0 else r ||| ((1 : Int32) <<< (nI v &&& 31))) else l ||| ((1 : Int32) <<< (nI v &&& 31)))
    else (1 : Int32) <<< (nI v &&& 31)
theorem whF_s (N : Nat) (b : Int32) : ∀ (f v : Nat), N ≤ v + f → v < N → ∀ f', N ≤ v + f' → whF N b f v = whF N b f' v := by
  intro f
  induction f with
  | zero => intro v h1 h2; omega
  | succ f ih =>
    intro v h1 h2 f' h3
    obtain ⟨f', rfl⟩ : ∃ m, f' = m + 1 := ⟨f' - 1, by omega⟩
    by_cases c : 2 * v + 1 < N
    · have e1 := ih (2 * v + 1) (by omega) c f' (by omega)
      by_cases c2 : 2 * v + 2 < N
      · have e2 := ih (2 * v + 2) (by omega) c2 f' (by omega)
        unfold whF
        simp only [c, if_true, e1, e2]
      · have z : ∀ g, 2 * v + 2 = N → whF N b g (2 * v + 2) = whF N b g (2 * v + 2) := fun _ _ => rfl
        have e2 : whF N b f (2 * v + 2) = whF N b f' (2 * v + 2) := by
          obtain ⟨g, rfl⟩ : ∃ m, f = m + 1 := ⟨f - 1, by omega⟩
          obtain ⟨g', rfl⟩ : ∃ m, f' = m + 1 := ⟨f' - 1, by omega⟩
          unfold whF
          have : ¬ 2 * (2 * v + 2) + 1 < N := by omega
          simp only [this, if_false]
        unfold whF
        simp only [c, if_true, e1, e2]
    · unfold whF
      simp only [c, if_false]
def wh (N : Nat) (b : Int32) (v : Nat) : Int32 := whF N b N v
theorem wh_e {N : Nat} (b : Int32) {v : Nat} (hv : v < N) (hN : N % 2 = 1) : wh N b v =
    (let l := if 2 * v + 1 < N then wh N b (2 * v + 1) else 0
    let r := if 2 * v + 1 < N then wh N b (2 * v + 2) else 0
    if bt b v then (if l = 0 then 0 else if r = 0 then 0 else l ||| r)
    else if 2 * v + 1 < N then (if l = 0 then (if r = 0 then 0 else r ||| ((1 : Int32) <<< (nI v &&& 31))) else l ||| ((1 : Int32) <<< (nI v &&& 31)))
    else (1 : Int32) <<< (nI v &&& 31)) := by
  unfold wh
  obtain ⟨f, rfl⟩ : ∃ m, N = m + 1 := ⟨N - 1, by omega⟩
  conv => lhs; unfold whF
  by_cases c : 2 * v + 1 < f + 1
  · have e1 := whF_s (f + 1) b f (2 * v + 1) (by omega) c (f + 1) (by omega)
    have e2 := whF_s (f + 1) b f (2 * v + 2) (by omega) (by omega) (f + 1) (by omega)
    simp only [c, if_true, e1, e2]
  · simp only [c, if_false]
/-- the broken ones, as the reference puts them together -/
def bk (i d : Nat) (S : St) (x : Int32) : Int32 := (List.range' i d).foldl (fun x v => x ||| (xR S 7 v <<< (nI v &&& 31))) x
theorem RV.brk {M : Mem} {tw : Bool} {t : Int32} {S : St} {pb pt : List Row4} (h : RV M tw t S pb pt) {N : Nat} (hN : xR S 20 0 = nI N) (h16 : N ≤ 16) : ∀ (d i n : Nat) (x : Int32), i + d = N → d + 1 ≤ n → f_X10_brokenOnes_4 M n 120 x (nI i) = some (bk i d S x) := by
  intro d
  induction d with
  | zero =>
    intro i n x hi hn
    obtain ⟨n, rfl⟩ : ∃ m, n = m + 1 := ⟨n - 1, by omega⟩
    rw [f_X10_brokenOnes_4, rs_f h.1, rs_0 h.1, bnd_e, rs_fa h.1, rs_c0 h.1, cl0, h.N hN, if_pos (nI_le (by omega) (by omega))]
    rfl
  | succ d ih =>
    intro i n x hi hn
    obtain ⟨n, rfl⟩ : ∃ m, n = m + 1 := ⟨n - 1, by omega⟩
    rw [f_X10_brokenOnes_4, rs_f h.1, rs_0 h.1, bnd_e, rs_fa h.1, rs_c0 h.1, cl0, h.N hN, if_neg (nI_ge (by omega) (by omega)), h.get7 (by omega), obd_s, bnd_e, bnd_e, nI_1, ih _ _ _ (by omega) (by omega)]
    unfold bk
    rw [List.range'_succ, List.foldl_cons]
def bkm (N : Nat) (S : St) : Int32 := bk 0 N S 0
theorem RV.bro {M : Mem} {tw : Bool} {t : Int32} {S : St} {pb pt : List Row4} (h : RV M tw t S pb pt) {N : Nat} (hN : xR S 20 0 = nI N) (h16 : N ≤ 16) {n : Nat} (hn : 40 ≤ n) : f_X10_brokenOnes n 120 M = some (bkm N S) := by
  rw [f_X10_brokenOnes]
  exact h.brk hN h16 N 0 n 0 (by omega) (by omega)
def fub (i d : Nat) (S : St) (b : Int32) : Int32 := match (List.range' i d).find? (fun w => decide (xR S 17 w &&& b = 0)) with
  | none => 0
  | some w => xR S 17 w
theorem RV.base {M : Mem} {tw : Bool} {t : Int32} {S : St} {pb pt : List Row4} (h : RV M tw t S pb pt) {v : Nat} (hv : v < 16) : f_X10_baseOf 120 (nI v) M = some (xR S 17 v) :=
  (f_baseOf h.toRK hv).trans (congrArg some (h.rg (k := 17) (i := v) (by unfold vk; omega)))
theorem RV.q34 {M : Mem} {tw : Bool} {t : Int32} {S : St} {pb pt : List Row4} (h : RV M tw t S pb pt) {N : Nat} (hN : xR S 20 0 = nI N) (h16 : N ≤ 16) (b : Int32) : ∀ (d i n : Nat), i + d = N → d + 1 ≤ n → f_X10_quorumBy_34 n 120 b (nI i) M = some (fub i d S b, M) := by
  intro d
  induction d with
  | zero =>
    intro i n hi hn
    obtain ⟨n, rfl⟩ : ∃ m, n = m + 1 := ⟨n - 1, by omega⟩
    rw [f_X10_quorumBy_34, rs_f h.1, rs_0 h.1, bnd_e, rs_fa h.1, rs_c0 h.1, cl0, h.N hN, if_pos (nI_le (by omega) (by omega))]
    rfl
  | succ d ih =>
    intro i n hi hn
    obtain ⟨n, rfl⟩ : ∃ m, n = m + 1 := ⟨n - 1, by omega⟩
    rw [f_X10_quorumBy_34, rs_f h.1, rs_0 h.1, bnd_e, rs_fa h.1, rs_c0 h.1, cl0, h.N hN, if_neg (nI_ge (by omega) (by omega)), h.base (by omega), obd_s]
    unfold fub
    rw [List.range'_succ, List.find?_cons]
    by_cases c : xR S 17 i &&& b = 0
    · rw [if_pos c, obd_s]
      simp [c]
    · rw [if_neg c, bnd_e, nI_1, ih _ _ (by omega) (by omega)]
      simp only [c, decide_false]
      rfl
theorem rs_1 {M : Mem} (h : RS M) : mR M 120 1 = 122 := h.r (by decide)
theorem rs_f1 {α : Type} {M : Mem} (h : RS M) (x : Option α) : chk (isO M 100 122) x = x := chk_t (h.io (by decide) (by decide) (by decide))
theorem rs_c1 {α : Type} {M : Mem} (h : RS M) {k : Nat} (hk : k < 16) (x : Option α) : chk (inB (nI k) (mLn M 122)) x = x := by
  refine chk_t ?_
  rw [h.ln (c := 16) (by decide) (by decide) (by decide)]; exact inB_n hk (by decide)
theorem RV.fr2 {M M' : Mem} {tw : Bool} {t : Int32} {S : St} {pb pt : List Row4} (h : RV M tw t S pb pt) (f : Fr (fun o => o ≠ 120 ∧ o ≠ 121 ∧ o ≠ 123) M M') : RV M' tw t S pb pt := by
  obtain ⟨hS, ht, hA, hw, hl, hb1, hb2⟩ := h
  have e : ∀ b, mI M' 121 b = mI M 121 b := fun b => f.2.1 121 (by omega) b
  refine ⟨hS.e f.1, (f.2.1 120 (by omega) 3).trans ht, fun k i hv => (e _).trans (hA k i hv), hw.cg (fun b _ _ => e b) rfl, ⟨(e _).trans hl.1, hl.2.1, hl.2.2.cg fun j _ _ => ⟨e _, f.2.1 123 (by omega) _⟩⟩, hb1.cg (e _) (fun b _ _ => e b), hb2.cg (e _) (fun b _ _ => e b)⟩
theorem c2v1 (v : Nat) : ((2 : Int32) * nI v) + (1 : Int32) = nI (2 * v + 1) := by rw [c2n, nI_1]
theorem c2v2 (v : Nat) : ((2 : Int32) * nI v) + (2 : Int32) = nI (2 * v + 2) := by rw [c2n, show (2 : Int32) = nI 2 from rfl, nI_add]
def P2 (o : Nat) : Prop := o = 122
set_option maxHeartbeats 1000000 in
theorem wh_l {tw : Bool} {t : Int32} {S : St} {pb pt : List Row4} {N : Nat} (hN : xR S 20 0 = nI N) (h16 : N ≤ 16) (hodd : N % 2 = 1) (b : Int32) : ∀ (r : Nat) (M : Mem) (n : Nat), RV M tw t S pb pt → r ≤ N → (∀ w, r ≤ w → w < N → mI M 122 w = wh N b w) → r + 2 ≤ n → ∃ M', f_X10_wholeBy_9 n 120 b (nI r - 1) M = some (wh N b 0, M') ∧ Fr P2 M M' := by
  intro r
  induction r with
  | zero =>
    intro M n h hr hw hn
    obtain ⟨n, rfl⟩ : ∃ m, n = m + 1 := ⟨n - 1, by omega⟩
    refine ⟨M, ?_, Fr.rf _ _⟩
    rw [f_X10_wholeBy_9, if_pos (by decide), rs_f h.1, rs_1 h.1, bnd_e, rs_f1 h.1, show chk (inB (0 : Int32) (mLn M 122)) (some (mI M 122 ((0 : Int32)).toNatClampNeg, M)) = some (mI M 122 ((0 : Int32)).toNatClampNeg, M) from rs_c1 h.1 (k := 0) (by decide) _, cl0, hw 0 (by omega) (by omega)]
  | succ r ih =>
    intro M n h hr hw hn
    obtain ⟨n, rfl⟩ : ∃ m, n = m + 1 := ⟨n - 1, by omega⟩
    have e1 : nI (r + 1) - (1 : Int32) = nI r := nI_pred r
    have fin : ∀ (x : Int32), x = wh N b r → ∃ M', f_X10_wholeBy_9 n 120 b (nI r + (-1 : Int32)) (sI M 122 r x) = some (wh N b 0, M') ∧ Fr P2 M M' := by
      intro x hx
      have h2 : RV (sI M 122 r x) tw t S pb pt := h.fr2 (Fr.tsI (by decide))
      obtain ⟨M', q1, q2⟩ := ih (sI M 122 r x) n h2 (by omega) (fun w hw1 hw2 => by
        rw [mI_sI]
        by_cases c : w = r
        · rw [if_pos ⟨rfl, c⟩, hx, c]
        · rw [if_neg (fun q => c q.2)]; exact hw w (by omega) hw2) (by omega)
      refine ⟨M', ?_, Fr.tr (Fr.tsI rfl) q2⟩
      rw [show nI r + (-1 : Int32) = nI r - 1 from (Int32.sub_eq_add_neg _ _).symm]
      exact q1
    rw [e1]
    have we := wh_e b (v := r) (by omega) hodd
    have hh := f_has10 b (v := r) (by omega) M
    have nb : ¬ nI r < 0 := nI_pos (by omega)
    by_cases c : 2 * r + 1 < N
    · simp only [c, if_true] at we
      have w1 := hw (2 * r + 1) (by omega) c
      have w2 := hw (2 * r + 2) (by omega) (by omega)
      have start : ∀ y, f_X10_wholeBy_71 (f_X10_wholeBy_9 n) n 120 b (nI r) 0 (wh N b (2 * r + 1)) (wh N b (2 * r + 2)) M = y → f_X10_wholeBy_9 (n + 1) 120 b (nI r) M = y := by
        intro y hy
        rw [f_X10_wholeBy_9, if_neg nb, rs_f h.1, rs_0 h.1, bnd_e, rs_fa h.1, rs_c0 h.1, cl0, h.N hN, c2v1, if_pos (nI_lt c (by omega)), f_X10_wholeBy_32, if_pos rfl, rs_f h.1, rs_1 h.1, bnd_e, rs_f1 h.1, c2v1, rs_c1 h.1 (by omega), cl_n (by omega), w1, f_X10_wholeBy_51, if_pos rfl, rs_f h.1, rs_1 h.1, bnd_e, rs_f1 h.1, c2v2, rs_c1 h.1 (by omega), cl_n (by omega), w2]
        exact hy
      have go : ∀ y, (if bt b r = true then (if wh N b (2 * r + 1) = 0 then f_X10_wholeBy_9 n 120 b (nI r + (-1 : Int32)) (sI M 122 r 0) else if wh N b (2 * r + 2) = 0 then f_X10_wholeBy_9 n 120 b (nI r + (-1 : Int32)) (sI M 122 r 0) else f_X10_wholeBy_9 n 120 b (nI r + (-1 : Int32)) (sI M 122 r (wh N b (2 * r + 1) ||| wh N b (2 * r + 2)))) else (if wh N b (2 * r + 1) = 0 then (if wh N b (2 * r + 2) = 0 then f_X10_wholeBy_9 n 120 b (nI r + (-1 : Int32)) (sI M 122 r 0) else f_X10_wholeBy_9 n 120 b (nI r + (-1 : Int32)) (sI M 122 r (wh N b (2 * r + 2) ||| ((1 : Int32) <<< (nI r &&& 31))))) else f_X10_wholeBy_9 n 120 b (nI r + (-1 : Int32)) (sI M 122 r (wh N b (2 * r + 1) ||| ((1 : Int32) <<< (nI r &&& 31)))))) = y → f_X10_wholeBy_71 (f_X10_wholeBy_9 n) n 120 b (nI r) 0 (wh N b (2 * r + 1)) (wh N b (2 * r + 2)) M = y := by
        intro y hy
        rw [f_X10_wholeBy_71, hh, obd_s]
        cases hb : bt b r
        · rw [hb] at hy
          simp only [Bool.false_eq_true, if_false, if_true] at hy ⊢
          simp only [rs_f h.1, rs_1 h.1, bnd_e, rs_f1 h.1, rs_c1 h.1 (show r < 16 by omega), cl_n (show r < 10465 by omega)]
          exact hy
        · rw [hb] at hy
          simp only [if_true, ne10, if_false] at hy ⊢
          simp only [rs_f h.1, rs_1 h.1, bnd_e, rs_f1 h.1, rs_c1 h.1 (show r < 16 by omega), cl_n (show r < 10465 by omega)]
          exact hy
      cases hb : bt b r
      · rw [hb] at we go
        simp only [Bool.false_eq_true, if_false] at we go
        by_cases c1 : wh N b (2 * r + 1) = 0
        · rw [if_pos c1] at we go
          by_cases c2 : wh N b (2 * r + 2) = 0
          · rw [if_pos c2] at we go
            obtain ⟨M', q1, q2⟩ := fin _ we.symm
            exact ⟨M', start _ (go _ q1), q2⟩
          · rw [if_neg c2] at we go
            obtain ⟨M', q1, q2⟩ := fin _ we.symm
            exact ⟨M', start _ (go _ q1), q2⟩
        · rw [if_neg c1] at we go
          obtain ⟨M', q1, q2⟩ := fin _ we.symm
          exact ⟨M', start _ (go _ q1), q2⟩
      · rw [hb] at we go
        simp only [if_true] at we go
        by_cases c1 : wh N b (2 * r + 1) = 0
        · rw [if_pos c1] at we go
          obtain ⟨M', q1, q2⟩ := fin _ we.symm
          exact ⟨M', start _ (go _ q1), q2⟩
        · rw [if_neg c1] at we go
          by_cases c2 : wh N b (2 * r + 2) = 0
          · rw [if_pos c2] at we go
            obtain ⟨M', q1, q2⟩ := fin _ we.symm
            exact ⟨M', start _ (go _ q1), q2⟩
          · rw [if_neg c2] at we go
            obtain ⟨M', q1, q2⟩ := fin _ we.symm
            exact ⟨M', start _ (go _ q1), q2⟩
    · simp only [c, if_false] at we
      have start : ∀ y, f_X10_wholeBy_71 (f_X10_wholeBy_9 n) n 120 b (nI r) 1 0 0 M = y → f_X10_wholeBy_9 (n + 1) 120 b (nI r) M = y := by
        intro y hy
        rw [f_X10_wholeBy_9, if_neg nb, rs_f h.1, rs_0 h.1, bnd_e, rs_fa h.1, rs_c0 h.1, cl0, h.N hN, c2v1, if_neg (nI_nlt (by omega) (by omega)), f_X10_wholeBy_32, if_neg ne10, f_X10_wholeBy_51, if_neg ne10]
        exact hy
      cases hb : bt b r
      · rw [hb] at we
        simp only [Bool.false_eq_true, if_false] at we
        obtain ⟨M', q1, q2⟩ := fin _ we.symm
        refine ⟨M', start _ ?_, q2⟩
        rw [f_X10_wholeBy_71, hh, obd_s, hb]
        simp only [Bool.false_eq_true, if_false, if_true, ne10, rs_f h.1, rs_1 h.1, bnd_e, rs_f1 h.1, rs_c1 h.1 (show r < 16 by omega), cl_n (show r < 10465 by omega)]
        exact q1
      · rw [hb] at we
        simp only [if_true] at we
        obtain ⟨M', q1, q2⟩ := fin _ we.symm
        refine ⟨M', start _ ?_, q2⟩
        rw [f_X10_wholeBy_71, hh, obd_s, hb]
        simp only [if_true, ne10, if_false, rs_f h.1, rs_1 h.1, bnd_e, rs_f1 h.1, rs_c1 h.1 (show r < 16 by omega), cl_n (show r < 10465 by omega)]
        exact q1
theorem rs_cI {α : Type} {M : Mem} (h : RS M) (x : Option α) : chk (inB (1 : Int32) (mLn M 121)) x = x := rs_c h (k := 1) (by decide) x
/-- the quorum of v by the broken ones b -/
def qby (N : Nat) (S : St) (v : Nat) (b : Int32) : Int32 := if xR S 17 v &&& b = 0 then xR S 17 v else if xR S 20 1 = 1 then wh N b 0 else fub 0 N S b
def qm (N : Nat) (S : St) (v : Nat) : Int32 := qby N S v (bkm N S)
theorem RV.tqby {M : Mem} {tw : Bool} {t : Int32} {S : St} {pb pt : List Row4} (h : RV M tw t S pb pt) {N : Nat} (hN : xR S 20 0 = nI N) (h16 : N ≤ 16) (ht : xR S 20 1 = 1 → N % 2 = 1) {v : Nat} (hv : v < 16) (b : Int32) {n : Nat} (hn : 60 ≤ n) : ∃ M', f_X10_quorumBy n 120 (nI v) b M = some (qby N S v b, M') ∧ RV M' tw t S pb pt ∧ Fr P2 M M' := by
  have h1 : mI M 121 ((1 : Int32)).toNatClampNeg = xR S 20 1 := h.rg (k := 20) (i := 1) (by unfold vk; omega)
  unfold qby
  by_cases c : xR S 17 v &&& b = 0
  · refine ⟨M, ?_, h, Fr.rf _ _⟩
    rw [f_X10_quorumBy, rs_f h.1, h.base hv, obd_s, if_pos c, obd_s, if_pos c]
  · rw [if_neg c]
    by_cases c2 : xR S 20 1 = 1
    · obtain ⟨M', q1, q2⟩ := wh_l hN h16 (ht c2) b N M n h (Nat.le_refl _) (fun w _ _ => by omega) (by omega)
      refine ⟨M', ?_, h.fr2 (q2.mo fun o ho => by unfold P2 at ho; omega), q2⟩
      rw [f_X10_quorumBy, rs_f h.1, h.base hv, obd_s, if_neg c, rs_0 h.1, bnd_e, rs_fa h.1, rs_cI h.1, h1, if_pos c2, f_X10_wholeBy, rs_f h.1, rs_0 h.1, bnd_e, rs_fa h.1, rs_c0 h.1, cl0, h.N hN, bnd_e, q1, obd2_s, if_pos c2]
    · refine ⟨M, ?_, h, Fr.rf _ _⟩
      rw [f_X10_quorumBy, rs_f h.1, h.base hv, obd_s, if_neg c, rs_0 h.1, bnd_e, rs_fa h.1, rs_cI h.1, h1, if_neg c2, show (0 : Int32) = nI 0 from rfl, h.q34 hN h16 b N 0 n (by omega) (by omega), if_neg c2]
theorem P2_A : ∀ o, P2 o → PA o := fun o h => by unfold P2 at h; subst h; exact ⟨by decide, by decide⟩
theorem RV.tqm {M : Mem} {tw : Bool} {t : Int32} {S : St} {pb pt : List Row4} (h : RV M tw t S pb pt) {N : Nat} (hN : xR S 20 0 = nI N) (h16 : N ≤ 16) (ht : xR S 20 1 = 1 → N % 2 = 1) {v : Nat} (hv : v < 16) {n : Nat} (hn : 60 ≤ n) : ∃ M', f_X10_quorumNow n 120 (nI v) M = some (qm N S v, M') ∧ RV M' tw t S pb pt ∧ Fr P2 M M' := by
  obtain ⟨M', q1, q2, q3⟩ := h.tqby hN h16 ht hv (bkm N S) hn
  refine ⟨M', ?_, q2, q3⟩
  rw [f_X10_quorumNow, rs_f h.1, h.bro hN h16 (by omega), obd_s, q1, obd2_s]
  rfl
/-! ===== the reference asks, leaves ===== -/
def sAl (t : Int32) (k f : Nat) (set s : Int32) (ws : List Nat) (S : St) : St := ws.foldl (fun S w => if bt set w then sn t k f w s S else S) S
def sA (t : Int32) (N k f : Nat) (set s : Int32) (S : St) : St := sAl t k f set s (List.range N) S
theorem sAl_len (t : Int32) {k f : Nat} (hf : f < 16) (set s : Int32) : ∀ (ws : List Nat) (S : St), (∀ w, w ∈ ws → w < 16) → (fl (sAl t k f set s ws S)).length ≤ (fl S).length + ws.length := by
  intro ws
  induction ws with
  | nil => intro S _; exact Nat.le_refl _
  | cons w ws ih =>
    intro S hw
    have := hw w (by simp)
    unfold sAl
    rw [List.foldl_cons]
    have h2 := ih (if bt set w then sn t k f w s S else S) (fun w hx => hw w (by simp [hx]))
    unfold sAl at h2
    refine Nat.le_trans h2 ?_
    rw [List.length_cons]
    split
    · rw [fl_sn_len (by omega)]; omega
    · omega
theorem sn_R (t : Int32) (k f g : Nat) (s : Int32) (S : St) {a b : Nat} (h : a ≠ 16) : xR (sn t k f g s S) a b = xR S a b := by
  unfold sn
  rw [xR_uL, xR_uR, if_neg (fun q => h q.1)]
theorem sAl_R (t : Int32) (k f : Nat) (set s : Int32) {a b : Nat} (h : a ≠ 16) : ∀ (ws : List Nat) (S : St), xR (sAl t k f set s ws S) a b = xR S a b := by
  intro ws
  induction ws with
  | nil => intro S; rfl
  | cons w ws ih =>
    intro S
    unfold sAl
    rw [List.foldl_cons]
    have := ih (if bt set w then sn t k f w s S else S)
    unfold sAl at this
    rw [this]
    split
    · exact sn_R _ _ _ _ _ _ h
    · rfl
theorem RV.sal {tw : Bool} {t : Int32} {pb pt : List Row4} {N : Nat} (h16 : N ≤ 16) {k f : Nat} (hk : k < 6) (hf : f < 16) (set s : Int32) : ∀ (d i n : Nat) (M : Mem) (S : St), RV M tw t S pb pt → xR S 20 0 = nI N → i + d = N → (fl S).length + d ≤ 9000 → d + 9101 ≤ n → ∃ M', f_X10_sendAll_3 n 120 (nI k) (nI f) set s (nI i) M = some M' ∧ RV M' tw t (sAl t k f set s (List.range' i d) S) pb pt ∧ Fr PA M M' := by
  intro d
  induction d with
  | zero =>
    intro i n M S h hN hi hl hn
    obtain ⟨n, rfl⟩ : ∃ m, n = m + 1 := ⟨n - 1, by omega⟩
    refine ⟨M, ?_, h, Fr.rf _ _⟩
    rw [f_X10_sendAll_3, rs_f h.1, rs_0 h.1, bnd_e, rs_fa h.1, rs_c0 h.1, cl0, h.N hN, if_pos (nI_le (by omega) (by omega))]
  | succ d ih =>
    intro i n M S h hN hi hl hn
    obtain ⟨n, rfl⟩ : ∃ m, n = m + 1 := ⟨n - 1, by omega⟩
    have start : ∀ y, (if bt set i = true then obd (f_X10_send n 120 (nI k) (nI f) (nI i) s M) (fun M15 => f_X10_sendAll_3 n 120 (nI k) (nI f) set s (nI (i + 1)) M15) else f_X10_sendAll_3 n 120 (nI k) (nI f) set s (nI (i + 1)) M) = y → f_X10_sendAll_3 (n + 1) 120 (nI k) (nI f) set s (nI i) M = y := by
      intro y hy
      rw [f_X10_sendAll_3, rs_f h.1, rs_0 h.1, bnd_e, rs_fa h.1, rs_c0 h.1, cl0, h.N hN, if_neg (nI_ge (by omega) (by omega)), f_has10 _ (by omega), obd_s]
      simp only [bnd_e, nI_1]
      cases hb : bt set i
      · rw [hb] at hy; simpa using hy
      · rw [hb] at hy; simpa [ne10] using hy
    have el : sAl t k f set s (List.range' i (d + 1)) S = sAl t k f set s (List.range' (i + 1) d) (if bt set i then sn t k f i s S else S) := by
      unfold sAl
      rw [List.range'_succ, List.foldl_cons]
    rw [el]
    by_cases c : bt set i = true
    · obtain ⟨M1, e1, h1, f1⟩ := h.send (k := k) (f := f) (g := i) (s := s) hf (by omega) hk (by omega) (n := n) (by omega)
      obtain ⟨M2, e2, h2, f2⟩ := ih (i + 1) n M1 _ h1 ((sn_R _ _ _ _ _ _ (by decide)).trans hN) (by omega) (by rw [fl_sn_len (by omega)]; omega) (by omega)
      rw [if_pos c] at start ⊢
      exact ⟨M2, start _ (by rw [e1, obd_s, e2]), h2, Fr.tr f1 f2⟩
    · obtain ⟨M2, e2, h2, f2⟩ := ih (i + 1) n M S h hN (by omega) (by omega) (by omega)
      rw [if_neg c] at start ⊢
      exact ⟨M2, start _ e2, h2, f2⟩
theorem RV.tsA {M : Mem} {tw : Bool} {t : Int32} {S : St} {pb pt : List Row4} (h : RV M tw t S pb pt) {N : Nat} (hN : xR S 20 0 = nI N) (h16 : N ≤ 16) {k f : Nat} (hk : k < 6) (hf : f < 16) (set s : Int32) (hl : (fl S).length + N ≤ 9000) {n : Nat} (hn : 9200 ≤ n) : ∃ M', f_X10_sendAll n 120 (nI k) (nI f) set s M = some M' ∧ RV M' tw t (sA t N k f set s S) pb pt ∧ Fr PA M M' := by
  obtain ⟨M', e, h', f'⟩ := RV.sal (tw := tw) (t := t) (pb := pb) (pt := pt) h16 hk hf set s N 0 n M S h hN (by omega) hl (by omega)
  refine ⟨M', ?_, ?_, f'⟩
  · rw [f_X10_sendAll]; exact e
  · unfold sA; rw [List.range_eq_range']; exact h'
def rst (v : Nat) (S : St) : St := uR (uR (uR (uR (uR S 3 v 0) 4 v 0) 5 v 0) 6 v 0) 0 v 0
theorem RV.trst {M : Mem} {tw : Bool} {t : Int32} {S : St} {pb pt : List Row4} (h : RV M tw t S pb pt) {v : Nat} (hv : v < 16) {n : Nat} (hn : 10 ≤ n) : ∃ M', f_X10_rest n 120 (nI v) M = some M' ∧ RV M' tw t (rst v S) pb pt ∧ Fr PA M M' := by
  obtain ⟨n, rfl⟩ : ∃ m, n = m + 5 := ⟨n - 5, by omega⟩
  have h1 := h.st (vk_n (k := 3) (by decide) hv) 0
  have h2 := h1.st (vk_n (k := 4) (by decide) hv) 0
  have h3 := h2.st (vk_n (k := 5) (by decide) hv) 0
  have h4 := h3.st (vk_n (k := 6) (by decide) hv) 0
  have h5 := h4.st (vk_n (k := 0) (by decide) hv) 0
  refine ⟨_, ?_, h5, Fr.tr Fr.tad (Fr.tr Fr.tad (Fr.tr Fr.tad (Fr.tr Fr.tad Fr.tad)))⟩
  rw [f_X10_rest, f_X10_rest_2, if_neg (by decide), rs_f h.1, h.let3 hv, obd_s, show (3 : Int32) + 1 = 4 from rfl, bnd_e, f_X10_rest_2, if_neg (by decide), rs_f h1.1, h1.let4 hv, obd_s, show (4 : Int32) + 1 = 5 from rfl, bnd_e, f_X10_rest_2, if_neg (by decide), rs_f h2.1, h2.let5 hv, obd_s, show (5 : Int32) + 1 = 6 from rfl, bnd_e, f_X10_rest_2, if_neg (by decide), rs_f h3.1, h3.let6 hv, obd_s, show (6 : Int32) + 1 = 7 from rfl, bnd_e, f_X10_rest_2, if_pos (by decide), rs_f h4.1, h4.let0 hv, obd_s]
/-- to leave, to withdraw -/
def lv (t : Int32) (N v : Nat) (S : St) : St := sA t N 5 v (xR S 3 v) (xR S 2 v) (rst v S)
theorem RV.tlv {M : Mem} {tw : Bool} {t : Int32} {S : St} {pb pt : List Row4} (h : RV M tw t S pb pt) {N : Nat} (hN : xR S 20 0 = nI N) (h16 : N ≤ 16) {v : Nat} (hv : v < 16) (hl : (fl S).length + N ≤ 9000) {n : Nat} (hn : 9200 ≤ n) : ∃ M', f_X10_leaveNow n 120 (nI v) M = some M' ∧ RV M' tw t (lv t N v S) pb pt ∧ Fr PA M M' := by
  obtain ⟨M1, e1, h1, f1⟩ := h.trst hv (n := n) (by omega)
  have r2 : xR (rst v S) 2 v = xR S 2 v := by unfold rst; simp [xR_uR]
  have r20 : xR (rst v S) 20 0 = nI N := by unfold rst; simp [xR_uR, hN]
  obtain ⟨M2, e2, h2, f2⟩ := h1.tsA r20 h16 (k := 5) (f := v) (by decide) hv (xR S 3 v) (xR S 2 v) hl hn
  refine ⟨M2, ?_, h2, Fr.tr f1 f2⟩
  rw [f_X10_leaveNow, rs_f h.1, h.get3 hv, obd_s, e1, obd_s, rs_f h1.1, h1.get2 hv, obd_s, r2, show (5 : Int32) = nI 5 from rfl, e2, obd_s]
def mayA (N v : Nat) (S : St) : Bool := decide (xR S 0 v = 0) && (decide (xR S 7 v = 0) && !decide (qm N S v = 0))
theorem RV.can {M : Mem} {tw : Bool} {t : Int32} {S : St} {pb pt : List Row4} (h : RV M tw t S pb pt) {N : Nat} (hN : xR S 20 0 = nI N) (h16 : N ≤ 16) (ht : xR S 20 1 = 1 → N % 2 = 1) {v : Nat} (hv : v < 16) {n : Nat} (hn : 60 ≤ n) : ∃ M', f_X10_canAsk n 120 (nI v) M = some (if mayA N v S then 1 else 0, M') ∧ RV M' tw t S pb pt ∧ Fr P2 M M' := by
  unfold mayA
  by_cases c0 : xR S 0 v = 0
  · by_cases c7 : xR S 7 v = 0
    · obtain ⟨M', q1, q2, q3⟩ := h.tqm hN h16 ht hv hn
      refine ⟨M', ?_, q2, q3⟩
      rw [f_X10_canAsk, rs_f h.1, h.get0 hv, obd_s, if_pos c0, h.get7 hv, obd_s, if_pos c7, q1, obd2_s]
      by_cases c : qm N S v = 0
      · rw [if_pos c]; simp [c0, c7, c]
      · rw [if_neg c]; simp [c0, c7, c]
    · refine ⟨M, ?_, h, Fr.rf _ _⟩
      rw [f_X10_canAsk, rs_f h.1, h.get0 hv, obd_s, if_pos c0, h.get7 hv, obd_s, if_neg c7]
      simp [c0, c7]
  · refine ⟨M, ?_, h, Fr.rf _ _⟩
    rw [f_X10_canAsk, rs_f h.1, h.get0 hv, obd_s, if_neg c0]
    simp [c0]
theorem qm_uR {N : Nat} {S : St} {k i v : Nat} {x : Int32} (h7 : k ≠ 7) (h17 : k ≠ 17) (h20 : k ≠ 20) : qm N (uR S k i x) v = qm N S v := by
  have e7 : ∀ w, xR (uR S k i x) 7 w = xR S 7 w := fun w => by rw [xR_uR, if_neg (fun q => h7 q.1.symm)]
  have e17 : ∀ w, xR (uR S k i x) 17 w = xR S 17 w := fun w => by rw [xR_uR, if_neg (fun q => h17 q.1.symm)]
  have e20 : ∀ w, xR (uR S k i x) 20 w = xR S 20 w := fun w => by rw [xR_uR, if_neg (fun q => h20 q.1.symm)]
  unfold qm qby bkm bk fub
  simp only [e7, e17, e20]
/-- to ask -/
def ak (t : Int32) (N v : Nat) (S : St) : St :=
  let S1 := uR (uR S 1 v (xR S 1 v + 1)) 2 v (xR S 1 v + 1)
  let S2 := uR (uR (uR (uR (uR S1 3 v (qm N S v)) 4 v 0) 5 v 0) 6 v 0) 0 v 1
  let S3 := uR (uR S2 13 v (xR S 15 1)) 14 v 0
  sA t N 0 v (qm N S v) (xR S 1 v + 1) S3
set_option maxHeartbeats 2000000 in
theorem RV.tak {M : Mem} {tw : Bool} {t : Int32} {S : St} {pb pt : List Row4} (h : RV M tw t S pb pt) {N : Nat} (hN : xR S 20 0 = nI N) (h16 : N ≤ 16) (ht : xR S 20 1 = 1 → N % 2 = 1) {v : Nat} (hv : v < 16) (hl : (fl S).length + N ≤ 9000) {n : Nat} (hn : 9200 ≤ n) : ∃ M', f_X10_askNow n 120 (nI v) M = some M' ∧ RV M' tw t (ak t N v S) pb pt ∧ Fr PA M M' := by
  have v13 : vk 13 v := by unfold vk; omega
  have v14 : vk 14 v := by unfold vk; omega
  have h1 := h.st (vk_n (k := 1) (by decide) hv) (xR S 1 v + 1)
  have r1 : xR (uR S 1 v (xR S 1 v + 1)) 1 v = xR S 1 v + 1 := by rw [xR_uR, if_pos ⟨rfl, rfl⟩]
  have h2 := h1.st (vk_n (k := 2) (by decide) hv) (xR S 1 v + 1)
  generalize hM1 : sI M 121 (ad 1 v) (xR S 1 v + 1) = M1 at h1 h2
  generalize hM2 : sI M1 121 (ad 2 v) (xR S 1 v + 1) = M2 at h2
  have n20 : xR (uR (uR S 1 v (xR S 1 v + 1)) 2 v (xR S 1 v + 1)) 20 0 = nI N := by simp [xR_uR, hN]
  have n21 : xR (uR (uR S 1 v (xR S 1 v + 1)) 2 v (xR S 1 v + 1)) 20 1 = xR S 20 1 := by simp [xR_uR]
  obtain ⟨M3, e3, h3, f3⟩ := h2.tqm n20 h16 (by rw [n21]; exact ht) hv (n := n) (by omega)
  have eq : qm N (uR (uR S 1 v (xR S 1 v + 1)) 2 v (xR S 1 v + 1)) v = qm N S v := by rw [qm_uR (by decide) (by decide) (by decide), qm_uR (by decide) (by decide) (by decide)]
  rw [eq] at e3
  have h4 := h3.st (vk_n (k := 3) (by decide) hv) (qm N S v)
  have h5 := h4.st (vk_n (k := 4) (by decide) hv) 0
  have h6 := h5.st (vk_n (k := 5) (by decide) hv) 0
  have h7 := h6.st (vk_n (k := 6) (by decide) hv) 0
  have h8 := h7.st (vk_n (k := 0) (by decide) hv) 1
  have h9 := h8.st v13 (xR S 15 1)
  have h10 := h9.st v14 0
  generalize hM4 : sI M3 121 (ad 3 v) (qm N S v) = M4 at h4 h5 h6 h7 h8 h9 h10
  generalize hM5 : sI M4 121 (ad 4 v) 0 = M5 at h5 h6 h7 h8 h9 h10
  generalize hM6 : sI M5 121 (ad 5 v) 0 = M6 at h6 h7 h8 h9 h10
  generalize hM7 : sI M6 121 (ad 6 v) 0 = M7 at h7 h8 h9 h10
  generalize hM8 : sI M7 121 (ad 0 v) 1 = M8 at h8 h9 h10
  generalize hM9 : sI M8 121 (ad 13 v) (xR S 15 1) = M9 at h9 h10
  generalize hM10 : sI M9 121 (ad 14 v) 0 = M10 at h10
  have a151 : mI M8 121 9852 = xR S 15 1 := by
    have := h8.rg (k := 15) (i := 1) (by unfold vk; omega)
    rw [show ad 15 1 = 9852 from rfl] at this
    rw [this]; simp [xR_uR]
  generalize hS10 : uR (uR (uR (uR (uR (uR (uR (uR (uR S 1 v (xR S 1 v + 1)) 2 v (xR S 1 v + 1)) 3 v (qm N S v)) 4 v 0) 5 v 0) 6 v 0) 0 v 1) 13 v (xR S 15 1)) 14 v 0 = S10 at h10
  have s3 : xR S10 3 v = qm N S v := by subst hS10; simp [xR_uR]
  have s2 : xR S10 2 v = xR S 1 v + 1 := by subst hS10; simp [xR_uR]
  have s20 : xR S10 20 0 = nI N := by subst hS10; simp [xR_uR, hN]
  have sl : (fl S10).length = (fl S).length := by subst hS10; rfl
  obtain ⟨M11, e11, h11, f11⟩ := h10.tsA s20 h16 (k := 0) (f := v) (by decide) hv (qm N S v) (xR S 1 v + 1) (by omega) hn
  have ad13 : ad 13 v = 9865 + 3 * v + 1 := by have := ad_cases v13; omega
  have ad14 : ad 14 v = 9865 + 3 * v + 2 := by have := ad_cases v14; omega
  refine ⟨M11, ?_, ?_, ?_⟩
  · rw [f_X10_askNow, rs_f h.1, h.get1 hv, obd_s, h.let1 hv, obd_s, hM1, rs_f h1.1, h1.get1 hv, obd_s, r1, h1.let2 hv, obd_s, hM2, rs_f h2.1, e3, obd2_s, rs_f h3.1, h3.let3 hv, obd_s, hM4, rs_f h4.1, h4.let4 hv, obd_s, hM5, rs_f h5.1, h5.let5 hv, obd_s, hM6, rs_f h6.1, h6.let6 hv, obd_s, hM7, rs_f h7.1, h7.let0 hv, obd_s, hM8, rs_f h8.1, rs_0 h8.1, bnd_e, rs_fa h8.1, bnd_e, rs_fa h8.1, show (9852 : Int32) = nI 9852 from rfl, rs_c h8.1 (by decide), c9865, nI_1, rs_c h8.1 (by omega), bnd_e, cl_n (by omega), cl_n (by decide), a151, ← ad13, hM9, rs_0 h9.1, bnd_e, rs_fa h9.1, show nI (9865 + 3 * v) + (2 : Int32) = nI (9865 + 3 * v + 2) by rw [show (2 : Int32) = nI 2 from rfl, nI_add], rs_c h9.1 (by omega), bnd_e, cl_n (by omega), ← ad14, hM10, h10.get3 hv, obd_s, h10.get2 hv, obd_s, s3, s2, show (0 : Int32) = nI 0 from rfl, e11, obd_s]
  · unfold ak
    simp only [hS10]
    exact h11
  · have F : ∀ {M M' : Mem} {k i : Nat} {x : Int32}, sI M 121 (ad k i) x = M' → Fr PA M M' := fun e => by rw [← e]; exact Fr.tad
    exact Fr.tr (F hM1) (Fr.tr (F hM2) (Fr.tr (f3.mo P2_A) (Fr.tr (F hM4) (Fr.tr (F hM5) (Fr.tr (F hM6) (Fr.tr (F hM7) (Fr.tr (F hM8) (Fr.tr (F hM9) (Fr.tr (F hM10) f11)))))))))
/-! ===== GRANT, FAIL, INQUIRE at one that asks; a letter is brought, by the reference ===== -/
def yT (t : Int32) (v a : Nat) (S : St) : St := let S1 := sn t 4 v a (xR S 2 v) S; uR (uR S1 4 v (bof (xR S 4 v) a)) 6 v (bon (xR S 6 v) a)
theorem RV.tyT {M : Mem} {tw : Bool} {t : Int32} {S : St} {pb pt : List Row4} (h : RV M tw t S pb pt) {v a : Nat} (hv : v < 16) (ha : a < 16) (hl : (fl S).length < 9000) {n : Nat} (hn : 9100 ≤ n) : ∃ M', f_X10_yieldTo n 120 (nI v) (nI a) M = some M' ∧ RV M' tw t (yT t v a S) pb pt ∧ Fr PA M M' := by
  obtain ⟨M1, e1, h1, f1⟩ := h.send (k := 4) (f := v) (g := a) (s := xR S 2 v) hv ha (by decide) hl hn
  have r4 : xR (sn t 4 v a (xR S 2 v) S) 4 v = xR S 4 v := sn_R _ _ _ _ _ _ (by decide)
  have r6 : xR (sn t 4 v a (xR S 2 v) S) 6 v = xR S 6 v := sn_R _ _ _ _ _ _ (by decide)
  have h2 := h1.st (vk_n (k := 4) (by decide) hv) (bof (xR S 4 v) a)
  have r6' : xR (uR (sn t 4 v a (xR S 2 v) S) 4 v (bof (xR S 4 v) a)) 6 v = xR S 6 v := by rw [xR_uR, if_neg (by omega), r6]
  have h3 := h2.st (vk_n (k := 6) (by decide) hv) (bon (xR S 6 v) a)
  refine ⟨_, ?_, h3, Fr.tr f1 (Fr.tr Fr.tad Fr.tad)⟩
  rw [f_X10_yieldTo, rs_f h.1, h.get2 hv, obd_s, show (4 : Int32) = nI 4 from rfl, e1, obd_s, rs_f h1.1, show nI 4 = (4 : Int32) from rfl, h1.get4 hv, obd_s, r4, f_without, obd_s, h1.let4 hv, obd_s, rs_f h2.1, h2.get6 hv, obd_s, r6', f_with, obd_s, h2.let6 hv, obd_s]
def fdl (t : Int32) (v : Nat) (d : Int32) (ws : List Nat) (S : St) : St := ws.foldl (fun S w => if bt d w then yT t v w S else S) S
def fd (t : Int32) (N v a : Nat) (S : St) : St := uR (fdl t v (xR S 5 v) (List.range N) (uR S 6 v (bon (xR S 6 v) a))) 5 v 0
theorem yT_20 (t : Int32) (v a : Nat) (S : St) (b : Nat) : xR (yT t v a S) 20 b = xR S 20 b := by
  unfold yT
  simp only []
  rw [xR_uR, if_neg (by omega), xR_uR, if_neg (by omega), sn_R _ _ _ _ _ _ (by decide)]
theorem yT_len {t : Int32} {v a : Nat} (S : St) (h : 16 * v + a < 256) : (fl (yT t v a S)).length = (fl S).length + 1 := fl_sn_len h
theorem RV.fd28 {tw : Bool} {t : Int32} {pb pt : List Row4} {N : Nat} (h16 : N ≤ 16) {v : Nat} (hv : v < 16) (db : Int32) : ∀ (d i n : Nat) (M : Mem) (S : St), RV M tw t S pb pt → xR S 20 0 = nI N → i + d = N → (fl S).length + d ≤ 9000 → d + 9101 ≤ n → ∃ M', f_X10_failed_28 n 120 (nI v) db (nI i) M = some M' ∧ RV M' tw t (uR (fdl t v db (List.range' i d) S) 5 v 0) pb pt ∧ Fr PA M M' := by
  intro d
  induction d with
  | zero =>
    intro i n M S h hN hi hl hn
    obtain ⟨n, rfl⟩ : ∃ m, n = m + 1 := ⟨n - 1, by omega⟩
    refine ⟨_, ?_, h.st (vk_n (k := 5) (by decide) hv) 0, Fr.tad⟩
    rw [f_X10_failed_28, rs_f h.1, rs_0 h.1, bnd_e, rs_fa h.1, rs_c0 h.1, cl0, h.N hN, if_pos (nI_le (by omega) (by omega)), h.let5 hv, obd_s]
  | succ d ih =>
    intro i n M S h hN hi hl hn
    obtain ⟨n, rfl⟩ : ∃ m, n = m + 1 := ⟨n - 1, by omega⟩
    have start : ∀ y, (if bt db i = true then obd (f_X10_yieldTo n 120 (nI v) (nI i) M) (fun M15 => f_X10_failed_28 n 120 (nI v) db (nI (i + 1)) M15) else f_X10_failed_28 n 120 (nI v) db (nI (i + 1)) M) = y → f_X10_failed_28 (n + 1) 120 (nI v) db (nI i) M = y := by
      intro y hy
      rw [f_X10_failed_28, rs_f h.1, rs_0 h.1, bnd_e, rs_fa h.1, rs_c0 h.1, cl0, h.N hN, if_neg (nI_ge (by omega) (by omega)), f_has10 _ (by omega), obd_s]
      simp only [bnd_e, nI_1]
      cases hb : bt db i
      · rw [hb] at hy; simpa using hy
      · rw [hb] at hy; simpa [ne10] using hy
    have el : fdl t v db (List.range' i (d + 1)) S = fdl t v db (List.range' (i + 1) d) (if bt db i then yT t v i S else S) := by
      unfold fdl
      rw [List.range'_succ, List.foldl_cons]
    rw [el]
    by_cases c : bt db i = true
    · obtain ⟨M1, e1, h1, f1⟩ := h.tyT (v := v) (a := i) hv (by omega) (by omega) (n := n) (by omega)
      obtain ⟨M2, e2, h2, f2⟩ := ih (i + 1) n M1 _ h1 ((yT_20 _ _ _ _ _).trans hN) (by omega) (by rw [yT_len _ (by omega)]; omega) (by omega)
      rw [if_pos c] at start ⊢
      exact ⟨M2, start _ (by rw [e1, obd_s, e2]), h2, Fr.tr f1 f2⟩
    · obtain ⟨M2, e2, h2, f2⟩ := ih (i + 1) n M S h hN (by omega) (by omega) (by omega)
      rw [if_neg c] at start ⊢
      exact ⟨M2, start _ e2, h2, f2⟩
theorem RV.tfd {M : Mem} {tw : Bool} {t : Int32} {S : St} {pb pt : List Row4} (h : RV M tw t S pb pt) {N : Nat} (hN : xR S 20 0 = nI N) (h16 : N ≤ 16) {v a : Nat} (hv : v < 16) (hl : (fl S).length + N ≤ 9000) {n : Nat} (hn : 9200 ≤ n) : ∃ M', f_X10_failed n 120 (nI v) (nI a) M = some M' ∧ RV M' tw t (fd t N v a S) pb pt ∧ Fr PA M M' := by
  have h1 := h.st (vk_n (k := 6) (by decide) hv) (bon (xR S 6 v) a)
  have r5 : xR (uR S 6 v (bon (xR S 6 v) a)) 5 v = xR S 5 v := by rw [xR_uR, if_neg (by omega)]
  obtain ⟨M2, e2, h2, f2⟩ := RV.fd28 (tw := tw) (t := t) (pb := pb) (pt := pt) h16 hv (xR S 5 v) N 0 n _ _ h1 (by simpa [xR_uR] using hN) (by omega) hl (by omega)
  refine ⟨M2, ?_, ?_, Fr.tr Fr.tad f2⟩
  · rw [f_X10_failed, rs_f h.1, h.get6 hv, obd_s, f_with, obd_s, h.let6 hv, obd_s, rs_f h1.1, h1.get5 hv, obd_s, r5]
    exact e2
  · unfold fd; rw [List.range_eq_range']; exact h2
def iq (t : Int32) (v a : Nat) (S : St) : St := if bt (xR S 4 v) a then (if xR S 6 v = 0 then uR S 5 v (bon (xR S 5 v) a) else yT t v a S) else S
theorem RV.tiq {M : Mem} {tw : Bool} {t : Int32} {S : St} {pb pt : List Row4} (h : RV M tw t S pb pt) {v a : Nat} (hv : v < 16) (ha : a < 16) (hl : (fl S).length < 9000) {n : Nat} (hn : 9100 ≤ n) : ∃ M', f_X10_inquired n 120 (nI v) (nI a) M = some M' ∧ RV M' tw t (iq t v a S) pb pt ∧ Fr PA M M' := by
  unfold iq
  cases hb : bt (xR S 4 v) a
  · refine ⟨M, ?_, by simpa using h, Fr.rf _ _⟩
    rw [f_X10_inquired, rs_f h.1, h.get4 hv, obd_s, f_has10 _ (by omega), obd_s, hb]
    simp
  · rw [if_pos rfl]
    by_cases c : xR S 6 v = 0
    · rw [if_pos c]
      refine ⟨_, ?_, h.st (vk_n (k := 5) (by decide) hv) (bon (xR S 5 v) a), Fr.tad⟩
      rw [f_X10_inquired, rs_f h.1, h.get4 hv, obd_s, f_has10 _ (by omega), obd_s, hb, if_pos rfl, if_neg ne10, h.get6 hv, obd_s, if_pos c, h.get5 hv, obd_s, f_with, obd_s, h.let5 hv, obd_s]
    · rw [if_neg c]
      obtain ⟨M2, e2, h2, f2⟩ := h.tyT (v := v) (a := a) hv ha hl hn
      refine ⟨M2, ?_, h2, f2⟩
      rw [f_X10_inquired, rs_f h.1, h.get4 hv, obd_s, f_has10 _ (by omega), obd_s, hb, if_pos rfl, if_neg ne10, h.get6 hv, obd_s, if_neg c, e2, obd_s]
def gr (t : Int32) (N v a : Nat) (S : St) : St :=
  let S1 := uR (uR (uR S 4 v (bon (xR S 4 v) a)) 5 v (bof (xR S 5 v) a)) 6 v (bof (xR S 6 v) a)
  if xR S 3 v &&& ((bon (xR S 4 v) a) ^^^ (-1 : Int32)) = 0 then en t N v S1 else S1
theorem RV.tgr {M : Mem} {tw : Bool} {t : Int32} {S : St} {pb pt : List Row4} (h : RV M tw t S pb pt) {N : Nat} (hN : xR S 20 0 = nI N) (h16 : N ≤ 16) {v a : Nat} (hv : v < 16) {n : Nat} (hn : 200 ≤ n) : ∃ M', f_X10_granted n 120 (nI v) (nI a) M = some M' ∧ RV M' tw t (gr t N v a S) pb pt ∧ Fr PA M M' := by
  have h1 := h.st (vk_n (k := 4) (by decide) hv) (bon (xR S 4 v) a)
  have h2 := h1.st (vk_n (k := 5) (by decide) hv) (bof (xR S 5 v) a)
  have h3 := h2.st (vk_n (k := 6) (by decide) hv) (bof (xR S 6 v) a)
  have q5 : xR (uR S 4 v (bon (xR S 4 v) a)) 5 v = xR S 5 v := by simp [xR_uR]
  have q6 : xR (uR (uR S 4 v (bon (xR S 4 v) a)) 5 v (bof (xR S 5 v) a)) 6 v = xR S 6 v := by simp [xR_uR]
  have q3 : xR (uR (uR (uR S 4 v (bon (xR S 4 v) a)) 5 v (bof (xR S 5 v) a)) 6 v (bof (xR S 6 v) a)) 3 v = xR S 3 v := by simp [xR_uR]
  have q4 : xR (uR (uR (uR S 4 v (bon (xR S 4 v) a)) 5 v (bof (xR S 5 v) a)) 6 v (bof (xR S 6 v) a)) 4 v = bon (xR S 4 v) a := by simp [xR_uR]
  have F : Fr PA M (sI (sI (sI M 121 (ad 4 v) (bon (xR S 4 v) a)) 121 (ad 5 v) (bof (xR S 5 v) a)) 121 (ad 6 v) (bof (xR S 6 v) a)) := Fr.tr Fr.tad (Fr.tr Fr.tad Fr.tad)
  have start : ∀ y, (if xR S 3 v &&& ((bon (xR S 4 v) a) ^^^ (-1 : Int32)) = 0 then obd (f_X10_enter n 120 (nI v) (sI (sI (sI M 121 (ad 4 v) (bon (xR S 4 v) a)) 121 (ad 5 v) (bof (xR S 5 v) a)) 121 (ad 6 v) (bof (xR S 6 v) a))) (fun M30 => some M30) else some (sI (sI (sI M 121 (ad 4 v) (bon (xR S 4 v) a)) 121 (ad 5 v) (bof (xR S 5 v) a)) 121 (ad 6 v) (bof (xR S 6 v) a))) = y → f_X10_granted n 120 (nI v) (nI a) M = y := by
    intro y hy
    rw [f_X10_granted, rs_f h.1, h.get4 hv, obd_s, f_with, obd_s, h.let4 hv, obd_s, rs_f h1.1, h1.get5 hv, obd_s, q5, f_without, obd_s, h1.let5 hv, obd_s, rs_f h2.1, h2.get6 hv, obd_s, q6, f_without, obd_s, h2.let6 hv, obd_s, rs_f h3.1, h3.get3 hv, obd_s, q3, h3.get4 hv, obd_s, q4]
    exact hy
  unfold gr
  simp only []
  by_cases c : xR S 3 v &&& ((bon (xR S 4 v) a) ^^^ (-1 : Int32)) = 0
  · rw [if_pos c] at start ⊢
    obtain ⟨M', e', h', f'⟩ := h3.ten (by simpa [xR_uR] using hN) h16 hv hn
    exact ⟨M', start _ (by rw [e', obd_s]), h', Fr.tr F f'⟩
  · rw [if_neg c] at start ⊢
    exact ⟨_, start _ rfl, h3, F⟩
/-! ===== what is written down of a bringing ===== -/
def wtl (f g : Nat) (ws : List Nat) (S : St) : St := ws.foldl (fun S w => if xR S 0 w = 1 ∧ (w = f ∨ w = g) then uR S 14 w (xR S 14 w + 1) else S) S
def wt (N k f g : Nat) (s : Int32) (S : St) : St := wtl f g (List.range N) (uR (uR (uT S (nI k, nI f, nI g, s)) 15 1 (xR S 15 1 + 1)) 18 g (xR S 18 g + 1))
theorem RV.w156 {tw : Bool} {t : Int32} {pb pt : List Row4} {N : Nat} (h16 : N ≤ 16) {f g : Nat} (hf : f < 16) (hg : g < 16) : ∀ (d i n : Nat) (M : Mem) (S : St), RV M tw t S pb pt → xR S 20 0 = nI N → i + d = N → d + 1 ≤ n → ∃ M', f_X10_writeTrace_156 n 120 (nI f) (nI g) (nI i) M = some M' ∧ RV M' tw t (wtl f g (List.range' i d) S) pb pt ∧ Fr PA M M' := by
  intro d
  induction d with
  | zero =>
    intro i n M S h hN hi hn
    obtain ⟨n, rfl⟩ : ∃ m, n = m + 1 := ⟨n - 1, by omega⟩
    refine ⟨M, ?_, h, Fr.rf _ _⟩
    rw [f_X10_writeTrace_156, rs_f h.1, rs_0 h.1, bnd_e, rs_fa h.1, rs_c0 h.1, cl0, h.N hN, if_pos (nI_le (by omega) (by omega))]
  | succ d ih =>
    intro i n M S h hN hi hn
    obtain ⟨n, rfl⟩ : ∃ m, n = m + 1 := ⟨n - 1, by omega⟩
    have v14 : vk 14 i := by unfold vk; omega
    have ad14 : ad 14 i = 9865 + 3 * i + 2 := by have := ad_cases v14; omega
    have a14 : mI M 121 (9865 + 3 * i + 2) = xR S 14 i := by rw [← ad14]; exact h.rg v14
    have one : f_X10_writeTrace_190 (f_X10_writeTrace_156 n) n 120 (nI f) (nI g) (nI i) M = f_X10_writeTrace_156 n 120 (nI f) (nI g) (nI (i + 1)) (sI M 121 (ad 14 i) (xR S 14 i + 1)) := by
      rw [f_X10_writeTrace_190, rs_f h.1, rs_0 h.1, bnd_e, rs_fa h.1, c9865, show nI (9865 + 3 * i) + (2 : Int32) = nI (9865 + 3 * i + 2) by rw [show (2 : Int32) = nI 2 from rfl, nI_add], bnd_e, rs_c h.1 (by omega), rs_c h.1 (by omega), bnd_e, cl_n (by omega), a14, ← ad14, nI_1, bnd_e]
    have start : ∀ y, (if xR S 0 i = 1 ∧ (i = f ∨ i = g) then f_X10_writeTrace_156 n 120 (nI f) (nI g) (nI (i + 1)) (sI M 121 (ad 14 i) (xR S 14 i + 1)) else f_X10_writeTrace_156 n 120 (nI f) (nI g) (nI (i + 1)) M) = y → f_X10_writeTrace_156 (n + 1) 120 (nI f) (nI g) (nI i) M = y := by
      intro y hy
      rw [f_X10_writeTrace_156, rs_f h.1, rs_0 h.1, bnd_e, rs_fa h.1, rs_c0 h.1, cl0, h.N hN, if_neg (nI_ge (by omega) (by omega)), h.get0 (by omega), obd_s, one]
      simp only [bnd_e, nI_1]
      by_cases c : xR S 0 i = 1
      · rw [if_pos c]
        by_cases c1 : i = f
        · rw [if_pos ⟨c, Or.inl c1⟩] at hy
          rw [if_pos (by rw [c1])]; exact hy
        · rw [if_neg (fun q => c1 ((nI_eq (by omega) (by omega)).mp q))]
          by_cases c2 : i = g
          · rw [if_pos ⟨c, Or.inr c2⟩] at hy
            rw [if_pos (by rw [c2])]; exact hy
          · rw [if_neg (fun q => c2 ((nI_eq (by omega) (by omega)).mp q))]
            rw [if_neg (fun q => q.2.elim c1 c2)] at hy
            exact hy
      · rw [if_neg c]
        rw [if_neg (fun q => c q.1)] at hy
        exact hy
    have el : wtl f g (List.range' i (d + 1)) S = wtl f g (List.range' (i + 1) d) (if xR S 0 i = 1 ∧ (i = f ∨ i = g) then uR S 14 i (xR S 14 i + 1) else S) := by
      unfold wtl
      rw [List.range'_succ, List.foldl_cons]
    rw [el]
    by_cases c : xR S 0 i = 1 ∧ (i = f ∨ i = g)
    · rw [if_pos c] at start ⊢
      have h1 := h.st v14 (xR S 14 i + 1)
      obtain ⟨M2, e2, h2, f2⟩ := ih (i + 1) n _ _ h1 (by simpa [xR_uR] using hN) (by omega) (by omega)
      exact ⟨M2, start _ e2, h2, Fr.tr Fr.tad f2⟩
    · rw [if_neg c] at start ⊢
      obtain ⟨M2, e2, h2, f2⟩ := ih (i + 1) n M S h hN (by omega) (by omega)
      exact ⟨M2, start _ e2, h2, f2⟩
set_option maxHeartbeats 2000000 in
theorem RV.w60 {M : Mem} {tw : Bool} {t : Int32} {S : St} {pb pt : List Row4} (hS : RS M) {m : Nat} (hm : m < 40) (hA : mI M 121 9858 = nI m) {k f g : Nat} (hf : f < 16) (hg : g < 16) (s : Int32) {N : Nat} (h16 : N ≤ 16) (h : RV (sI (put4 M 10033 m (nI k, nI f, nI g, s)) 121 9858 (nI (m + 1))) tw t S pb pt) (hN : xR S 20 0 = nI N) {n : Nat} (hn : 20 ≤ n) : ∃ M', f_X10_writeTrace_60 n 120 (nI k) (nI f) (nI g) s M = some M' ∧ RV M' tw t (wtl f g (List.range N) (uR (uR S 15 1 (xR S 15 1 + 1)) 18 g (xR S 18 g + 1))) pb pt ∧ Fr PA (sI (put4 M 10033 m (nI k, nI f, nI g, s)) 121 9858 (nI (m + 1))) M' := by
  have v15 : vk 15 1 := by unfold vk; omega
  have v18 : vk 18 g := by unfold vk; omega
  have ad18 : ad 18 g = 10193 + g := by have := ad_cases v18; omega
  generalize hMa : sI M 121 (10033 + 4 * m) (nI k) = Ma
  generalize hMb : sI Ma 121 (10033 + 4 * m + 1) (nI f) = Mb
  generalize hMc : sI Mb 121 (10033 + 4 * m + 2) (nI g) = Mc
  generalize hMd : sI Mc 121 (10033 + 4 * m + 3) s = Md
  have hSa : RS Ma := by subst hMa; exact hS.e rfl
  have hSb : RS Mb := by subst hMb; exact hSa.e rfl
  have hSc : RS Mc := by subst hMc; exact hSb.e rfl
  have hSd : RS Md := by subst hMd; exact hSc.e rfl
  have hp : put4 M 10033 m (nI k, nI f, nI g, s) = Md := by
    unfold put4
    rw [hMa, hMb, hMc, hMd]
  have hB : mI Md 121 9858 = nI m := by
    rw [← hMd, mI_n _ _ _ _ (by omega), ← hMc, mI_n _ _ _ _ (by omega), ← hMb, mI_n _ _ _ _ (by omega), ← hMa, mI_n _ _ _ _ (by omega)]
    exact hA
  rw [hp] at h ⊢
  generalize hMe : sI Md 121 9858 (nI (m + 1)) = Me at h ⊢
  have h1 := h.st v15 (xR S 15 1 + 1)
  have e15 : mI Me 121 9852 = xR S 15 1 := h.rg v15
  generalize hMf : sI Me 121 (ad 15 1) (xR S 15 1 + 1) = Mf' at h1
  have e18 : mI Mf' 121 (10193 + g) = xR S 18 g := by
    have := h1.rg v18
    rw [ad18] at this
    rw [this]; simp [xR_uR]
  have h2 := h1.st v18 (xR S 18 g + 1)
  generalize hMg : sI Mf' 121 (ad 18 g) (xR S 18 g + 1) = Mg at h2
  obtain ⟨M3, e3, h3, f3⟩ := RV.w156 (tw := tw) (t := t) (pb := pb) (pt := pt) h16 hf hg N 0 n Mg _ h2 (by simpa [xR_uR] using hN) (by omega) (by omega)
  refine ⟨M3, ?_, ?_, Fr.tr (M' := Mf') ?_ (Fr.tr (M' := Mg) ?_ f3)⟩
  · rw [f_X10_writeTrace_60, rs_f hS, rs_0 hS, bnd_e, rs_fa hS, show (9858 : Int32) = nI 9858 from rfl, rs_c hS (by decide), mI_c (by decide), hA, show (10033 : Int32) = nI 10033 from rfl, c4i, bnd_e, bnd_e, rs_fa hS, rs_c hS (by omega), bnd_e, cl_n (by omega), hMa, rs_0 hSa, bnd_e, rs_fa hSa, nI_1, rs_c hSa (by omega), bnd_e, cl_n (by omega), hMb, rs_0 hSb, bnd_e, rs_fa hSb, show nI (10033 + 4 * m) + (2 : Int32) = nI (10033 + 4 * m + 2) by rw [show (2 : Int32) = nI 2 from rfl, nI_add], rs_c hSb (by omega), bnd_e, cl_n (by omega), hMc, rs_0 hSc, bnd_e, rs_fa hSc, show nI (10033 + 4 * m) + (3 : Int32) = nI (10033 + 4 * m + 3) by rw [show (3 : Int32) = nI 3 from rfl, nI_add], rs_c hSc (by omega), bnd_e, cl_n (by omega), hMd, rs_0 hSd, bnd_e, rs_fa hSd, rs_c hSd (by decide), rs_c hSd (by decide), bnd_e, cl_n (by decide), hB, nI_1, hMe, rs_0 h.1, bnd_e, rs_fa h.1, show (9852 : Int32) = nI 9852 from rfl, rs_c h.1 (by decide), rs_c h.1 (by decide), bnd_e, cl_n (by decide), e15, show (9852 : Nat) = ad 15 1 from rfl, hMf, rs_0 h1.1, bnd_e, rs_fa h1.1, show (10193 : Int32) + nI g = nI (10193 + g) by rw [show (10193 : Int32) = nI 10193 from rfl, nI_add], bnd_e, rs_c h1.1 (by omega), rs_c h1.1 (by omega), bnd_e, cl_n (by omega), e18, ← ad18, hMg]
    exact e3
  · rw [List.range_eq_range']; exact h3
  · rw [← hMf]; exact Fr.tad
  · rw [← hMg]; exact Fr.tad
set_option maxHeartbeats 1000000 in
theorem RV.twt {M : Mem} {tw : Bool} {t : Int32} {S : St} {pb pt : List Row4} (h : RV M tw t S pb pt) {N : Nat} (hN : xR S 20 0 = nI N) (h16 : N ≤ 16) {k f g : Nat} (hf : f < 16) (hg : g < 16) (s : Int32) {n : Nat} (hn : 200 ≤ n) : ∃ M', f_X10_writeTrace n 120 (nI k) (nI f) (nI g) s M = some M' ∧ RV M' tw t (wt N k f g s S) pb pt ∧ Fr PA M M' := by
  have hB := h.2.2.2.2.2.2
  have hle := lastn_le 40 (pt ++ xT S)
  have open1 : ∀ y, (if mI M 121 9858 = (40 : Int32) then f_X10_writeTrace_18 n 120 (nI k) (nI f) (nI g) s (10033 : Int32) M else f_X10_writeTrace_60 n 120 (nI k) (nI f) (nI g) s M) = y → f_X10_writeTrace n 120 (nI k) (nI f) (nI g) s M = y := by
    intro y hy
    rw [f_X10_writeTrace, rs_f h.1, rs_0 h.1, bnd_e, rs_fa h.1, show (9858 : Int32) = nI 9858 from rfl, rs_c h.1 (by decide), cl_n (by decide)]
    exact hy
  by_cases c : (lastn 40 (pt ++ xT S)).length = 40
  · have hc : mI M 121 9858 = (40 : Int32) := by rw [hB.1, c]; rfl
    rw [if_pos hc] at open1
    obtain ⟨M1, n', i0, i1, i2, i3, i4, i5⟩ := shift_T (v1 := nI k) (v2 := nI f) (v3 := nI g) (v4 := s) 156 M n h.1 (by decide) (by omega)
    rw [show nI (10189 - 156) = (10033 : Int32) from rfl] at i1
    generalize hMa : sI M1 121 9858 (nI 39) = Ma
    have hS1 : RS M1 := h.1.e i2.1
    have hSa : RS Ma := by subst hMa; exact hS1.e rfl
    have Fa : FrB 9858 10033 40 M Ma := FrB.tr i2 (by rw [← hMa]; exact FrB.s (Or.inl rfl))
    have hT : RV (sI (put4 Ma 10033 39 (nI k, nI f, nI g, s)) 121 9858 (nI (39 + 1))) tw t (uT S (nI k, nI f, nI g, s)) pb pt := by
      refine h.bookT _ (FrB.tr Fa (FrB.tr (put4_F (n := 40) (m := 39) Ma _ (by decide)) (FrB.s (Or.inl rfl)))) ?_
      rw [← List.append_assoc]
      refine RVb.push (M := M) (Ma := Ma) (by decide) (Or.inl (by decide)) hB _ 39 (by rw [if_pos c]) ?_ rfl
      rw [if_pos c]
      refine hB.2.sh fun b h1 h2 => ?_
      rw [c] at h2
      rw [← hMa, mI_n _ _ _ _ (by omega), i4 b (by omega) (by omega)]
    obtain ⟨M', e', h', f'⟩ := RV.w60 (tw := tw) (t := t) (pb := pb) (pt := pt) hSa (m := 39) (by decide) (by rw [← hMa, mI_s]) hf hg s h16 hT hN (n := n') (by omega)
    refine ⟨M', open1 _ ?_, h', Fr.tr (Fr.tr Fa.toFr (Fr.tr (put4_F (A := 9858) (n := 40) (m := 39) Ma _ (by decide)).toFr (Fr.tsI ⟨by decide, by decide⟩))) f'⟩
    rw [i1, f_X10_writeTrace_18, if_pos (by rw [show (10189 : Int32) = nI 10189 from rfl]; exact nI_le (Nat.le_refl _) (by decide)), rs_f hS1, rs_0 hS1, bnd_e, rs_fa hS1, show (9858 : Int32) = nI 9858 from rfl, rs_c hS1 (by decide), rs_c hS1 (by decide), bnd_e, cl_n (by decide), i3, hc, show (40 : Int32) - 1 = nI 39 from rfl, hMa, e']
  · have hc : ¬ mI M 121 9858 = (40 : Int32) := by
      rw [hB.1, show (40 : Int32) = nI 40 from rfl]
      exact fun q => c ((nI_eq (by omega) (by decide)).mp q)
    rw [if_neg hc] at open1
    have hT : RV (sI (put4 M 10033 (lastn 40 (pt ++ xT S)).length (nI k, nI f, nI g, s)) 121 9858 (nI ((lastn 40 (pt ++ xT S)).length + 1))) tw t (uT S (nI k, nI f, nI g, s)) pb pt := by
      refine h.bookT _ (FrB.tr (put4_F (n := 40) M _ (by omega)) (FrB.s (Or.inl rfl))) ?_
      rw [← List.append_assoc]
      refine RVb.push (M := M) (Ma := M) (by decide) (Or.inl (by decide)) hB _ _ (by rw [if_neg c]) ?_ rfl
      rw [if_neg c]
      exact hB.2
    obtain ⟨M', e', h', f'⟩ := RV.w60 (tw := tw) (t := t) (pb := pb) (pt := pt) h.1 (m := (lastn 40 (pt ++ xT S)).length) (by omega) hB.1 hf hg s h16 hT hN (n := n) (by omega)
    exact ⟨M', open1 _ e', h', Fr.tr (Fr.tr (put4_F (A := 9858) (n := 40) M _ (by omega)).toFr (Fr.tsI ⟨by decide, by decide⟩)) f'⟩
