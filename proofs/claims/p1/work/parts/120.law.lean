/-! THE CLAIM OUT OF ONE WALK OF THE LAW'S BODY. Your part is whole_start (and what it stands on); all else here is the same for every law, but numbers. -/
def R_law : String := "QuorumGateLaw"
def lw_P (b : Addr) (xs : List Int32) (args : Array Value) (s : State) : Prop := args = #[.ref b] ∧ s.IntsAt b xs ∧ xs.length ≤ 4 ∧ (Jvm.Cond.and given_1 narrow_1).before args s = true
/-- what a walk over the start with the record d0 says of its end, said of the start itself -/
theorem lw_closed {s t : State} {o : Outcome} {d0 : Drawn} {L : List Loc} {k n : Nat} (hd0 : s.drawn.sameBut d0 lw_cs) (hv : ∃ v, o = .returned v) (hW : (s.setDrawn d0).WarmedH t.vm) (hs : (s.setDrawn d0).sameButNew ({ t with vm := s.vm } : State) L k n) : State.butDraws s t lw_cs (fun t1 => Framed s o t1 L k n) := by
  have h2 : t.drawn = d0 := congrArg State.drawn hs.1
  refine ⟨⟨hv, hW, State.sameButNew.setDrawn hs s.drawn⟩, ?_, by decide⟩
  rw [h2]
  exact hd0
def lw_Q (_ : Array Value) (s : State) (o : Outcome) (t : State) : Prop := o = .returned (some (.int 1)) ∧ State.butDraws s t lw_cs (fun t1 => Framed s o t1 [] 600000 7302250)
def lw_Z (below : List Frame) (a : Array Value) (s : State) : State → Prop := fun t => ∃ o, t.status = .running ∧ Ended t below o ∧ lw_Q a s o t
/-- the law's own end, with 1 on the stack, nothing written that was there before, its room as the claim has it; d0: the record of draws at this point (at the entry s.drawn: begin with 'refine W.base ?_' and 'have hd0 := Drawn.sameBut.refl s.drawn lw_cs') -/
theorem lw_ret {p : Program} {l : Launch} {e : Env} {s : State} {m : MethodId} {below : List Frame} {meth : Method} {c : Code} {b : Nat} {d0 : Drawn} (hd0 : s.drawn.sameBut d0 lw_cs) (hx : p.tables.exec = Jvm.exec) (hb : c.code = code) (hr : meth.sig.returnType = ret) (hlocks : meth.locks = false) {pc : Nat} {H : Heap} {ls : Array Slot} (hdg : decode code pc = .ok (.ireturn, 1)) : W p l e room_1 (s.setDrawn d0) m #[Value.ref b] below meth c H [] 600000 7302250 (lw_Z below #[Value.ref b] s) (F0 m pc ls [.int 1]) := by
  intro T hT X
  obtain ⟨fs, hret, hrun, hended, hW, hframe⟩ := X.leave (v := some (.int 1)) (hlocks := hlocks) (fun h => by rw [hr] at h; cases h)
  have hmeth' : T.vm.method? m = some meth := X.method'
  refine ⟨T.setFrames fs, ?_, .returned (some (.int 1)), hrun, hended, rfl, lw_closed hd0 ⟨_, rfl⟩ hW hframe⟩
  jvm_step X.here [X.here.top, hx, hb, hdg, hmeth', hr, ret, narrow_b1]
  (try refine ⟨rfl, ?_⟩); (try refine ⟨rfl, ?_⟩)
  first | (intro acts; rw [hret _ acts rfl rfl rfl]) | rw [hret _ _ rfl rfl rfl]
  exact Steps.refl _
/-- what holds at the law's entry: the machine, the code, the tables' words (any of lw_tbl by 'hts w (by decide +kernel)'), the script of L ints xs at the cell b, what the Statement gives of the start (any of its parts by flat_of_before) -/
def lw_At (p : Program) (s : State) (m : MethodId) (meth : Method) (c : Code) (b L : Nat) (xs : Nat → Int32) : Prop :=
  p.tables.exec = Jvm.exec ∧ c.code = code ∧ meth.sig.returnType = ret ∧ c.maxLocals = 4 ∧ s.vm.findClass R_law = some m.cls ∧ (∀ w ∈ lw_tbl, w.before #[Value.ref b] s = true) ∧ va_X b L xs s s.heap ∧ b < s.heap.size ∧ meth.locks = false ∧ (Jvm.Cond.and given_1 narrow_1).before #[Value.ref b] s = true
def LawB (s0 : State) (d0 : Drawn) (s : State) (b L : Nat) (xs : Nat → Int32) (G : Gam) (M0 : Mem) : Prop := va_X b L xs s s.heap ∧ b < s.heap.size ∧ ¬ gA G b ∧ s0.drawn.sameBut d0 lw_cs ∧ s = s0.setDrawn d0 ∧ mN M0 = 0 ∧ mU M0 = 0
section
variable {p : Program} {l : Launch} {e : Env} {R : Room} {s s0 : State} {d0 : Drawn} {m : MethodId} {args : Array Value} {below : List Frame} {meth : Method} {c : Code} {Q : State → Prop} {b L : Nat} {xs : Nat → Int32}
variable {G : Gam} {M0 M : Mem} {cc : ByteArray} {own : String} {nL fr lo pc : Nat} {vs : List (Nat × Value)} {st : List Value}
theorem pk_01 {M M1 : Mem} (h : some ((0 : Int32), M) = some ((1 : Int32), M1)) : False := by
  have h1 : (0 : Int32) = 1 := congrArg Prod.fst (Option.some.inj h)
  exact absurd h1 (by decide)
theorem s_sld (X : Cx p R s m args c G M0 cc own nL fr lo) (hX : va_X b L xs s s.heap) (hbl : b < s.heap.size) (hbA : ¬ gA G b) {i : Int32} (hin : vp_in i L) (hd : decode cc pc = .ok (.iaload, 1)) (k : Sg p l e R s m args below meth c Q G M0 nL (pc + 1) vs (.int (xs i.toNatClampNeg) :: st) M) : Sg p l e R s m args below meth c Q G M0 nL pc vs (.int i :: .ref b :: st) M :=
  fun hk H locs ls hl hP hS => va_sld X.1 X.2.1 hX hbl hbA hS hin hd (k hk H locs ls hl hP hS)
theorem s_slen (X : Cx p R s m args c G M0 cc own nL fr lo) (hX : va_X b L xs s s.heap) (hbl : b < s.heap.size) (hbA : ¬ gA G b) (hd : decode cc pc = .ok (.arraylength, 1)) (k : Sg p l e R s m args below meth c Q G M0 nL (pc + 1) vs (.int (Int32.ofNat L) :: st) M) : Sg p l e R s m args below meth c Q G M0 nL pc vs (.ref b :: st) M :=
  fun hk H locs ls hl hP hS => va_slen X.1 X.2.1 hX hbl hbA hS hd (k hk H locs ls hl hP hS)
theorem s_lawret (X : Cx p room_1 s m #[Value.ref b] c G M0 code own nL fr lo) (hr : meth.sig.returnType = ret) (hlk : meth.locks = false) (hB : LawB s0 d0 s b L xs G M0) (hd : decode code pc = .ok (.ireturn, 1)) : Sg p l e room_1 s m #[Value.ref b] below meth c (lw_Z below #[Value.ref b] s0) G M0 nL pc vs [.int 1] M := by
  intro hk H locs ls hl hP hS
  obtain ⟨-, -, -, hd0, hs, hn, hu⟩ := hB
  obtain ⟨-, -, h3, h4⟩ := hk
  simp only [CAP, CAPU] at h3 h4
  have hz := X.2.2.2.2.2.2.2.2
  rw [hn] at hz
  subst hs
  refine W.widen (k := 600000) (n := 7302250) (by omega) (by omega) (va_forget (fun q hq => ?_) (lw_ret hd0 X.1 X.2.1 hr hlk hd))
  have h5 := hS.2.2 q hq
  have h6 : gB G ≤ q.base := h5
  omega
end
theorem dL_law_0 : decode cL_law 0 = .ok (.new 7, 3) := by decide +kernel
theorem dL_law_3 : decode cL_law 3 = .ok (.dup, 1) := by decide +kernel
theorem dL_law_4 : decode cL_law 4 = .ok (.invokespecial 9, 3) := by decide +kernel
theorem dL_law_7 : decode cL_law 7 = .ok (.astore_n 1, 1) := by decide +kernel
theorem dL_law_8 : decode cL_law 8 = .ok (.new 10, 3) := by decide +kernel
theorem dL_law_11 : decode cL_law 11 = .ok (.dup, 1) := by decide +kernel
theorem dL_law_12 : decode cL_law 12 = .ok (.invokespecial 12, 3) := by decide +kernel
theorem dL_law_15 : decode cL_law 15 = .ok (.astore_n 2, 1) := by decide +kernel
theorem dL_law_16 : decode cL_law 16 = .ok (.iconst 0, 1) := by decide +kernel
theorem dL_law_17 : decode cL_law 17 = .ok (.istore_n 3, 1) := by decide +kernel
theorem dL_law_18 : decode cL_law 18 = .ok (.iload_n 3, 1) := by decide +kernel
theorem dL_law_19 : decode cL_law 19 = .ok (.aload_n 0, 1) := by decide +kernel
theorem dL_law_20 : decode cL_law 20 = .ok (.arraylength, 1) := by decide +kernel
theorem dL_law_21 : decode cL_law 21 = .ok (.iconst 4, 1) := by decide +kernel
theorem dL_law_22 : decode cL_law 22 = .ok (.isub, 1) := by decide +kernel
theorem dL_law_23 : decode cL_law 23 = .ok (.if_icmp .gt 1555, 3) := by decide +kernel
theorem dL_law_26 : decode cL_law 26 = .ok (.aload_n 0, 1) := by decide +kernel
theorem dL_law_27 : decode cL_law 27 = .ok (.iload_n 3, 1) := by decide +kernel
theorem dL_law_28 : decode cL_law 28 = .ok (.iaload, 1) := by decide +kernel
theorem dL_law_29 : decode cL_law 29 = .ok (.bipush 63, 2) := by decide +kernel
theorem dL_law_31 : decode cL_law 31 = .ok (.iand, 1) := by decide +kernel
theorem dL_law_32 : decode cL_law 32 = .ok (.tableswitch 1540 0 48 #[212, 235, 258, 281, 304, 327, 350, 383, 416, 449, 482, 495, 518, 541, 564, 577, 600, 633, 656, 679, 692, 705, 728, 751, 784, 807, 830, 853, 886, 919, 962, 1005, 1028, 1051, 1074, 1107, 1130, 1153, 1176, 1209, 1242, 1275, 1308, 1351, 1394, 1437, 1470, 1513, 1526], 212) := by decide +kernel
theorem dL_law_244 : decode cL_law 244 = .ok (.aload_n 1, 1) := by decide +kernel
theorem dL_law_245 : decode cL_law 245 = .ok (.aload_n 0, 1) := by decide +kernel
theorem dL_law_246 : decode cL_law 246 = .ok (.iload_n 3, 1) := by decide +kernel
theorem dL_law_247 : decode cL_law 247 = .ok (.iconst 1, 1) := by decide +kernel
theorem dL_law_248 : decode cL_law 248 = .ok (.iadd, 1) := by decide +kernel
theorem dL_law_249 : decode cL_law 249 = .ok (.iaload, 1) := by decide +kernel
theorem dL_law_250 : decode cL_law 250 = .ok (.invokevirtual 13, 3) := by decide +kernel
theorem dL_law_253 : decode cL_law 253 = .ok (.aload_n 2, 1) := by decide +kernel
theorem dL_law_254 : decode cL_law 254 = .ok (.aload_n 0, 1) := by decide +kernel
theorem dL_law_255 : decode cL_law 255 = .ok (.iload_n 3, 1) := by decide +kernel
theorem dL_law_256 : decode cL_law 256 = .ok (.iconst 1, 1) := by decide +kernel
theorem dL_law_257 : decode cL_law 257 = .ok (.iadd, 1) := by decide +kernel
theorem dL_law_258 : decode cL_law 258 = .ok (.iaload, 1) := by decide +kernel
theorem dL_law_259 : decode cL_law 259 = .ok (.invokevirtual 17, 3) := by decide +kernel
theorem dL_law_262 : decode cL_law 262 = .ok (.if_icmp .eq 1310, 3) := by decide +kernel
theorem dL_law_265 : decode cL_law 265 = .ok (.iconst 0, 1) := by decide +kernel
theorem dL_law_266 : decode cL_law 266 = .ok (.ireturn, 1) := by decide +kernel
theorem dL_law_267 : decode cL_law 267 = .ok (.aload_n 1, 1) := by decide +kernel
theorem dL_law_268 : decode cL_law 268 = .ok (.aload_n 0, 1) := by decide +kernel
theorem dL_law_269 : decode cL_law 269 = .ok (.iload_n 3, 1) := by decide +kernel
theorem dL_law_270 : decode cL_law 270 = .ok (.iconst 1, 1) := by decide +kernel
theorem dL_law_271 : decode cL_law 271 = .ok (.iadd, 1) := by decide +kernel
theorem dL_law_272 : decode cL_law 272 = .ok (.iaload, 1) := by decide +kernel
theorem dL_law_273 : decode cL_law 273 = .ok (.invokevirtual 18, 3) := by decide +kernel
theorem dL_law_276 : decode cL_law 276 = .ok (.aload_n 2, 1) := by decide +kernel
theorem dL_law_277 : decode cL_law 277 = .ok (.aload_n 0, 1) := by decide +kernel
theorem dL_law_278 : decode cL_law 278 = .ok (.iload_n 3, 1) := by decide +kernel
theorem dL_law_279 : decode cL_law 279 = .ok (.iconst 1, 1) := by decide +kernel
theorem dL_law_280 : decode cL_law 280 = .ok (.iadd, 1) := by decide +kernel
theorem dL_law_281 : decode cL_law 281 = .ok (.iaload, 1) := by decide +kernel
theorem dL_law_282 : decode cL_law 282 = .ok (.invokevirtual 21, 3) := by decide +kernel
theorem dL_law_285 : decode cL_law 285 = .ok (.if_icmp .eq 1287, 3) := by decide +kernel
theorem dL_law_288 : decode cL_law 288 = .ok (.iconst 0, 1) := by decide +kernel
theorem dL_law_289 : decode cL_law 289 = .ok (.ireturn, 1) := by decide +kernel
theorem dL_law_290 : decode cL_law 290 = .ok (.aload_n 1, 1) := by decide +kernel
theorem dL_law_291 : decode cL_law 291 = .ok (.aload_n 0, 1) := by decide +kernel
theorem dL_law_292 : decode cL_law 292 = .ok (.iload_n 3, 1) := by decide +kernel
theorem dL_law_293 : decode cL_law 293 = .ok (.iconst 1, 1) := by decide +kernel
theorem dL_law_294 : decode cL_law 294 = .ok (.iadd, 1) := by decide +kernel
theorem dL_law_295 : decode cL_law 295 = .ok (.iaload, 1) := by decide +kernel
theorem dL_law_296 : decode cL_law 296 = .ok (.invokevirtual 22, 3) := by decide +kernel
theorem dL_law_299 : decode cL_law 299 = .ok (.aload_n 2, 1) := by decide +kernel
theorem dL_law_300 : decode cL_law 300 = .ok (.aload_n 0, 1) := by decide +kernel
theorem dL_law_301 : decode cL_law 301 = .ok (.iload_n 3, 1) := by decide +kernel
theorem dL_law_302 : decode cL_law 302 = .ok (.iconst 1, 1) := by decide +kernel
theorem dL_law_303 : decode cL_law 303 = .ok (.iadd, 1) := by decide +kernel
theorem dL_law_304 : decode cL_law 304 = .ok (.iaload, 1) := by decide +kernel
theorem dL_law_305 : decode cL_law 305 = .ok (.invokevirtual 25, 3) := by decide +kernel
theorem dL_law_308 : decode cL_law 308 = .ok (.if_icmp .eq 1264, 3) := by decide +kernel
theorem dL_law_311 : decode cL_law 311 = .ok (.iconst 0, 1) := by decide +kernel
theorem dL_law_312 : decode cL_law 312 = .ok (.ireturn, 1) := by decide +kernel
theorem dL_law_313 : decode cL_law 313 = .ok (.aload_n 1, 1) := by decide +kernel
theorem dL_law_314 : decode cL_law 314 = .ok (.aload_n 0, 1) := by decide +kernel
theorem dL_law_315 : decode cL_law 315 = .ok (.iload_n 3, 1) := by decide +kernel
theorem dL_law_316 : decode cL_law 316 = .ok (.iconst 1, 1) := by decide +kernel
theorem dL_law_317 : decode cL_law 317 = .ok (.iadd, 1) := by decide +kernel
theorem dL_law_318 : decode cL_law 318 = .ok (.iaload, 1) := by decide +kernel
theorem dL_law_319 : decode cL_law 319 = .ok (.invokevirtual 26, 3) := by decide +kernel
theorem dL_law_322 : decode cL_law 322 = .ok (.aload_n 2, 1) := by decide +kernel
theorem dL_law_323 : decode cL_law 323 = .ok (.aload_n 0, 1) := by decide +kernel
theorem dL_law_324 : decode cL_law 324 = .ok (.iload_n 3, 1) := by decide +kernel
theorem dL_law_325 : decode cL_law 325 = .ok (.iconst 1, 1) := by decide +kernel
theorem dL_law_326 : decode cL_law 326 = .ok (.iadd, 1) := by decide +kernel
theorem dL_law_327 : decode cL_law 327 = .ok (.iaload, 1) := by decide +kernel
theorem dL_law_328 : decode cL_law 328 = .ok (.invokevirtual 29, 3) := by decide +kernel
theorem dL_law_331 : decode cL_law 331 = .ok (.if_icmp .eq 1241, 3) := by decide +kernel
theorem dL_law_334 : decode cL_law 334 = .ok (.iconst 0, 1) := by decide +kernel
theorem dL_law_335 : decode cL_law 335 = .ok (.ireturn, 1) := by decide +kernel
theorem dL_law_336 : decode cL_law 336 = .ok (.aload_n 1, 1) := by decide +kernel
theorem dL_law_337 : decode cL_law 337 = .ok (.aload_n 0, 1) := by decide +kernel
theorem dL_law_338 : decode cL_law 338 = .ok (.iload_n 3, 1) := by decide +kernel
theorem dL_law_339 : decode cL_law 339 = .ok (.iconst 1, 1) := by decide +kernel
theorem dL_law_340 : decode cL_law 340 = .ok (.iadd, 1) := by decide +kernel
theorem dL_law_341 : decode cL_law 341 = .ok (.iaload, 1) := by decide +kernel
theorem dL_law_342 : decode cL_law 342 = .ok (.invokevirtual 30, 3) := by decide +kernel
theorem dL_law_345 : decode cL_law 345 = .ok (.aload_n 2, 1) := by decide +kernel
theorem dL_law_346 : decode cL_law 346 = .ok (.aload_n 0, 1) := by decide +kernel
theorem dL_law_347 : decode cL_law 347 = .ok (.iload_n 3, 1) := by decide +kernel
theorem dL_law_348 : decode cL_law 348 = .ok (.iconst 1, 1) := by decide +kernel
theorem dL_law_349 : decode cL_law 349 = .ok (.iadd, 1) := by decide +kernel
theorem dL_law_350 : decode cL_law 350 = .ok (.iaload, 1) := by decide +kernel
theorem dL_law_351 : decode cL_law 351 = .ok (.invokevirtual 33, 3) := by decide +kernel
theorem dL_law_354 : decode cL_law 354 = .ok (.if_icmp .eq 1218, 3) := by decide +kernel
theorem dL_law_357 : decode cL_law 357 = .ok (.iconst 0, 1) := by decide +kernel
theorem dL_law_358 : decode cL_law 358 = .ok (.ireturn, 1) := by decide +kernel
theorem dL_law_359 : decode cL_law 359 = .ok (.aload_n 1, 1) := by decide +kernel
theorem dL_law_360 : decode cL_law 360 = .ok (.aload_n 0, 1) := by decide +kernel
theorem dL_law_361 : decode cL_law 361 = .ok (.iload_n 3, 1) := by decide +kernel
theorem dL_law_362 : decode cL_law 362 = .ok (.iconst 1, 1) := by decide +kernel
theorem dL_law_363 : decode cL_law 363 = .ok (.iadd, 1) := by decide +kernel
theorem dL_law_364 : decode cL_law 364 = .ok (.iaload, 1) := by decide +kernel
theorem dL_law_365 : decode cL_law 365 = .ok (.invokevirtual 34, 3) := by decide +kernel
theorem dL_law_368 : decode cL_law 368 = .ok (.aload_n 2, 1) := by decide +kernel
theorem dL_law_369 : decode cL_law 369 = .ok (.aload_n 0, 1) := by decide +kernel
theorem dL_law_370 : decode cL_law 370 = .ok (.iload_n 3, 1) := by decide +kernel
theorem dL_law_371 : decode cL_law 371 = .ok (.iconst 1, 1) := by decide +kernel
theorem dL_law_372 : decode cL_law 372 = .ok (.iadd, 1) := by decide +kernel
theorem dL_law_373 : decode cL_law 373 = .ok (.iaload, 1) := by decide +kernel
theorem dL_law_374 : decode cL_law 374 = .ok (.invokevirtual 37, 3) := by decide +kernel
theorem dL_law_377 : decode cL_law 377 = .ok (.if_icmp .eq 1195, 3) := by decide +kernel
theorem dL_law_380 : decode cL_law 380 = .ok (.iconst 0, 1) := by decide +kernel
theorem dL_law_381 : decode cL_law 381 = .ok (.ireturn, 1) := by decide +kernel
theorem dL_law_382 : decode cL_law 382 = .ok (.aload_n 1, 1) := by decide +kernel
theorem dL_law_383 : decode cL_law 383 = .ok (.aload_n 0, 1) := by decide +kernel
theorem dL_law_384 : decode cL_law 384 = .ok (.iload_n 3, 1) := by decide +kernel
theorem dL_law_385 : decode cL_law 385 = .ok (.iconst 1, 1) := by decide +kernel
theorem dL_law_386 : decode cL_law 386 = .ok (.iadd, 1) := by decide +kernel
theorem dL_law_387 : decode cL_law 387 = .ok (.iaload, 1) := by decide +kernel
theorem dL_law_388 : decode cL_law 388 = .ok (.aload_n 0, 1) := by decide +kernel
theorem dL_law_389 : decode cL_law 389 = .ok (.iload_n 3, 1) := by decide +kernel
theorem dL_law_390 : decode cL_law 390 = .ok (.iconst 2, 1) := by decide +kernel
theorem dL_law_391 : decode cL_law 391 = .ok (.iadd, 1) := by decide +kernel
theorem dL_law_392 : decode cL_law 392 = .ok (.iaload, 1) := by decide +kernel
theorem dL_law_393 : decode cL_law 393 = .ok (.invokevirtual 38, 3) := by decide +kernel
theorem dL_law_396 : decode cL_law 396 = .ok (.aload_n 2, 1) := by decide +kernel
theorem dL_law_397 : decode cL_law 397 = .ok (.aload_n 0, 1) := by decide +kernel
theorem dL_law_398 : decode cL_law 398 = .ok (.iload_n 3, 1) := by decide +kernel
theorem dL_law_399 : decode cL_law 399 = .ok (.iconst 1, 1) := by decide +kernel
theorem dL_law_400 : decode cL_law 400 = .ok (.iadd, 1) := by decide +kernel
theorem dL_law_401 : decode cL_law 401 = .ok (.iaload, 1) := by decide +kernel
theorem dL_law_402 : decode cL_law 402 = .ok (.aload_n 0, 1) := by decide +kernel
theorem dL_law_403 : decode cL_law 403 = .ok (.iload_n 3, 1) := by decide +kernel
theorem dL_law_404 : decode cL_law 404 = .ok (.iconst 2, 1) := by decide +kernel
theorem dL_law_405 : decode cL_law 405 = .ok (.iadd, 1) := by decide +kernel
theorem dL_law_406 : decode cL_law 406 = .ok (.iaload, 1) := by decide +kernel
theorem dL_law_407 : decode cL_law 407 = .ok (.invokevirtual 42, 3) := by decide +kernel
theorem dL_law_410 : decode cL_law 410 = .ok (.if_icmp .eq 1162, 3) := by decide +kernel
theorem dL_law_413 : decode cL_law 413 = .ok (.iconst 0, 1) := by decide +kernel
theorem dL_law_414 : decode cL_law 414 = .ok (.ireturn, 1) := by decide +kernel
theorem dL_law_415 : decode cL_law 415 = .ok (.aload_n 1, 1) := by decide +kernel
theorem dL_law_416 : decode cL_law 416 = .ok (.aload_n 0, 1) := by decide +kernel
theorem dL_law_417 : decode cL_law 417 = .ok (.iload_n 3, 1) := by decide +kernel
theorem dL_law_418 : decode cL_law 418 = .ok (.iconst 1, 1) := by decide +kernel
theorem dL_law_419 : decode cL_law 419 = .ok (.iadd, 1) := by decide +kernel
theorem dL_law_420 : decode cL_law 420 = .ok (.iaload, 1) := by decide +kernel
theorem dL_law_421 : decode cL_law 421 = .ok (.aload_n 0, 1) := by decide +kernel
theorem dL_law_422 : decode cL_law 422 = .ok (.iload_n 3, 1) := by decide +kernel
theorem dL_law_423 : decode cL_law 423 = .ok (.iconst 2, 1) := by decide +kernel
theorem dL_law_424 : decode cL_law 424 = .ok (.iadd, 1) := by decide +kernel
theorem dL_law_425 : decode cL_law 425 = .ok (.iaload, 1) := by decide +kernel
theorem dL_law_426 : decode cL_law 426 = .ok (.invokevirtual 43, 3) := by decide +kernel
theorem dL_law_429 : decode cL_law 429 = .ok (.aload_n 2, 1) := by decide +kernel
theorem dL_law_430 : decode cL_law 430 = .ok (.aload_n 0, 1) := by decide +kernel
theorem dL_law_431 : decode cL_law 431 = .ok (.iload_n 3, 1) := by decide +kernel
theorem dL_law_432 : decode cL_law 432 = .ok (.iconst 1, 1) := by decide +kernel
theorem dL_law_433 : decode cL_law 433 = .ok (.iadd, 1) := by decide +kernel
theorem dL_law_434 : decode cL_law 434 = .ok (.iaload, 1) := by decide +kernel
theorem dL_law_435 : decode cL_law 435 = .ok (.aload_n 0, 1) := by decide +kernel
theorem dL_law_436 : decode cL_law 436 = .ok (.iload_n 3, 1) := by decide +kernel
theorem dL_law_437 : decode cL_law 437 = .ok (.iconst 2, 1) := by decide +kernel
theorem dL_law_438 : decode cL_law 438 = .ok (.iadd, 1) := by decide +kernel
theorem dL_law_439 : decode cL_law 439 = .ok (.iaload, 1) := by decide +kernel
theorem dL_law_440 : decode cL_law 440 = .ok (.invokevirtual 46, 3) := by decide +kernel
theorem dL_law_443 : decode cL_law 443 = .ok (.if_icmp .eq 1129, 3) := by decide +kernel
theorem dL_law_446 : decode cL_law 446 = .ok (.iconst 0, 1) := by decide +kernel
theorem dL_law_447 : decode cL_law 447 = .ok (.ireturn, 1) := by decide +kernel
theorem dL_law_448 : decode cL_law 448 = .ok (.aload_n 1, 1) := by decide +kernel
theorem dL_law_449 : decode cL_law 449 = .ok (.aload_n 0, 1) := by decide +kernel
theorem dL_law_450 : decode cL_law 450 = .ok (.iload_n 3, 1) := by decide +kernel
theorem dL_law_451 : decode cL_law 451 = .ok (.iconst 1, 1) := by decide +kernel
theorem dL_law_452 : decode cL_law 452 = .ok (.iadd, 1) := by decide +kernel
theorem dL_law_453 : decode cL_law 453 = .ok (.iaload, 1) := by decide +kernel
theorem dL_law_454 : decode cL_law 454 = .ok (.aload_n 0, 1) := by decide +kernel
theorem dL_law_455 : decode cL_law 455 = .ok (.iload_n 3, 1) := by decide +kernel
theorem dL_law_456 : decode cL_law 456 = .ok (.iconst 2, 1) := by decide +kernel
theorem dL_law_457 : decode cL_law 457 = .ok (.iadd, 1) := by decide +kernel
theorem dL_law_458 : decode cL_law 458 = .ok (.iaload, 1) := by decide +kernel
theorem dL_law_459 : decode cL_law 459 = .ok (.invokevirtual 47, 3) := by decide +kernel
theorem dL_law_462 : decode cL_law 462 = .ok (.aload_n 2, 1) := by decide +kernel
theorem dL_law_463 : decode cL_law 463 = .ok (.aload_n 0, 1) := by decide +kernel
theorem dL_law_464 : decode cL_law 464 = .ok (.iload_n 3, 1) := by decide +kernel
theorem dL_law_465 : decode cL_law 465 = .ok (.iconst 1, 1) := by decide +kernel
theorem dL_law_466 : decode cL_law 466 = .ok (.iadd, 1) := by decide +kernel
theorem dL_law_467 : decode cL_law 467 = .ok (.iaload, 1) := by decide +kernel
theorem dL_law_468 : decode cL_law 468 = .ok (.aload_n 0, 1) := by decide +kernel
theorem dL_law_469 : decode cL_law 469 = .ok (.iload_n 3, 1) := by decide +kernel
theorem dL_law_470 : decode cL_law 470 = .ok (.iconst 2, 1) := by decide +kernel
theorem dL_law_471 : decode cL_law 471 = .ok (.iadd, 1) := by decide +kernel
theorem dL_law_472 : decode cL_law 472 = .ok (.iaload, 1) := by decide +kernel
theorem dL_law_473 : decode cL_law 473 = .ok (.invokevirtual 50, 3) := by decide +kernel
theorem dL_law_476 : decode cL_law 476 = .ok (.if_icmp .eq 1096, 3) := by decide +kernel
theorem dL_law_479 : decode cL_law 479 = .ok (.iconst 0, 1) := by decide +kernel
theorem dL_law_480 : decode cL_law 480 = .ok (.ireturn, 1) := by decide +kernel
theorem dL_law_481 : decode cL_law 481 = .ok (.aload_n 1, 1) := by decide +kernel
theorem dL_law_482 : decode cL_law 482 = .ok (.aload_n 0, 1) := by decide +kernel
theorem dL_law_483 : decode cL_law 483 = .ok (.iload_n 3, 1) := by decide +kernel
theorem dL_law_484 : decode cL_law 484 = .ok (.iconst 1, 1) := by decide +kernel
theorem dL_law_485 : decode cL_law 485 = .ok (.iadd, 1) := by decide +kernel
theorem dL_law_486 : decode cL_law 486 = .ok (.iaload, 1) := by decide +kernel
theorem dL_law_487 : decode cL_law 487 = .ok (.aload_n 0, 1) := by decide +kernel
theorem dL_law_488 : decode cL_law 488 = .ok (.iload_n 3, 1) := by decide +kernel
theorem dL_law_489 : decode cL_law 489 = .ok (.iconst 2, 1) := by decide +kernel
theorem dL_law_490 : decode cL_law 490 = .ok (.iadd, 1) := by decide +kernel
theorem dL_law_491 : decode cL_law 491 = .ok (.iaload, 1) := by decide +kernel
theorem dL_law_492 : decode cL_law 492 = .ok (.invokevirtual 51, 3) := by decide +kernel
theorem dL_law_495 : decode cL_law 495 = .ok (.aload_n 2, 1) := by decide +kernel
theorem dL_law_496 : decode cL_law 496 = .ok (.aload_n 0, 1) := by decide +kernel
theorem dL_law_497 : decode cL_law 497 = .ok (.iload_n 3, 1) := by decide +kernel
theorem dL_law_498 : decode cL_law 498 = .ok (.iconst 1, 1) := by decide +kernel
theorem dL_law_499 : decode cL_law 499 = .ok (.iadd, 1) := by decide +kernel
theorem dL_law_500 : decode cL_law 500 = .ok (.iaload, 1) := by decide +kernel
theorem dL_law_501 : decode cL_law 501 = .ok (.aload_n 0, 1) := by decide +kernel
theorem dL_law_502 : decode cL_law 502 = .ok (.iload_n 3, 1) := by decide +kernel
theorem dL_law_503 : decode cL_law 503 = .ok (.iconst 2, 1) := by decide +kernel
theorem dL_law_504 : decode cL_law 504 = .ok (.iadd, 1) := by decide +kernel
theorem dL_law_505 : decode cL_law 505 = .ok (.iaload, 1) := by decide +kernel
theorem dL_law_506 : decode cL_law 506 = .ok (.invokevirtual 54, 3) := by decide +kernel
theorem dL_law_509 : decode cL_law 509 = .ok (.if_icmp .eq 1063, 3) := by decide +kernel
theorem dL_law_512 : decode cL_law 512 = .ok (.iconst 0, 1) := by decide +kernel
theorem dL_law_513 : decode cL_law 513 = .ok (.ireturn, 1) := by decide +kernel
theorem dL_law_514 : decode cL_law 514 = .ok (.aload_n 1, 1) := by decide +kernel
theorem dL_law_515 : decode cL_law 515 = .ok (.invokevirtual 55, 3) := by decide +kernel
theorem dL_law_518 : decode cL_law 518 = .ok (.aload_n 2, 1) := by decide +kernel
theorem dL_law_519 : decode cL_law 519 = .ok (.invokevirtual 59, 3) := by decide +kernel
theorem dL_law_522 : decode cL_law 522 = .ok (.if_icmp .eq 1050, 3) := by decide +kernel
theorem dL_law_525 : decode cL_law 525 = .ok (.iconst 0, 1) := by decide +kernel
theorem dL_law_526 : decode cL_law 526 = .ok (.ireturn, 1) := by decide +kernel
theorem dL_law_527 : decode cL_law 527 = .ok (.aload_n 1, 1) := by decide +kernel
theorem dL_law_528 : decode cL_law 528 = .ok (.aload_n 0, 1) := by decide +kernel
theorem dL_law_529 : decode cL_law 529 = .ok (.iload_n 3, 1) := by decide +kernel
theorem dL_law_530 : decode cL_law 530 = .ok (.iconst 1, 1) := by decide +kernel
theorem dL_law_531 : decode cL_law 531 = .ok (.iadd, 1) := by decide +kernel
theorem dL_law_532 : decode cL_law 532 = .ok (.iaload, 1) := by decide +kernel
theorem dL_law_533 : decode cL_law 533 = .ok (.invokevirtual 60, 3) := by decide +kernel
theorem dL_law_536 : decode cL_law 536 = .ok (.aload_n 2, 1) := by decide +kernel
theorem dL_law_537 : decode cL_law 537 = .ok (.aload_n 0, 1) := by decide +kernel
theorem dL_law_538 : decode cL_law 538 = .ok (.iload_n 3, 1) := by decide +kernel
theorem dL_law_539 : decode cL_law 539 = .ok (.iconst 1, 1) := by decide +kernel
theorem dL_law_540 : decode cL_law 540 = .ok (.iadd, 1) := by decide +kernel
theorem dL_law_541 : decode cL_law 541 = .ok (.iaload, 1) := by decide +kernel
theorem dL_law_542 : decode cL_law 542 = .ok (.invokevirtual 63, 3) := by decide +kernel
theorem dL_law_545 : decode cL_law 545 = .ok (.if_icmp .eq 1027, 3) := by decide +kernel
theorem dL_law_548 : decode cL_law 548 = .ok (.iconst 0, 1) := by decide +kernel
theorem dL_law_549 : decode cL_law 549 = .ok (.ireturn, 1) := by decide +kernel
theorem dL_law_550 : decode cL_law 550 = .ok (.aload_n 1, 1) := by decide +kernel
theorem dL_law_551 : decode cL_law 551 = .ok (.aload_n 0, 1) := by decide +kernel
theorem dL_law_552 : decode cL_law 552 = .ok (.iload_n 3, 1) := by decide +kernel
theorem dL_law_553 : decode cL_law 553 = .ok (.iconst 1, 1) := by decide +kernel
theorem dL_law_554 : decode cL_law 554 = .ok (.iadd, 1) := by decide +kernel
theorem dL_law_555 : decode cL_law 555 = .ok (.iaload, 1) := by decide +kernel
theorem dL_law_556 : decode cL_law 556 = .ok (.invokevirtual 64, 3) := by decide +kernel
theorem dL_law_559 : decode cL_law 559 = .ok (.aload_n 2, 1) := by decide +kernel
theorem dL_law_560 : decode cL_law 560 = .ok (.aload_n 0, 1) := by decide +kernel
theorem dL_law_561 : decode cL_law 561 = .ok (.iload_n 3, 1) := by decide +kernel
theorem dL_law_562 : decode cL_law 562 = .ok (.iconst 1, 1) := by decide +kernel
theorem dL_law_563 : decode cL_law 563 = .ok (.iadd, 1) := by decide +kernel
theorem dL_law_564 : decode cL_law 564 = .ok (.iaload, 1) := by decide +kernel
theorem dL_law_565 : decode cL_law 565 = .ok (.invokevirtual 68, 3) := by decide +kernel
theorem dL_law_568 : decode cL_law 568 = .ok (.if_icmp .eq 1004, 3) := by decide +kernel
theorem dL_law_571 : decode cL_law 571 = .ok (.iconst 0, 1) := by decide +kernel
theorem dL_law_572 : decode cL_law 572 = .ok (.ireturn, 1) := by decide +kernel
theorem dL_law_573 : decode cL_law 573 = .ok (.aload_n 1, 1) := by decide +kernel
theorem dL_law_574 : decode cL_law 574 = .ok (.aload_n 0, 1) := by decide +kernel
theorem dL_law_575 : decode cL_law 575 = .ok (.iload_n 3, 1) := by decide +kernel
theorem dL_law_576 : decode cL_law 576 = .ok (.iconst 1, 1) := by decide +kernel
theorem dL_law_577 : decode cL_law 577 = .ok (.iadd, 1) := by decide +kernel
theorem dL_law_578 : decode cL_law 578 = .ok (.iaload, 1) := by decide +kernel
theorem dL_law_579 : decode cL_law 579 = .ok (.invokevirtual 69, 3) := by decide +kernel
theorem dL_law_582 : decode cL_law 582 = .ok (.aload_n 2, 1) := by decide +kernel
theorem dL_law_583 : decode cL_law 583 = .ok (.aload_n 0, 1) := by decide +kernel
theorem dL_law_584 : decode cL_law 584 = .ok (.iload_n 3, 1) := by decide +kernel
theorem dL_law_585 : decode cL_law 585 = .ok (.iconst 1, 1) := by decide +kernel
theorem dL_law_586 : decode cL_law 586 = .ok (.iadd, 1) := by decide +kernel
theorem dL_law_587 : decode cL_law 587 = .ok (.iaload, 1) := by decide +kernel
theorem dL_law_588 : decode cL_law 588 = .ok (.invokevirtual 72, 3) := by decide +kernel
theorem dL_law_591 : decode cL_law 591 = .ok (.if_icmp .eq 981, 3) := by decide +kernel
theorem dL_law_594 : decode cL_law 594 = .ok (.iconst 0, 1) := by decide +kernel
theorem dL_law_595 : decode cL_law 595 = .ok (.ireturn, 1) := by decide +kernel
theorem dL_law_596 : decode cL_law 596 = .ok (.aload_n 1, 1) := by decide +kernel
theorem dL_law_597 : decode cL_law 597 = .ok (.invokevirtual 73, 3) := by decide +kernel
theorem dL_law_600 : decode cL_law 600 = .ok (.aload_n 2, 1) := by decide +kernel
theorem dL_law_601 : decode cL_law 601 = .ok (.invokevirtual 76, 3) := by decide +kernel
theorem dL_law_604 : decode cL_law 604 = .ok (.if_icmp .eq 968, 3) := by decide +kernel
theorem dL_law_607 : decode cL_law 607 = .ok (.iconst 0, 1) := by decide +kernel
theorem dL_law_608 : decode cL_law 608 = .ok (.ireturn, 1) := by decide +kernel
theorem dL_law_609 : decode cL_law 609 = .ok (.aload_n 1, 1) := by decide +kernel
theorem dL_law_610 : decode cL_law 610 = .ok (.aload_n 0, 1) := by decide +kernel
theorem dL_law_611 : decode cL_law 611 = .ok (.iload_n 3, 1) := by decide +kernel
theorem dL_law_612 : decode cL_law 612 = .ok (.iconst 1, 1) := by decide +kernel
theorem dL_law_613 : decode cL_law 613 = .ok (.iadd, 1) := by decide +kernel
theorem dL_law_614 : decode cL_law 614 = .ok (.iaload, 1) := by decide +kernel
theorem dL_law_615 : decode cL_law 615 = .ok (.invokevirtual 77, 3) := by decide +kernel
theorem dL_law_618 : decode cL_law 618 = .ok (.aload_n 2, 1) := by decide +kernel
theorem dL_law_619 : decode cL_law 619 = .ok (.aload_n 0, 1) := by decide +kernel
theorem dL_law_620 : decode cL_law 620 = .ok (.iload_n 3, 1) := by decide +kernel
theorem dL_law_621 : decode cL_law 621 = .ok (.iconst 1, 1) := by decide +kernel
theorem dL_law_622 : decode cL_law 622 = .ok (.iadd, 1) := by decide +kernel
theorem dL_law_623 : decode cL_law 623 = .ok (.iaload, 1) := by decide +kernel
theorem dL_law_624 : decode cL_law 624 = .ok (.invokevirtual 80, 3) := by decide +kernel
theorem dL_law_627 : decode cL_law 627 = .ok (.if_icmp .eq 945, 3) := by decide +kernel
theorem dL_law_630 : decode cL_law 630 = .ok (.iconst 0, 1) := by decide +kernel
theorem dL_law_631 : decode cL_law 631 = .ok (.ireturn, 1) := by decide +kernel
theorem dL_law_632 : decode cL_law 632 = .ok (.aload_n 1, 1) := by decide +kernel
theorem dL_law_633 : decode cL_law 633 = .ok (.aload_n 0, 1) := by decide +kernel
theorem dL_law_634 : decode cL_law 634 = .ok (.iload_n 3, 1) := by decide +kernel
theorem dL_law_635 : decode cL_law 635 = .ok (.iconst 1, 1) := by decide +kernel
theorem dL_law_636 : decode cL_law 636 = .ok (.iadd, 1) := by decide +kernel
theorem dL_law_637 : decode cL_law 637 = .ok (.iaload, 1) := by decide +kernel
theorem dL_law_638 : decode cL_law 638 = .ok (.aload_n 0, 1) := by decide +kernel
theorem dL_law_639 : decode cL_law 639 = .ok (.iload_n 3, 1) := by decide +kernel
theorem dL_law_640 : decode cL_law 640 = .ok (.iconst 2, 1) := by decide +kernel
theorem dL_law_641 : decode cL_law 641 = .ok (.iadd, 1) := by decide +kernel
theorem dL_law_642 : decode cL_law 642 = .ok (.iaload, 1) := by decide +kernel
theorem dL_law_643 : decode cL_law 643 = .ok (.invokevirtual 81, 3) := by decide +kernel
theorem dL_law_646 : decode cL_law 646 = .ok (.aload_n 2, 1) := by decide +kernel
theorem dL_law_647 : decode cL_law 647 = .ok (.aload_n 0, 1) := by decide +kernel
theorem dL_law_648 : decode cL_law 648 = .ok (.iload_n 3, 1) := by decide +kernel
theorem dL_law_649 : decode cL_law 649 = .ok (.iconst 1, 1) := by decide +kernel
theorem dL_law_650 : decode cL_law 650 = .ok (.iadd, 1) := by decide +kernel
theorem dL_law_651 : decode cL_law 651 = .ok (.iaload, 1) := by decide +kernel
theorem dL_law_652 : decode cL_law 652 = .ok (.aload_n 0, 1) := by decide +kernel
theorem dL_law_653 : decode cL_law 653 = .ok (.iload_n 3, 1) := by decide +kernel
theorem dL_law_654 : decode cL_law 654 = .ok (.iconst 2, 1) := by decide +kernel
theorem dL_law_655 : decode cL_law 655 = .ok (.iadd, 1) := by decide +kernel
theorem dL_law_656 : decode cL_law 656 = .ok (.iaload, 1) := by decide +kernel
theorem dL_law_657 : decode cL_law 657 = .ok (.invokevirtual 84, 3) := by decide +kernel
theorem dL_law_660 : decode cL_law 660 = .ok (.if_icmp .eq 912, 3) := by decide +kernel
theorem dL_law_663 : decode cL_law 663 = .ok (.iconst 0, 1) := by decide +kernel
theorem dL_law_664 : decode cL_law 664 = .ok (.ireturn, 1) := by decide +kernel
theorem dL_law_665 : decode cL_law 665 = .ok (.aload_n 1, 1) := by decide +kernel
theorem dL_law_666 : decode cL_law 666 = .ok (.aload_n 0, 1) := by decide +kernel
theorem dL_law_667 : decode cL_law 667 = .ok (.iload_n 3, 1) := by decide +kernel
theorem dL_law_668 : decode cL_law 668 = .ok (.iconst 1, 1) := by decide +kernel
theorem dL_law_669 : decode cL_law 669 = .ok (.iadd, 1) := by decide +kernel
theorem dL_law_670 : decode cL_law 670 = .ok (.iaload, 1) := by decide +kernel
theorem dL_law_671 : decode cL_law 671 = .ok (.invokevirtual 85, 3) := by decide +kernel
theorem dL_law_674 : decode cL_law 674 = .ok (.aload_n 2, 1) := by decide +kernel
theorem dL_law_675 : decode cL_law 675 = .ok (.aload_n 0, 1) := by decide +kernel
theorem dL_law_676 : decode cL_law 676 = .ok (.iload_n 3, 1) := by decide +kernel
theorem dL_law_677 : decode cL_law 677 = .ok (.iconst 1, 1) := by decide +kernel
theorem dL_law_678 : decode cL_law 678 = .ok (.iadd, 1) := by decide +kernel
theorem dL_law_679 : decode cL_law 679 = .ok (.iaload, 1) := by decide +kernel
theorem dL_law_680 : decode cL_law 680 = .ok (.invokevirtual 88, 3) := by decide +kernel
theorem dL_law_683 : decode cL_law 683 = .ok (.if_icmp .eq 889, 3) := by decide +kernel
theorem dL_law_686 : decode cL_law 686 = .ok (.iconst 0, 1) := by decide +kernel
theorem dL_law_687 : decode cL_law 687 = .ok (.ireturn, 1) := by decide +kernel
theorem dL_law_688 : decode cL_law 688 = .ok (.aload_n 1, 1) := by decide +kernel
theorem dL_law_689 : decode cL_law 689 = .ok (.aload_n 0, 1) := by decide +kernel
theorem dL_law_690 : decode cL_law 690 = .ok (.iload_n 3, 1) := by decide +kernel
theorem dL_law_691 : decode cL_law 691 = .ok (.iconst 1, 1) := by decide +kernel
theorem dL_law_692 : decode cL_law 692 = .ok (.iadd, 1) := by decide +kernel
theorem dL_law_693 : decode cL_law 693 = .ok (.iaload, 1) := by decide +kernel
theorem dL_law_694 : decode cL_law 694 = .ok (.invokevirtual 89, 3) := by decide +kernel
theorem dL_law_697 : decode cL_law 697 = .ok (.aload_n 2, 1) := by decide +kernel
theorem dL_law_698 : decode cL_law 698 = .ok (.aload_n 0, 1) := by decide +kernel
theorem dL_law_699 : decode cL_law 699 = .ok (.iload_n 3, 1) := by decide +kernel
theorem dL_law_700 : decode cL_law 700 = .ok (.iconst 1, 1) := by decide +kernel
theorem dL_law_701 : decode cL_law 701 = .ok (.iadd, 1) := by decide +kernel
theorem dL_law_702 : decode cL_law 702 = .ok (.iaload, 1) := by decide +kernel
theorem dL_law_703 : decode cL_law 703 = .ok (.invokevirtual 92, 3) := by decide +kernel
theorem dL_law_706 : decode cL_law 706 = .ok (.if_icmp .eq 866, 3) := by decide +kernel
theorem dL_law_709 : decode cL_law 709 = .ok (.iconst 0, 1) := by decide +kernel
theorem dL_law_710 : decode cL_law 710 = .ok (.ireturn, 1) := by decide +kernel
theorem dL_law_711 : decode cL_law 711 = .ok (.aload_n 1, 1) := by decide +kernel
theorem dL_law_712 : decode cL_law 712 = .ok (.invokevirtual 93, 3) := by decide +kernel
theorem dL_law_715 : decode cL_law 715 = .ok (.aload_n 2, 1) := by decide +kernel
theorem dL_law_716 : decode cL_law 716 = .ok (.invokevirtual 97, 3) := by decide +kernel
theorem dL_law_719 : decode cL_law 719 = .ok (.if_icmp .eq 853, 3) := by decide +kernel
theorem dL_law_722 : decode cL_law 722 = .ok (.iconst 0, 1) := by decide +kernel
theorem dL_law_723 : decode cL_law 723 = .ok (.ireturn, 1) := by decide +kernel
theorem dL_law_724 : decode cL_law 724 = .ok (.aload_n 1, 1) := by decide +kernel
theorem dL_law_725 : decode cL_law 725 = .ok (.invokevirtual 98, 3) := by decide +kernel
theorem dL_law_728 : decode cL_law 728 = .ok (.aload_n 2, 1) := by decide +kernel
theorem dL_law_729 : decode cL_law 729 = .ok (.invokevirtual 101, 3) := by decide +kernel
theorem dL_law_732 : decode cL_law 732 = .ok (.if_icmp .eq 840, 3) := by decide +kernel
theorem dL_law_735 : decode cL_law 735 = .ok (.iconst 0, 1) := by decide +kernel
theorem dL_law_736 : decode cL_law 736 = .ok (.ireturn, 1) := by decide +kernel
theorem dL_law_737 : decode cL_law 737 = .ok (.aload_n 1, 1) := by decide +kernel
theorem dL_law_738 : decode cL_law 738 = .ok (.aload_n 0, 1) := by decide +kernel
theorem dL_law_739 : decode cL_law 739 = .ok (.iload_n 3, 1) := by decide +kernel
theorem dL_law_740 : decode cL_law 740 = .ok (.iconst 1, 1) := by decide +kernel
theorem dL_law_741 : decode cL_law 741 = .ok (.iadd, 1) := by decide +kernel
theorem dL_law_742 : decode cL_law 742 = .ok (.iaload, 1) := by decide +kernel
theorem dL_law_743 : decode cL_law 743 = .ok (.invokevirtual 102, 3) := by decide +kernel
theorem dL_law_746 : decode cL_law 746 = .ok (.aload_n 2, 1) := by decide +kernel
theorem dL_law_747 : decode cL_law 747 = .ok (.aload_n 0, 1) := by decide +kernel
theorem dL_law_748 : decode cL_law 748 = .ok (.iload_n 3, 1) := by decide +kernel
theorem dL_law_749 : decode cL_law 749 = .ok (.iconst 1, 1) := by decide +kernel
theorem dL_law_750 : decode cL_law 750 = .ok (.iadd, 1) := by decide +kernel
theorem dL_law_751 : decode cL_law 751 = .ok (.iaload, 1) := by decide +kernel
theorem dL_law_752 : decode cL_law 752 = .ok (.invokevirtual 105, 3) := by decide +kernel
theorem dL_law_755 : decode cL_law 755 = .ok (.if_icmp .eq 817, 3) := by decide +kernel
theorem dL_law_758 : decode cL_law 758 = .ok (.iconst 0, 1) := by decide +kernel
theorem dL_law_759 : decode cL_law 759 = .ok (.ireturn, 1) := by decide +kernel
theorem dL_law_760 : decode cL_law 760 = .ok (.aload_n 1, 1) := by decide +kernel
theorem dL_law_761 : decode cL_law 761 = .ok (.aload_n 0, 1) := by decide +kernel
theorem dL_law_762 : decode cL_law 762 = .ok (.iload_n 3, 1) := by decide +kernel
theorem dL_law_763 : decode cL_law 763 = .ok (.iconst 1, 1) := by decide +kernel
theorem dL_law_764 : decode cL_law 764 = .ok (.iadd, 1) := by decide +kernel
theorem dL_law_765 : decode cL_law 765 = .ok (.iaload, 1) := by decide +kernel
theorem dL_law_766 : decode cL_law 766 = .ok (.invokevirtual 106, 3) := by decide +kernel
theorem dL_law_769 : decode cL_law 769 = .ok (.aload_n 2, 1) := by decide +kernel
theorem dL_law_770 : decode cL_law 770 = .ok (.aload_n 0, 1) := by decide +kernel
theorem dL_law_771 : decode cL_law 771 = .ok (.iload_n 3, 1) := by decide +kernel
theorem dL_law_772 : decode cL_law 772 = .ok (.iconst 1, 1) := by decide +kernel
theorem dL_law_773 : decode cL_law 773 = .ok (.iadd, 1) := by decide +kernel
theorem dL_law_774 : decode cL_law 774 = .ok (.iaload, 1) := by decide +kernel
theorem dL_law_775 : decode cL_law 775 = .ok (.invokevirtual 109, 3) := by decide +kernel
theorem dL_law_778 : decode cL_law 778 = .ok (.if_icmp .eq 794, 3) := by decide +kernel
theorem dL_law_781 : decode cL_law 781 = .ok (.iconst 0, 1) := by decide +kernel
theorem dL_law_782 : decode cL_law 782 = .ok (.ireturn, 1) := by decide +kernel
theorem dL_law_783 : decode cL_law 783 = .ok (.aload_n 1, 1) := by decide +kernel
theorem dL_law_784 : decode cL_law 784 = .ok (.aload_n 0, 1) := by decide +kernel
theorem dL_law_785 : decode cL_law 785 = .ok (.iload_n 3, 1) := by decide +kernel
theorem dL_law_786 : decode cL_law 786 = .ok (.iconst 1, 1) := by decide +kernel
theorem dL_law_787 : decode cL_law 787 = .ok (.iadd, 1) := by decide +kernel
theorem dL_law_788 : decode cL_law 788 = .ok (.iaload, 1) := by decide +kernel
theorem dL_law_789 : decode cL_law 789 = .ok (.aload_n 0, 1) := by decide +kernel
theorem dL_law_790 : decode cL_law 790 = .ok (.iload_n 3, 1) := by decide +kernel
theorem dL_law_791 : decode cL_law 791 = .ok (.iconst 2, 1) := by decide +kernel
theorem dL_law_792 : decode cL_law 792 = .ok (.iadd, 1) := by decide +kernel
theorem dL_law_793 : decode cL_law 793 = .ok (.iaload, 1) := by decide +kernel
theorem dL_law_794 : decode cL_law 794 = .ok (.invokevirtual 110, 3) := by decide +kernel
theorem dL_law_797 : decode cL_law 797 = .ok (.aload_n 2, 1) := by decide +kernel
theorem dL_law_798 : decode cL_law 798 = .ok (.aload_n 0, 1) := by decide +kernel
theorem dL_law_799 : decode cL_law 799 = .ok (.iload_n 3, 1) := by decide +kernel
theorem dL_law_800 : decode cL_law 800 = .ok (.iconst 1, 1) := by decide +kernel
theorem dL_law_801 : decode cL_law 801 = .ok (.iadd, 1) := by decide +kernel
theorem dL_law_802 : decode cL_law 802 = .ok (.iaload, 1) := by decide +kernel
theorem dL_law_803 : decode cL_law 803 = .ok (.aload_n 0, 1) := by decide +kernel
theorem dL_law_804 : decode cL_law 804 = .ok (.iload_n 3, 1) := by decide +kernel
theorem dL_law_805 : decode cL_law 805 = .ok (.iconst 2, 1) := by decide +kernel
theorem dL_law_806 : decode cL_law 806 = .ok (.iadd, 1) := by decide +kernel
theorem dL_law_807 : decode cL_law 807 = .ok (.iaload, 1) := by decide +kernel
theorem dL_law_808 : decode cL_law 808 = .ok (.invokevirtual 113, 3) := by decide +kernel
theorem dL_law_811 : decode cL_law 811 = .ok (.if_icmp .eq 761, 3) := by decide +kernel
theorem dL_law_814 : decode cL_law 814 = .ok (.iconst 0, 1) := by decide +kernel
theorem dL_law_815 : decode cL_law 815 = .ok (.ireturn, 1) := by decide +kernel
theorem dL_law_816 : decode cL_law 816 = .ok (.aload_n 1, 1) := by decide +kernel
theorem dL_law_817 : decode cL_law 817 = .ok (.aload_n 0, 1) := by decide +kernel
theorem dL_law_818 : decode cL_law 818 = .ok (.iload_n 3, 1) := by decide +kernel
theorem dL_law_819 : decode cL_law 819 = .ok (.iconst 1, 1) := by decide +kernel
theorem dL_law_820 : decode cL_law 820 = .ok (.iadd, 1) := by decide +kernel
theorem dL_law_821 : decode cL_law 821 = .ok (.iaload, 1) := by decide +kernel
theorem dL_law_822 : decode cL_law 822 = .ok (.invokevirtual 114, 3) := by decide +kernel
theorem dL_law_825 : decode cL_law 825 = .ok (.aload_n 2, 1) := by decide +kernel
theorem dL_law_826 : decode cL_law 826 = .ok (.aload_n 0, 1) := by decide +kernel
theorem dL_law_827 : decode cL_law 827 = .ok (.iload_n 3, 1) := by decide +kernel
theorem dL_law_828 : decode cL_law 828 = .ok (.iconst 1, 1) := by decide +kernel
theorem dL_law_829 : decode cL_law 829 = .ok (.iadd, 1) := by decide +kernel
theorem dL_law_830 : decode cL_law 830 = .ok (.iaload, 1) := by decide +kernel
theorem dL_law_831 : decode cL_law 831 = .ok (.invokevirtual 117, 3) := by decide +kernel
theorem dL_law_834 : decode cL_law 834 = .ok (.if_icmp .eq 738, 3) := by decide +kernel
theorem dL_law_837 : decode cL_law 837 = .ok (.iconst 0, 1) := by decide +kernel
theorem dL_law_838 : decode cL_law 838 = .ok (.ireturn, 1) := by decide +kernel
theorem dL_law_839 : decode cL_law 839 = .ok (.aload_n 1, 1) := by decide +kernel
theorem dL_law_840 : decode cL_law 840 = .ok (.aload_n 0, 1) := by decide +kernel
theorem dL_law_841 : decode cL_law 841 = .ok (.iload_n 3, 1) := by decide +kernel
theorem dL_law_842 : decode cL_law 842 = .ok (.iconst 1, 1) := by decide +kernel
theorem dL_law_843 : decode cL_law 843 = .ok (.iadd, 1) := by decide +kernel
theorem dL_law_844 : decode cL_law 844 = .ok (.iaload, 1) := by decide +kernel
theorem dL_law_845 : decode cL_law 845 = .ok (.invokevirtual 118, 3) := by decide +kernel
theorem dL_law_848 : decode cL_law 848 = .ok (.aload_n 2, 1) := by decide +kernel
theorem dL_law_849 : decode cL_law 849 = .ok (.aload_n 0, 1) := by decide +kernel
theorem dL_law_850 : decode cL_law 850 = .ok (.iload_n 3, 1) := by decide +kernel
theorem dL_law_851 : decode cL_law 851 = .ok (.iconst 1, 1) := by decide +kernel
theorem dL_law_852 : decode cL_law 852 = .ok (.iadd, 1) := by decide +kernel
theorem dL_law_853 : decode cL_law 853 = .ok (.iaload, 1) := by decide +kernel
theorem dL_law_854 : decode cL_law 854 = .ok (.invokevirtual 121, 3) := by decide +kernel
theorem dL_law_857 : decode cL_law 857 = .ok (.if_icmp .eq 715, 3) := by decide +kernel
theorem dL_law_860 : decode cL_law 860 = .ok (.iconst 0, 1) := by decide +kernel
theorem dL_law_861 : decode cL_law 861 = .ok (.ireturn, 1) := by decide +kernel
theorem dL_law_862 : decode cL_law 862 = .ok (.aload_n 1, 1) := by decide +kernel
theorem dL_law_863 : decode cL_law 863 = .ok (.aload_n 0, 1) := by decide +kernel
theorem dL_law_864 : decode cL_law 864 = .ok (.iload_n 3, 1) := by decide +kernel
theorem dL_law_865 : decode cL_law 865 = .ok (.iconst 1, 1) := by decide +kernel
theorem dL_law_866 : decode cL_law 866 = .ok (.iadd, 1) := by decide +kernel
theorem dL_law_867 : decode cL_law 867 = .ok (.iaload, 1) := by decide +kernel
theorem dL_law_868 : decode cL_law 868 = .ok (.invokevirtual 122, 3) := by decide +kernel
theorem dL_law_871 : decode cL_law 871 = .ok (.aload_n 2, 1) := by decide +kernel
theorem dL_law_872 : decode cL_law 872 = .ok (.aload_n 0, 1) := by decide +kernel
theorem dL_law_873 : decode cL_law 873 = .ok (.iload_n 3, 1) := by decide +kernel
theorem dL_law_874 : decode cL_law 874 = .ok (.iconst 1, 1) := by decide +kernel
theorem dL_law_875 : decode cL_law 875 = .ok (.iadd, 1) := by decide +kernel
theorem dL_law_876 : decode cL_law 876 = .ok (.iaload, 1) := by decide +kernel
theorem dL_law_877 : decode cL_law 877 = .ok (.invokevirtual 125, 3) := by decide +kernel
theorem dL_law_880 : decode cL_law 880 = .ok (.if_icmp .eq 692, 3) := by decide +kernel
theorem dL_law_883 : decode cL_law 883 = .ok (.iconst 0, 1) := by decide +kernel
theorem dL_law_884 : decode cL_law 884 = .ok (.ireturn, 1) := by decide +kernel
theorem dL_law_885 : decode cL_law 885 = .ok (.aload_n 1, 1) := by decide +kernel
theorem dL_law_886 : decode cL_law 886 = .ok (.aload_n 0, 1) := by decide +kernel
theorem dL_law_887 : decode cL_law 887 = .ok (.iload_n 3, 1) := by decide +kernel
theorem dL_law_888 : decode cL_law 888 = .ok (.iconst 1, 1) := by decide +kernel
theorem dL_law_889 : decode cL_law 889 = .ok (.iadd, 1) := by decide +kernel
theorem dL_law_890 : decode cL_law 890 = .ok (.iaload, 1) := by decide +kernel
theorem dL_law_891 : decode cL_law 891 = .ok (.aload_n 0, 1) := by decide +kernel
theorem dL_law_892 : decode cL_law 892 = .ok (.iload_n 3, 1) := by decide +kernel
theorem dL_law_893 : decode cL_law 893 = .ok (.iconst 2, 1) := by decide +kernel
theorem dL_law_894 : decode cL_law 894 = .ok (.iadd, 1) := by decide +kernel
theorem dL_law_895 : decode cL_law 895 = .ok (.iaload, 1) := by decide +kernel
theorem dL_law_896 : decode cL_law 896 = .ok (.invokevirtual 126, 3) := by decide +kernel
theorem dL_law_899 : decode cL_law 899 = .ok (.aload_n 2, 1) := by decide +kernel
theorem dL_law_900 : decode cL_law 900 = .ok (.aload_n 0, 1) := by decide +kernel
theorem dL_law_901 : decode cL_law 901 = .ok (.iload_n 3, 1) := by decide +kernel
theorem dL_law_902 : decode cL_law 902 = .ok (.iconst 1, 1) := by decide +kernel
theorem dL_law_903 : decode cL_law 903 = .ok (.iadd, 1) := by decide +kernel
theorem dL_law_904 : decode cL_law 904 = .ok (.iaload, 1) := by decide +kernel
theorem dL_law_905 : decode cL_law 905 = .ok (.aload_n 0, 1) := by decide +kernel
theorem dL_law_906 : decode cL_law 906 = .ok (.iload_n 3, 1) := by decide +kernel
theorem dL_law_907 : decode cL_law 907 = .ok (.iconst 2, 1) := by decide +kernel
theorem dL_law_908 : decode cL_law 908 = .ok (.iadd, 1) := by decide +kernel
theorem dL_law_909 : decode cL_law 909 = .ok (.iaload, 1) := by decide +kernel
theorem dL_law_910 : decode cL_law 910 = .ok (.invokevirtual 129, 3) := by decide +kernel
theorem dL_law_913 : decode cL_law 913 = .ok (.if_icmp .eq 659, 3) := by decide +kernel
theorem dL_law_916 : decode cL_law 916 = .ok (.iconst 0, 1) := by decide +kernel
theorem dL_law_917 : decode cL_law 917 = .ok (.ireturn, 1) := by decide +kernel
theorem dL_law_918 : decode cL_law 918 = .ok (.aload_n 1, 1) := by decide +kernel
theorem dL_law_919 : decode cL_law 919 = .ok (.aload_n 0, 1) := by decide +kernel
theorem dL_law_920 : decode cL_law 920 = .ok (.iload_n 3, 1) := by decide +kernel
theorem dL_law_921 : decode cL_law 921 = .ok (.iconst 1, 1) := by decide +kernel
theorem dL_law_922 : decode cL_law 922 = .ok (.iadd, 1) := by decide +kernel
theorem dL_law_923 : decode cL_law 923 = .ok (.iaload, 1) := by decide +kernel
theorem dL_law_924 : decode cL_law 924 = .ok (.aload_n 0, 1) := by decide +kernel
theorem dL_law_925 : decode cL_law 925 = .ok (.iload_n 3, 1) := by decide +kernel
theorem dL_law_926 : decode cL_law 926 = .ok (.iconst 2, 1) := by decide +kernel
theorem dL_law_927 : decode cL_law 927 = .ok (.iadd, 1) := by decide +kernel
theorem dL_law_928 : decode cL_law 928 = .ok (.iaload, 1) := by decide +kernel
theorem dL_law_929 : decode cL_law 929 = .ok (.invokevirtual 130, 3) := by decide +kernel
theorem dL_law_932 : decode cL_law 932 = .ok (.aload_n 2, 1) := by decide +kernel
theorem dL_law_933 : decode cL_law 933 = .ok (.aload_n 0, 1) := by decide +kernel
theorem dL_law_934 : decode cL_law 934 = .ok (.iload_n 3, 1) := by decide +kernel
theorem dL_law_935 : decode cL_law 935 = .ok (.iconst 1, 1) := by decide +kernel
theorem dL_law_936 : decode cL_law 936 = .ok (.iadd, 1) := by decide +kernel
theorem dL_law_937 : decode cL_law 937 = .ok (.iaload, 1) := by decide +kernel
theorem dL_law_938 : decode cL_law 938 = .ok (.aload_n 0, 1) := by decide +kernel
theorem dL_law_939 : decode cL_law 939 = .ok (.iload_n 3, 1) := by decide +kernel
theorem dL_law_940 : decode cL_law 940 = .ok (.iconst 2, 1) := by decide +kernel
theorem dL_law_941 : decode cL_law 941 = .ok (.iadd, 1) := by decide +kernel
theorem dL_law_942 : decode cL_law 942 = .ok (.iaload, 1) := by decide +kernel
theorem dL_law_943 : decode cL_law 943 = .ok (.invokevirtual 133, 3) := by decide +kernel
theorem dL_law_946 : decode cL_law 946 = .ok (.if_icmp .eq 626, 3) := by decide +kernel
theorem dL_law_949 : decode cL_law 949 = .ok (.iconst 0, 1) := by decide +kernel
theorem dL_law_950 : decode cL_law 950 = .ok (.ireturn, 1) := by decide +kernel
theorem dL_law_951 : decode cL_law 951 = .ok (.aload_n 1, 1) := by decide +kernel
theorem dL_law_952 : decode cL_law 952 = .ok (.aload_n 0, 1) := by decide +kernel
theorem dL_law_953 : decode cL_law 953 = .ok (.iload_n 3, 1) := by decide +kernel
theorem dL_law_954 : decode cL_law 954 = .ok (.iconst 1, 1) := by decide +kernel
theorem dL_law_955 : decode cL_law 955 = .ok (.iadd, 1) := by decide +kernel
theorem dL_law_956 : decode cL_law 956 = .ok (.iaload, 1) := by decide +kernel
theorem dL_law_957 : decode cL_law 957 = .ok (.aload_n 0, 1) := by decide +kernel
theorem dL_law_958 : decode cL_law 958 = .ok (.iload_n 3, 1) := by decide +kernel
theorem dL_law_959 : decode cL_law 959 = .ok (.iconst 2, 1) := by decide +kernel
theorem dL_law_960 : decode cL_law 960 = .ok (.iadd, 1) := by decide +kernel
theorem dL_law_961 : decode cL_law 961 = .ok (.iaload, 1) := by decide +kernel
theorem dL_law_962 : decode cL_law 962 = .ok (.aload_n 0, 1) := by decide +kernel
theorem dL_law_963 : decode cL_law 963 = .ok (.iload_n 3, 1) := by decide +kernel
theorem dL_law_964 : decode cL_law 964 = .ok (.iconst 3, 1) := by decide +kernel
theorem dL_law_965 : decode cL_law 965 = .ok (.iadd, 1) := by decide +kernel
theorem dL_law_966 : decode cL_law 966 = .ok (.iaload, 1) := by decide +kernel
theorem dL_law_967 : decode cL_law 967 = .ok (.invokevirtual 134, 3) := by decide +kernel
theorem dL_law_970 : decode cL_law 970 = .ok (.aload_n 2, 1) := by decide +kernel
theorem dL_law_971 : decode cL_law 971 = .ok (.aload_n 0, 1) := by decide +kernel
theorem dL_law_972 : decode cL_law 972 = .ok (.iload_n 3, 1) := by decide +kernel
theorem dL_law_973 : decode cL_law 973 = .ok (.iconst 1, 1) := by decide +kernel
theorem dL_law_974 : decode cL_law 974 = .ok (.iadd, 1) := by decide +kernel
theorem dL_law_975 : decode cL_law 975 = .ok (.iaload, 1) := by decide +kernel
theorem dL_law_976 : decode cL_law 976 = .ok (.aload_n 0, 1) := by decide +kernel
theorem dL_law_977 : decode cL_law 977 = .ok (.iload_n 3, 1) := by decide +kernel
theorem dL_law_978 : decode cL_law 978 = .ok (.iconst 2, 1) := by decide +kernel
theorem dL_law_979 : decode cL_law 979 = .ok (.iadd, 1) := by decide +kernel
theorem dL_law_980 : decode cL_law 980 = .ok (.iaload, 1) := by decide +kernel
theorem dL_law_981 : decode cL_law 981 = .ok (.aload_n 0, 1) := by decide +kernel
theorem dL_law_982 : decode cL_law 982 = .ok (.iload_n 3, 1) := by decide +kernel
theorem dL_law_983 : decode cL_law 983 = .ok (.iconst 3, 1) := by decide +kernel
theorem dL_law_984 : decode cL_law 984 = .ok (.iadd, 1) := by decide +kernel
theorem dL_law_985 : decode cL_law 985 = .ok (.iaload, 1) := by decide +kernel
theorem dL_law_986 : decode cL_law 986 = .ok (.invokevirtual 138, 3) := by decide +kernel
theorem dL_law_989 : decode cL_law 989 = .ok (.if_icmp .eq 583, 3) := by decide +kernel
theorem dL_law_992 : decode cL_law 992 = .ok (.iconst 0, 1) := by decide +kernel
theorem dL_law_993 : decode cL_law 993 = .ok (.ireturn, 1) := by decide +kernel
theorem dL_law_994 : decode cL_law 994 = .ok (.aload_n 1, 1) := by decide +kernel
theorem dL_law_995 : decode cL_law 995 = .ok (.aload_n 0, 1) := by decide +kernel
theorem dL_law_996 : decode cL_law 996 = .ok (.iload_n 3, 1) := by decide +kernel
theorem dL_law_997 : decode cL_law 997 = .ok (.iconst 1, 1) := by decide +kernel
theorem dL_law_998 : decode cL_law 998 = .ok (.iadd, 1) := by decide +kernel
theorem dL_law_999 : decode cL_law 999 = .ok (.iaload, 1) := by decide +kernel
theorem dL_law_1000 : decode cL_law 1000 = .ok (.aload_n 0, 1) := by decide +kernel
theorem dL_law_1001 : decode cL_law 1001 = .ok (.iload_n 3, 1) := by decide +kernel
theorem dL_law_1002 : decode cL_law 1002 = .ok (.iconst 2, 1) := by decide +kernel
theorem dL_law_1003 : decode cL_law 1003 = .ok (.iadd, 1) := by decide +kernel
theorem dL_law_1004 : decode cL_law 1004 = .ok (.iaload, 1) := by decide +kernel
theorem dL_law_1005 : decode cL_law 1005 = .ok (.aload_n 0, 1) := by decide +kernel
theorem dL_law_1006 : decode cL_law 1006 = .ok (.iload_n 3, 1) := by decide +kernel
theorem dL_law_1007 : decode cL_law 1007 = .ok (.iconst 3, 1) := by decide +kernel
theorem dL_law_1008 : decode cL_law 1008 = .ok (.iadd, 1) := by decide +kernel
theorem dL_law_1009 : decode cL_law 1009 = .ok (.iaload, 1) := by decide +kernel
theorem dL_law_1010 : decode cL_law 1010 = .ok (.invokevirtual 139, 3) := by decide +kernel
theorem dL_law_1013 : decode cL_law 1013 = .ok (.aload_n 2, 1) := by decide +kernel
theorem dL_law_1014 : decode cL_law 1014 = .ok (.aload_n 0, 1) := by decide +kernel
theorem dL_law_1015 : decode cL_law 1015 = .ok (.iload_n 3, 1) := by decide +kernel
theorem dL_law_1016 : decode cL_law 1016 = .ok (.iconst 1, 1) := by decide +kernel
theorem dL_law_1017 : decode cL_law 1017 = .ok (.iadd, 1) := by decide +kernel
theorem dL_law_1018 : decode cL_law 1018 = .ok (.iaload, 1) := by decide +kernel
theorem dL_law_1019 : decode cL_law 1019 = .ok (.aload_n 0, 1) := by decide +kernel
theorem dL_law_1020 : decode cL_law 1020 = .ok (.iload_n 3, 1) := by decide +kernel
theorem dL_law_1021 : decode cL_law 1021 = .ok (.iconst 2, 1) := by decide +kernel
theorem dL_law_1022 : decode cL_law 1022 = .ok (.iadd, 1) := by decide +kernel
theorem dL_law_1023 : decode cL_law 1023 = .ok (.iaload, 1) := by decide +kernel
theorem dL_law_1024 : decode cL_law 1024 = .ok (.aload_n 0, 1) := by decide +kernel
theorem dL_law_1025 : decode cL_law 1025 = .ok (.iload_n 3, 1) := by decide +kernel
theorem dL_law_1026 : decode cL_law 1026 = .ok (.iconst 3, 1) := by decide +kernel
theorem dL_law_1027 : decode cL_law 1027 = .ok (.iadd, 1) := by decide +kernel
theorem dL_law_1028 : decode cL_law 1028 = .ok (.iaload, 1) := by decide +kernel
theorem dL_law_1029 : decode cL_law 1029 = .ok (.invokevirtual 142, 3) := by decide +kernel
theorem dL_law_1032 : decode cL_law 1032 = .ok (.if_icmp .eq 540, 3) := by decide +kernel
theorem dL_law_1035 : decode cL_law 1035 = .ok (.iconst 0, 1) := by decide +kernel
theorem dL_law_1036 : decode cL_law 1036 = .ok (.ireturn, 1) := by decide +kernel
theorem dL_law_1037 : decode cL_law 1037 = .ok (.aload_n 1, 1) := by decide +kernel
theorem dL_law_1038 : decode cL_law 1038 = .ok (.aload_n 0, 1) := by decide +kernel
theorem dL_law_1039 : decode cL_law 1039 = .ok (.iload_n 3, 1) := by decide +kernel
theorem dL_law_1040 : decode cL_law 1040 = .ok (.iconst 1, 1) := by decide +kernel
theorem dL_law_1041 : decode cL_law 1041 = .ok (.iadd, 1) := by decide +kernel
theorem dL_law_1042 : decode cL_law 1042 = .ok (.iaload, 1) := by decide +kernel
theorem dL_law_1043 : decode cL_law 1043 = .ok (.invokevirtual 143, 3) := by decide +kernel
theorem dL_law_1046 : decode cL_law 1046 = .ok (.aload_n 2, 1) := by decide +kernel
theorem dL_law_1047 : decode cL_law 1047 = .ok (.aload_n 0, 1) := by decide +kernel
theorem dL_law_1048 : decode cL_law 1048 = .ok (.iload_n 3, 1) := by decide +kernel
theorem dL_law_1049 : decode cL_law 1049 = .ok (.iconst 1, 1) := by decide +kernel
theorem dL_law_1050 : decode cL_law 1050 = .ok (.iadd, 1) := by decide +kernel
theorem dL_law_1051 : decode cL_law 1051 = .ok (.iaload, 1) := by decide +kernel
theorem dL_law_1052 : decode cL_law 1052 = .ok (.invokevirtual 146, 3) := by decide +kernel
theorem dL_law_1055 : decode cL_law 1055 = .ok (.if_icmp .eq 517, 3) := by decide +kernel
theorem dL_law_1058 : decode cL_law 1058 = .ok (.iconst 0, 1) := by decide +kernel
theorem dL_law_1059 : decode cL_law 1059 = .ok (.ireturn, 1) := by decide +kernel
theorem dL_law_1060 : decode cL_law 1060 = .ok (.aload_n 1, 1) := by decide +kernel
theorem dL_law_1061 : decode cL_law 1061 = .ok (.aload_n 0, 1) := by decide +kernel
theorem dL_law_1062 : decode cL_law 1062 = .ok (.iload_n 3, 1) := by decide +kernel
theorem dL_law_1063 : decode cL_law 1063 = .ok (.iconst 1, 1) := by decide +kernel
theorem dL_law_1064 : decode cL_law 1064 = .ok (.iadd, 1) := by decide +kernel
theorem dL_law_1065 : decode cL_law 1065 = .ok (.iaload, 1) := by decide +kernel
theorem dL_law_1066 : decode cL_law 1066 = .ok (.invokevirtual 147, 3) := by decide +kernel
theorem dL_law_1069 : decode cL_law 1069 = .ok (.aload_n 2, 1) := by decide +kernel
theorem dL_law_1070 : decode cL_law 1070 = .ok (.aload_n 0, 1) := by decide +kernel
theorem dL_law_1071 : decode cL_law 1071 = .ok (.iload_n 3, 1) := by decide +kernel
theorem dL_law_1072 : decode cL_law 1072 = .ok (.iconst 1, 1) := by decide +kernel
theorem dL_law_1073 : decode cL_law 1073 = .ok (.iadd, 1) := by decide +kernel
theorem dL_law_1074 : decode cL_law 1074 = .ok (.iaload, 1) := by decide +kernel
theorem dL_law_1075 : decode cL_law 1075 = .ok (.invokevirtual 150, 3) := by decide +kernel
theorem dL_law_1078 : decode cL_law 1078 = .ok (.if_icmp .eq 494, 3) := by decide +kernel
theorem dL_law_1081 : decode cL_law 1081 = .ok (.iconst 0, 1) := by decide +kernel
theorem dL_law_1082 : decode cL_law 1082 = .ok (.ireturn, 1) := by decide +kernel
theorem dL_law_1083 : decode cL_law 1083 = .ok (.aload_n 1, 1) := by decide +kernel
theorem dL_law_1084 : decode cL_law 1084 = .ok (.aload_n 0, 1) := by decide +kernel
theorem dL_law_1085 : decode cL_law 1085 = .ok (.iload_n 3, 1) := by decide +kernel
theorem dL_law_1086 : decode cL_law 1086 = .ok (.iconst 1, 1) := by decide +kernel
theorem dL_law_1087 : decode cL_law 1087 = .ok (.iadd, 1) := by decide +kernel
theorem dL_law_1088 : decode cL_law 1088 = .ok (.iaload, 1) := by decide +kernel
theorem dL_law_1089 : decode cL_law 1089 = .ok (.invokevirtual 151, 3) := by decide +kernel
theorem dL_law_1092 : decode cL_law 1092 = .ok (.aload_n 2, 1) := by decide +kernel
theorem dL_law_1093 : decode cL_law 1093 = .ok (.aload_n 0, 1) := by decide +kernel
theorem dL_law_1094 : decode cL_law 1094 = .ok (.iload_n 3, 1) := by decide +kernel
theorem dL_law_1095 : decode cL_law 1095 = .ok (.iconst 1, 1) := by decide +kernel
theorem dL_law_1096 : decode cL_law 1096 = .ok (.iadd, 1) := by decide +kernel
theorem dL_law_1097 : decode cL_law 1097 = .ok (.iaload, 1) := by decide +kernel
theorem dL_law_1098 : decode cL_law 1098 = .ok (.invokevirtual 154, 3) := by decide +kernel
theorem dL_law_1101 : decode cL_law 1101 = .ok (.if_icmp .eq 471, 3) := by decide +kernel
theorem dL_law_1104 : decode cL_law 1104 = .ok (.iconst 0, 1) := by decide +kernel
theorem dL_law_1105 : decode cL_law 1105 = .ok (.ireturn, 1) := by decide +kernel
theorem dL_law_1106 : decode cL_law 1106 = .ok (.aload_n 1, 1) := by decide +kernel
theorem dL_law_1107 : decode cL_law 1107 = .ok (.aload_n 0, 1) := by decide +kernel
theorem dL_law_1108 : decode cL_law 1108 = .ok (.iload_n 3, 1) := by decide +kernel
theorem dL_law_1109 : decode cL_law 1109 = .ok (.iconst 1, 1) := by decide +kernel
theorem dL_law_1110 : decode cL_law 1110 = .ok (.iadd, 1) := by decide +kernel
theorem dL_law_1111 : decode cL_law 1111 = .ok (.iaload, 1) := by decide +kernel
theorem dL_law_1112 : decode cL_law 1112 = .ok (.aload_n 0, 1) := by decide +kernel
theorem dL_law_1113 : decode cL_law 1113 = .ok (.iload_n 3, 1) := by decide +kernel
theorem dL_law_1114 : decode cL_law 1114 = .ok (.iconst 2, 1) := by decide +kernel
theorem dL_law_1115 : decode cL_law 1115 = .ok (.iadd, 1) := by decide +kernel
theorem dL_law_1116 : decode cL_law 1116 = .ok (.iaload, 1) := by decide +kernel
theorem dL_law_1117 : decode cL_law 1117 = .ok (.invokevirtual 155, 3) := by decide +kernel
theorem dL_law_1120 : decode cL_law 1120 = .ok (.aload_n 2, 1) := by decide +kernel
theorem dL_law_1121 : decode cL_law 1121 = .ok (.aload_n 0, 1) := by decide +kernel
theorem dL_law_1122 : decode cL_law 1122 = .ok (.iload_n 3, 1) := by decide +kernel
theorem dL_law_1123 : decode cL_law 1123 = .ok (.iconst 1, 1) := by decide +kernel
theorem dL_law_1124 : decode cL_law 1124 = .ok (.iadd, 1) := by decide +kernel
theorem dL_law_1125 : decode cL_law 1125 = .ok (.iaload, 1) := by decide +kernel
theorem dL_law_1126 : decode cL_law 1126 = .ok (.aload_n 0, 1) := by decide +kernel
theorem dL_law_1127 : decode cL_law 1127 = .ok (.iload_n 3, 1) := by decide +kernel
theorem dL_law_1128 : decode cL_law 1128 = .ok (.iconst 2, 1) := by decide +kernel
theorem dL_law_1129 : decode cL_law 1129 = .ok (.iadd, 1) := by decide +kernel
theorem dL_law_1130 : decode cL_law 1130 = .ok (.iaload, 1) := by decide +kernel
theorem dL_law_1131 : decode cL_law 1131 = .ok (.invokevirtual 158, 3) := by decide +kernel
theorem dL_law_1134 : decode cL_law 1134 = .ok (.if_icmp .eq 438, 3) := by decide +kernel
theorem dL_law_1137 : decode cL_law 1137 = .ok (.iconst 0, 1) := by decide +kernel
theorem dL_law_1138 : decode cL_law 1138 = .ok (.ireturn, 1) := by decide +kernel
theorem dL_law_1139 : decode cL_law 1139 = .ok (.aload_n 1, 1) := by decide +kernel
theorem dL_law_1140 : decode cL_law 1140 = .ok (.aload_n 0, 1) := by decide +kernel
theorem dL_law_1141 : decode cL_law 1141 = .ok (.iload_n 3, 1) := by decide +kernel
theorem dL_law_1142 : decode cL_law 1142 = .ok (.iconst 1, 1) := by decide +kernel
theorem dL_law_1143 : decode cL_law 1143 = .ok (.iadd, 1) := by decide +kernel
theorem dL_law_1144 : decode cL_law 1144 = .ok (.iaload, 1) := by decide +kernel
theorem dL_law_1145 : decode cL_law 1145 = .ok (.invokevirtual 159, 3) := by decide +kernel
theorem dL_law_1148 : decode cL_law 1148 = .ok (.aload_n 2, 1) := by decide +kernel
theorem dL_law_1149 : decode cL_law 1149 = .ok (.aload_n 0, 1) := by decide +kernel
theorem dL_law_1150 : decode cL_law 1150 = .ok (.iload_n 3, 1) := by decide +kernel
theorem dL_law_1151 : decode cL_law 1151 = .ok (.iconst 1, 1) := by decide +kernel
theorem dL_law_1152 : decode cL_law 1152 = .ok (.iadd, 1) := by decide +kernel
theorem dL_law_1153 : decode cL_law 1153 = .ok (.iaload, 1) := by decide +kernel
theorem dL_law_1154 : decode cL_law 1154 = .ok (.invokevirtual 162, 3) := by decide +kernel
theorem dL_law_1157 : decode cL_law 1157 = .ok (.if_icmp .eq 415, 3) := by decide +kernel
theorem dL_law_1160 : decode cL_law 1160 = .ok (.iconst 0, 1) := by decide +kernel
theorem dL_law_1161 : decode cL_law 1161 = .ok (.ireturn, 1) := by decide +kernel
theorem dL_law_1162 : decode cL_law 1162 = .ok (.aload_n 1, 1) := by decide +kernel
theorem dL_law_1163 : decode cL_law 1163 = .ok (.aload_n 0, 1) := by decide +kernel
theorem dL_law_1164 : decode cL_law 1164 = .ok (.iload_n 3, 1) := by decide +kernel
theorem dL_law_1165 : decode cL_law 1165 = .ok (.iconst 1, 1) := by decide +kernel
theorem dL_law_1166 : decode cL_law 1166 = .ok (.iadd, 1) := by decide +kernel
theorem dL_law_1167 : decode cL_law 1167 = .ok (.iaload, 1) := by decide +kernel
theorem dL_law_1168 : decode cL_law 1168 = .ok (.invokevirtual 163, 3) := by decide +kernel
theorem dL_law_1171 : decode cL_law 1171 = .ok (.aload_n 2, 1) := by decide +kernel
theorem dL_law_1172 : decode cL_law 1172 = .ok (.aload_n 0, 1) := by decide +kernel
theorem dL_law_1173 : decode cL_law 1173 = .ok (.iload_n 3, 1) := by decide +kernel
theorem dL_law_1174 : decode cL_law 1174 = .ok (.iconst 1, 1) := by decide +kernel
theorem dL_law_1175 : decode cL_law 1175 = .ok (.iadd, 1) := by decide +kernel
theorem dL_law_1176 : decode cL_law 1176 = .ok (.iaload, 1) := by decide +kernel
theorem dL_law_1177 : decode cL_law 1177 = .ok (.invokevirtual 166, 3) := by decide +kernel
theorem dL_law_1180 : decode cL_law 1180 = .ok (.if_icmp .eq 392, 3) := by decide +kernel
theorem dL_law_1183 : decode cL_law 1183 = .ok (.iconst 0, 1) := by decide +kernel
theorem dL_law_1184 : decode cL_law 1184 = .ok (.ireturn, 1) := by decide +kernel
theorem dL_law_1185 : decode cL_law 1185 = .ok (.aload_n 1, 1) := by decide +kernel
theorem dL_law_1186 : decode cL_law 1186 = .ok (.aload_n 0, 1) := by decide +kernel
theorem dL_law_1187 : decode cL_law 1187 = .ok (.iload_n 3, 1) := by decide +kernel
theorem dL_law_1188 : decode cL_law 1188 = .ok (.iconst 1, 1) := by decide +kernel
theorem dL_law_1189 : decode cL_law 1189 = .ok (.iadd, 1) := by decide +kernel
theorem dL_law_1190 : decode cL_law 1190 = .ok (.iaload, 1) := by decide +kernel
theorem dL_law_1191 : decode cL_law 1191 = .ok (.invokevirtual 167, 3) := by decide +kernel
theorem dL_law_1194 : decode cL_law 1194 = .ok (.aload_n 2, 1) := by decide +kernel
theorem dL_law_1195 : decode cL_law 1195 = .ok (.aload_n 0, 1) := by decide +kernel
theorem dL_law_1196 : decode cL_law 1196 = .ok (.iload_n 3, 1) := by decide +kernel
theorem dL_law_1197 : decode cL_law 1197 = .ok (.iconst 1, 1) := by decide +kernel
theorem dL_law_1198 : decode cL_law 1198 = .ok (.iadd, 1) := by decide +kernel
theorem dL_law_1199 : decode cL_law 1199 = .ok (.iaload, 1) := by decide +kernel
theorem dL_law_1200 : decode cL_law 1200 = .ok (.invokevirtual 170, 3) := by decide +kernel
theorem dL_law_1203 : decode cL_law 1203 = .ok (.if_icmp .eq 369, 3) := by decide +kernel
theorem dL_law_1206 : decode cL_law 1206 = .ok (.iconst 0, 1) := by decide +kernel
theorem dL_law_1207 : decode cL_law 1207 = .ok (.ireturn, 1) := by decide +kernel
theorem dL_law_1208 : decode cL_law 1208 = .ok (.aload_n 1, 1) := by decide +kernel
theorem dL_law_1209 : decode cL_law 1209 = .ok (.aload_n 0, 1) := by decide +kernel
theorem dL_law_1210 : decode cL_law 1210 = .ok (.iload_n 3, 1) := by decide +kernel
theorem dL_law_1211 : decode cL_law 1211 = .ok (.iconst 1, 1) := by decide +kernel
theorem dL_law_1212 : decode cL_law 1212 = .ok (.iadd, 1) := by decide +kernel
theorem dL_law_1213 : decode cL_law 1213 = .ok (.iaload, 1) := by decide +kernel
theorem dL_law_1214 : decode cL_law 1214 = .ok (.aload_n 0, 1) := by decide +kernel
theorem dL_law_1215 : decode cL_law 1215 = .ok (.iload_n 3, 1) := by decide +kernel
theorem dL_law_1216 : decode cL_law 1216 = .ok (.iconst 2, 1) := by decide +kernel
theorem dL_law_1217 : decode cL_law 1217 = .ok (.iadd, 1) := by decide +kernel
theorem dL_law_1218 : decode cL_law 1218 = .ok (.iaload, 1) := by decide +kernel
theorem dL_law_1219 : decode cL_law 1219 = .ok (.invokevirtual 171, 3) := by decide +kernel
theorem dL_law_1222 : decode cL_law 1222 = .ok (.aload_n 2, 1) := by decide +kernel
theorem dL_law_1223 : decode cL_law 1223 = .ok (.aload_n 0, 1) := by decide +kernel
theorem dL_law_1224 : decode cL_law 1224 = .ok (.iload_n 3, 1) := by decide +kernel
theorem dL_law_1225 : decode cL_law 1225 = .ok (.iconst 1, 1) := by decide +kernel
theorem dL_law_1226 : decode cL_law 1226 = .ok (.iadd, 1) := by decide +kernel
theorem dL_law_1227 : decode cL_law 1227 = .ok (.iaload, 1) := by decide +kernel
theorem dL_law_1228 : decode cL_law 1228 = .ok (.aload_n 0, 1) := by decide +kernel
theorem dL_law_1229 : decode cL_law 1229 = .ok (.iload_n 3, 1) := by decide +kernel
theorem dL_law_1230 : decode cL_law 1230 = .ok (.iconst 2, 1) := by decide +kernel
theorem dL_law_1231 : decode cL_law 1231 = .ok (.iadd, 1) := by decide +kernel
theorem dL_law_1232 : decode cL_law 1232 = .ok (.iaload, 1) := by decide +kernel
theorem dL_law_1233 : decode cL_law 1233 = .ok (.invokevirtual 174, 3) := by decide +kernel
theorem dL_law_1236 : decode cL_law 1236 = .ok (.if_icmp .eq 336, 3) := by decide +kernel
theorem dL_law_1239 : decode cL_law 1239 = .ok (.iconst 0, 1) := by decide +kernel
theorem dL_law_1240 : decode cL_law 1240 = .ok (.ireturn, 1) := by decide +kernel
theorem dL_law_1241 : decode cL_law 1241 = .ok (.aload_n 1, 1) := by decide +kernel
theorem dL_law_1242 : decode cL_law 1242 = .ok (.aload_n 0, 1) := by decide +kernel
theorem dL_law_1243 : decode cL_law 1243 = .ok (.iload_n 3, 1) := by decide +kernel
theorem dL_law_1244 : decode cL_law 1244 = .ok (.iconst 1, 1) := by decide +kernel
theorem dL_law_1245 : decode cL_law 1245 = .ok (.iadd, 1) := by decide +kernel
theorem dL_law_1246 : decode cL_law 1246 = .ok (.iaload, 1) := by decide +kernel
theorem dL_law_1247 : decode cL_law 1247 = .ok (.aload_n 0, 1) := by decide +kernel
theorem dL_law_1248 : decode cL_law 1248 = .ok (.iload_n 3, 1) := by decide +kernel
theorem dL_law_1249 : decode cL_law 1249 = .ok (.iconst 2, 1) := by decide +kernel
theorem dL_law_1250 : decode cL_law 1250 = .ok (.iadd, 1) := by decide +kernel
theorem dL_law_1251 : decode cL_law 1251 = .ok (.iaload, 1) := by decide +kernel
theorem dL_law_1252 : decode cL_law 1252 = .ok (.invokevirtual 175, 3) := by decide +kernel
theorem dL_law_1255 : decode cL_law 1255 = .ok (.aload_n 2, 1) := by decide +kernel
theorem dL_law_1256 : decode cL_law 1256 = .ok (.aload_n 0, 1) := by decide +kernel
theorem dL_law_1257 : decode cL_law 1257 = .ok (.iload_n 3, 1) := by decide +kernel
theorem dL_law_1258 : decode cL_law 1258 = .ok (.iconst 1, 1) := by decide +kernel
theorem dL_law_1259 : decode cL_law 1259 = .ok (.iadd, 1) := by decide +kernel
theorem dL_law_1260 : decode cL_law 1260 = .ok (.iaload, 1) := by decide +kernel
theorem dL_law_1261 : decode cL_law 1261 = .ok (.aload_n 0, 1) := by decide +kernel
theorem dL_law_1262 : decode cL_law 1262 = .ok (.iload_n 3, 1) := by decide +kernel
theorem dL_law_1263 : decode cL_law 1263 = .ok (.iconst 2, 1) := by decide +kernel
theorem dL_law_1264 : decode cL_law 1264 = .ok (.iadd, 1) := by decide +kernel
theorem dL_law_1265 : decode cL_law 1265 = .ok (.iaload, 1) := by decide +kernel
theorem dL_law_1266 : decode cL_law 1266 = .ok (.invokevirtual 178, 3) := by decide +kernel
theorem dL_law_1269 : decode cL_law 1269 = .ok (.if_icmp .eq 303, 3) := by decide +kernel
theorem dL_law_1272 : decode cL_law 1272 = .ok (.iconst 0, 1) := by decide +kernel
theorem dL_law_1273 : decode cL_law 1273 = .ok (.ireturn, 1) := by decide +kernel
theorem dL_law_1274 : decode cL_law 1274 = .ok (.aload_n 1, 1) := by decide +kernel
theorem dL_law_1275 : decode cL_law 1275 = .ok (.aload_n 0, 1) := by decide +kernel
theorem dL_law_1276 : decode cL_law 1276 = .ok (.iload_n 3, 1) := by decide +kernel
theorem dL_law_1277 : decode cL_law 1277 = .ok (.iconst 1, 1) := by decide +kernel
theorem dL_law_1278 : decode cL_law 1278 = .ok (.iadd, 1) := by decide +kernel
theorem dL_law_1279 : decode cL_law 1279 = .ok (.iaload, 1) := by decide +kernel
theorem dL_law_1280 : decode cL_law 1280 = .ok (.aload_n 0, 1) := by decide +kernel
theorem dL_law_1281 : decode cL_law 1281 = .ok (.iload_n 3, 1) := by decide +kernel
theorem dL_law_1282 : decode cL_law 1282 = .ok (.iconst 2, 1) := by decide +kernel
theorem dL_law_1283 : decode cL_law 1283 = .ok (.iadd, 1) := by decide +kernel
theorem dL_law_1284 : decode cL_law 1284 = .ok (.iaload, 1) := by decide +kernel
theorem dL_law_1285 : decode cL_law 1285 = .ok (.invokevirtual 179, 3) := by decide +kernel
theorem dL_law_1288 : decode cL_law 1288 = .ok (.aload_n 2, 1) := by decide +kernel
theorem dL_law_1289 : decode cL_law 1289 = .ok (.aload_n 0, 1) := by decide +kernel
theorem dL_law_1290 : decode cL_law 1290 = .ok (.iload_n 3, 1) := by decide +kernel
theorem dL_law_1291 : decode cL_law 1291 = .ok (.iconst 1, 1) := by decide +kernel
theorem dL_law_1292 : decode cL_law 1292 = .ok (.iadd, 1) := by decide +kernel
theorem dL_law_1293 : decode cL_law 1293 = .ok (.iaload, 1) := by decide +kernel
theorem dL_law_1294 : decode cL_law 1294 = .ok (.aload_n 0, 1) := by decide +kernel
theorem dL_law_1295 : decode cL_law 1295 = .ok (.iload_n 3, 1) := by decide +kernel
theorem dL_law_1296 : decode cL_law 1296 = .ok (.iconst 2, 1) := by decide +kernel
theorem dL_law_1297 : decode cL_law 1297 = .ok (.iadd, 1) := by decide +kernel
theorem dL_law_1298 : decode cL_law 1298 = .ok (.iaload, 1) := by decide +kernel
theorem dL_law_1299 : decode cL_law 1299 = .ok (.invokevirtual 182, 3) := by decide +kernel
theorem dL_law_1302 : decode cL_law 1302 = .ok (.if_icmp .eq 270, 3) := by decide +kernel
theorem dL_law_1305 : decode cL_law 1305 = .ok (.iconst 0, 1) := by decide +kernel
theorem dL_law_1306 : decode cL_law 1306 = .ok (.ireturn, 1) := by decide +kernel
theorem dL_law_1307 : decode cL_law 1307 = .ok (.aload_n 1, 1) := by decide +kernel
theorem dL_law_1308 : decode cL_law 1308 = .ok (.aload_n 0, 1) := by decide +kernel
theorem dL_law_1309 : decode cL_law 1309 = .ok (.iload_n 3, 1) := by decide +kernel
theorem dL_law_1310 : decode cL_law 1310 = .ok (.iconst 1, 1) := by decide +kernel
theorem dL_law_1311 : decode cL_law 1311 = .ok (.iadd, 1) := by decide +kernel
theorem dL_law_1312 : decode cL_law 1312 = .ok (.iaload, 1) := by decide +kernel
theorem dL_law_1313 : decode cL_law 1313 = .ok (.aload_n 0, 1) := by decide +kernel
theorem dL_law_1314 : decode cL_law 1314 = .ok (.iload_n 3, 1) := by decide +kernel
theorem dL_law_1315 : decode cL_law 1315 = .ok (.iconst 2, 1) := by decide +kernel
theorem dL_law_1316 : decode cL_law 1316 = .ok (.iadd, 1) := by decide +kernel
theorem dL_law_1317 : decode cL_law 1317 = .ok (.iaload, 1) := by decide +kernel
theorem dL_law_1318 : decode cL_law 1318 = .ok (.invokevirtual 183, 3) := by decide +kernel
theorem dL_law_1321 : decode cL_law 1321 = .ok (.aload_n 2, 1) := by decide +kernel
theorem dL_law_1322 : decode cL_law 1322 = .ok (.aload_n 0, 1) := by decide +kernel
theorem dL_law_1323 : decode cL_law 1323 = .ok (.iload_n 3, 1) := by decide +kernel
theorem dL_law_1324 : decode cL_law 1324 = .ok (.iconst 1, 1) := by decide +kernel
theorem dL_law_1325 : decode cL_law 1325 = .ok (.iadd, 1) := by decide +kernel
theorem dL_law_1326 : decode cL_law 1326 = .ok (.iaload, 1) := by decide +kernel
theorem dL_law_1327 : decode cL_law 1327 = .ok (.aload_n 0, 1) := by decide +kernel
theorem dL_law_1328 : decode cL_law 1328 = .ok (.iload_n 3, 1) := by decide +kernel
theorem dL_law_1329 : decode cL_law 1329 = .ok (.iconst 2, 1) := by decide +kernel
theorem dL_law_1330 : decode cL_law 1330 = .ok (.iadd, 1) := by decide +kernel
theorem dL_law_1331 : decode cL_law 1331 = .ok (.iaload, 1) := by decide +kernel
theorem dL_law_1332 : decode cL_law 1332 = .ok (.invokevirtual 186, 3) := by decide +kernel
theorem dL_law_1335 : decode cL_law 1335 = .ok (.if_icmp .eq 237, 3) := by decide +kernel
theorem dL_law_1338 : decode cL_law 1338 = .ok (.iconst 0, 1) := by decide +kernel
theorem dL_law_1339 : decode cL_law 1339 = .ok (.ireturn, 1) := by decide +kernel
theorem dL_law_1340 : decode cL_law 1340 = .ok (.aload_n 1, 1) := by decide +kernel
theorem dL_law_1341 : decode cL_law 1341 = .ok (.aload_n 0, 1) := by decide +kernel
theorem dL_law_1342 : decode cL_law 1342 = .ok (.iload_n 3, 1) := by decide +kernel
theorem dL_law_1343 : decode cL_law 1343 = .ok (.iconst 1, 1) := by decide +kernel
theorem dL_law_1344 : decode cL_law 1344 = .ok (.iadd, 1) := by decide +kernel
theorem dL_law_1345 : decode cL_law 1345 = .ok (.iaload, 1) := by decide +kernel
theorem dL_law_1346 : decode cL_law 1346 = .ok (.aload_n 0, 1) := by decide +kernel
theorem dL_law_1347 : decode cL_law 1347 = .ok (.iload_n 3, 1) := by decide +kernel
theorem dL_law_1348 : decode cL_law 1348 = .ok (.iconst 2, 1) := by decide +kernel
theorem dL_law_1349 : decode cL_law 1349 = .ok (.iadd, 1) := by decide +kernel
theorem dL_law_1350 : decode cL_law 1350 = .ok (.iaload, 1) := by decide +kernel
theorem dL_law_1351 : decode cL_law 1351 = .ok (.aload_n 0, 1) := by decide +kernel
theorem dL_law_1352 : decode cL_law 1352 = .ok (.iload_n 3, 1) := by decide +kernel
theorem dL_law_1353 : decode cL_law 1353 = .ok (.iconst 3, 1) := by decide +kernel
theorem dL_law_1354 : decode cL_law 1354 = .ok (.iadd, 1) := by decide +kernel
theorem dL_law_1355 : decode cL_law 1355 = .ok (.iaload, 1) := by decide +kernel
theorem dL_law_1356 : decode cL_law 1356 = .ok (.invokevirtual 187, 3) := by decide +kernel
theorem dL_law_1359 : decode cL_law 1359 = .ok (.aload_n 2, 1) := by decide +kernel
theorem dL_law_1360 : decode cL_law 1360 = .ok (.aload_n 0, 1) := by decide +kernel
theorem dL_law_1361 : decode cL_law 1361 = .ok (.iload_n 3, 1) := by decide +kernel
theorem dL_law_1362 : decode cL_law 1362 = .ok (.iconst 1, 1) := by decide +kernel
theorem dL_law_1363 : decode cL_law 1363 = .ok (.iadd, 1) := by decide +kernel
theorem dL_law_1364 : decode cL_law 1364 = .ok (.iaload, 1) := by decide +kernel
theorem dL_law_1365 : decode cL_law 1365 = .ok (.aload_n 0, 1) := by decide +kernel
theorem dL_law_1366 : decode cL_law 1366 = .ok (.iload_n 3, 1) := by decide +kernel
theorem dL_law_1367 : decode cL_law 1367 = .ok (.iconst 2, 1) := by decide +kernel
theorem dL_law_1368 : decode cL_law 1368 = .ok (.iadd, 1) := by decide +kernel
theorem dL_law_1369 : decode cL_law 1369 = .ok (.iaload, 1) := by decide +kernel
theorem dL_law_1370 : decode cL_law 1370 = .ok (.aload_n 0, 1) := by decide +kernel
theorem dL_law_1371 : decode cL_law 1371 = .ok (.iload_n 3, 1) := by decide +kernel
theorem dL_law_1372 : decode cL_law 1372 = .ok (.iconst 3, 1) := by decide +kernel
theorem dL_law_1373 : decode cL_law 1373 = .ok (.iadd, 1) := by decide +kernel
theorem dL_law_1374 : decode cL_law 1374 = .ok (.iaload, 1) := by decide +kernel
theorem dL_law_1375 : decode cL_law 1375 = .ok (.invokevirtual 190, 3) := by decide +kernel
theorem dL_law_1378 : decode cL_law 1378 = .ok (.if_icmp .eq 194, 3) := by decide +kernel
theorem dL_law_1381 : decode cL_law 1381 = .ok (.iconst 0, 1) := by decide +kernel
theorem dL_law_1382 : decode cL_law 1382 = .ok (.ireturn, 1) := by decide +kernel
theorem dL_law_1383 : decode cL_law 1383 = .ok (.aload_n 1, 1) := by decide +kernel
theorem dL_law_1384 : decode cL_law 1384 = .ok (.aload_n 0, 1) := by decide +kernel
theorem dL_law_1385 : decode cL_law 1385 = .ok (.iload_n 3, 1) := by decide +kernel
theorem dL_law_1386 : decode cL_law 1386 = .ok (.iconst 1, 1) := by decide +kernel
theorem dL_law_1387 : decode cL_law 1387 = .ok (.iadd, 1) := by decide +kernel
theorem dL_law_1388 : decode cL_law 1388 = .ok (.iaload, 1) := by decide +kernel
theorem dL_law_1389 : decode cL_law 1389 = .ok (.aload_n 0, 1) := by decide +kernel
theorem dL_law_1390 : decode cL_law 1390 = .ok (.iload_n 3, 1) := by decide +kernel
theorem dL_law_1391 : decode cL_law 1391 = .ok (.iconst 2, 1) := by decide +kernel
theorem dL_law_1392 : decode cL_law 1392 = .ok (.iadd, 1) := by decide +kernel
theorem dL_law_1393 : decode cL_law 1393 = .ok (.iaload, 1) := by decide +kernel
theorem dL_law_1394 : decode cL_law 1394 = .ok (.aload_n 0, 1) := by decide +kernel
theorem dL_law_1395 : decode cL_law 1395 = .ok (.iload_n 3, 1) := by decide +kernel
theorem dL_law_1396 : decode cL_law 1396 = .ok (.iconst 3, 1) := by decide +kernel
theorem dL_law_1397 : decode cL_law 1397 = .ok (.iadd, 1) := by decide +kernel
theorem dL_law_1398 : decode cL_law 1398 = .ok (.iaload, 1) := by decide +kernel
theorem dL_law_1399 : decode cL_law 1399 = .ok (.invokevirtual 191, 3) := by decide +kernel
theorem dL_law_1402 : decode cL_law 1402 = .ok (.aload_n 2, 1) := by decide +kernel
theorem dL_law_1403 : decode cL_law 1403 = .ok (.aload_n 0, 1) := by decide +kernel
theorem dL_law_1404 : decode cL_law 1404 = .ok (.iload_n 3, 1) := by decide +kernel
theorem dL_law_1405 : decode cL_law 1405 = .ok (.iconst 1, 1) := by decide +kernel
theorem dL_law_1406 : decode cL_law 1406 = .ok (.iadd, 1) := by decide +kernel
theorem dL_law_1407 : decode cL_law 1407 = .ok (.iaload, 1) := by decide +kernel
theorem dL_law_1408 : decode cL_law 1408 = .ok (.aload_n 0, 1) := by decide +kernel
theorem dL_law_1409 : decode cL_law 1409 = .ok (.iload_n 3, 1) := by decide +kernel
theorem dL_law_1410 : decode cL_law 1410 = .ok (.iconst 2, 1) := by decide +kernel
theorem dL_law_1411 : decode cL_law 1411 = .ok (.iadd, 1) := by decide +kernel
theorem dL_law_1412 : decode cL_law 1412 = .ok (.iaload, 1) := by decide +kernel
theorem dL_law_1413 : decode cL_law 1413 = .ok (.aload_n 0, 1) := by decide +kernel
theorem dL_law_1414 : decode cL_law 1414 = .ok (.iload_n 3, 1) := by decide +kernel
theorem dL_law_1415 : decode cL_law 1415 = .ok (.iconst 3, 1) := by decide +kernel
theorem dL_law_1416 : decode cL_law 1416 = .ok (.iadd, 1) := by decide +kernel
theorem dL_law_1417 : decode cL_law 1417 = .ok (.iaload, 1) := by decide +kernel
theorem dL_law_1418 : decode cL_law 1418 = .ok (.invokevirtual 195, 3) := by decide +kernel
theorem dL_law_1421 : decode cL_law 1421 = .ok (.if_icmp .eq 151, 3) := by decide +kernel
theorem dL_law_1424 : decode cL_law 1424 = .ok (.iconst 0, 1) := by decide +kernel
theorem dL_law_1425 : decode cL_law 1425 = .ok (.ireturn, 1) := by decide +kernel
theorem dL_law_1426 : decode cL_law 1426 = .ok (.aload_n 1, 1) := by decide +kernel
theorem dL_law_1427 : decode cL_law 1427 = .ok (.aload_n 0, 1) := by decide +kernel
theorem dL_law_1428 : decode cL_law 1428 = .ok (.iload_n 3, 1) := by decide +kernel
theorem dL_law_1429 : decode cL_law 1429 = .ok (.iconst 1, 1) := by decide +kernel
theorem dL_law_1430 : decode cL_law 1430 = .ok (.iadd, 1) := by decide +kernel
theorem dL_law_1431 : decode cL_law 1431 = .ok (.iaload, 1) := by decide +kernel
theorem dL_law_1432 : decode cL_law 1432 = .ok (.aload_n 0, 1) := by decide +kernel
theorem dL_law_1433 : decode cL_law 1433 = .ok (.iload_n 3, 1) := by decide +kernel
theorem dL_law_1434 : decode cL_law 1434 = .ok (.iconst 2, 1) := by decide +kernel
theorem dL_law_1435 : decode cL_law 1435 = .ok (.iadd, 1) := by decide +kernel
theorem dL_law_1436 : decode cL_law 1436 = .ok (.iaload, 1) := by decide +kernel
theorem dL_law_1437 : decode cL_law 1437 = .ok (.aload_n 0, 1) := by decide +kernel
theorem dL_law_1438 : decode cL_law 1438 = .ok (.iload_n 3, 1) := by decide +kernel
theorem dL_law_1439 : decode cL_law 1439 = .ok (.iconst 3, 1) := by decide +kernel
theorem dL_law_1440 : decode cL_law 1440 = .ok (.iadd, 1) := by decide +kernel
theorem dL_law_1441 : decode cL_law 1441 = .ok (.iaload, 1) := by decide +kernel
theorem dL_law_1442 : decode cL_law 1442 = .ok (.invokevirtual 196, 3) := by decide +kernel
theorem dL_law_1445 : decode cL_law 1445 = .ok (.aload_n 2, 1) := by decide +kernel
theorem dL_law_1446 : decode cL_law 1446 = .ok (.aload_n 0, 1) := by decide +kernel
theorem dL_law_1447 : decode cL_law 1447 = .ok (.iload_n 3, 1) := by decide +kernel
theorem dL_law_1448 : decode cL_law 1448 = .ok (.iconst 1, 1) := by decide +kernel
theorem dL_law_1449 : decode cL_law 1449 = .ok (.iadd, 1) := by decide +kernel
theorem dL_law_1450 : decode cL_law 1450 = .ok (.iaload, 1) := by decide +kernel
theorem dL_law_1451 : decode cL_law 1451 = .ok (.aload_n 0, 1) := by decide +kernel
theorem dL_law_1452 : decode cL_law 1452 = .ok (.iload_n 3, 1) := by decide +kernel
theorem dL_law_1453 : decode cL_law 1453 = .ok (.iconst 2, 1) := by decide +kernel
theorem dL_law_1454 : decode cL_law 1454 = .ok (.iadd, 1) := by decide +kernel
theorem dL_law_1455 : decode cL_law 1455 = .ok (.iaload, 1) := by decide +kernel
theorem dL_law_1456 : decode cL_law 1456 = .ok (.aload_n 0, 1) := by decide +kernel
theorem dL_law_1457 : decode cL_law 1457 = .ok (.iload_n 3, 1) := by decide +kernel
theorem dL_law_1458 : decode cL_law 1458 = .ok (.iconst 3, 1) := by decide +kernel
theorem dL_law_1459 : decode cL_law 1459 = .ok (.iadd, 1) := by decide +kernel
theorem dL_law_1460 : decode cL_law 1460 = .ok (.iaload, 1) := by decide +kernel
theorem dL_law_1461 : decode cL_law 1461 = .ok (.invokevirtual 199, 3) := by decide +kernel
theorem dL_law_1464 : decode cL_law 1464 = .ok (.if_icmp .eq 108, 3) := by decide +kernel
theorem dL_law_1467 : decode cL_law 1467 = .ok (.iconst 0, 1) := by decide +kernel
theorem dL_law_1468 : decode cL_law 1468 = .ok (.ireturn, 1) := by decide +kernel
theorem dL_law_1469 : decode cL_law 1469 = .ok (.aload_n 1, 1) := by decide +kernel
theorem dL_law_1470 : decode cL_law 1470 = .ok (.aload_n 0, 1) := by decide +kernel
theorem dL_law_1471 : decode cL_law 1471 = .ok (.iload_n 3, 1) := by decide +kernel
theorem dL_law_1472 : decode cL_law 1472 = .ok (.iconst 1, 1) := by decide +kernel
theorem dL_law_1473 : decode cL_law 1473 = .ok (.iadd, 1) := by decide +kernel
theorem dL_law_1474 : decode cL_law 1474 = .ok (.iaload, 1) := by decide +kernel
theorem dL_law_1475 : decode cL_law 1475 = .ok (.aload_n 0, 1) := by decide +kernel
theorem dL_law_1476 : decode cL_law 1476 = .ok (.iload_n 3, 1) := by decide +kernel
theorem dL_law_1477 : decode cL_law 1477 = .ok (.iconst 2, 1) := by decide +kernel
theorem dL_law_1478 : decode cL_law 1478 = .ok (.iadd, 1) := by decide +kernel
theorem dL_law_1479 : decode cL_law 1479 = .ok (.iaload, 1) := by decide +kernel
theorem dL_law_1480 : decode cL_law 1480 = .ok (.invokevirtual 200, 3) := by decide +kernel
theorem dL_law_1483 : decode cL_law 1483 = .ok (.aload_n 2, 1) := by decide +kernel
theorem dL_law_1484 : decode cL_law 1484 = .ok (.aload_n 0, 1) := by decide +kernel
theorem dL_law_1485 : decode cL_law 1485 = .ok (.iload_n 3, 1) := by decide +kernel
theorem dL_law_1486 : decode cL_law 1486 = .ok (.iconst 1, 1) := by decide +kernel
theorem dL_law_1487 : decode cL_law 1487 = .ok (.iadd, 1) := by decide +kernel
theorem dL_law_1488 : decode cL_law 1488 = .ok (.iaload, 1) := by decide +kernel
theorem dL_law_1489 : decode cL_law 1489 = .ok (.aload_n 0, 1) := by decide +kernel
theorem dL_law_1490 : decode cL_law 1490 = .ok (.iload_n 3, 1) := by decide +kernel
theorem dL_law_1491 : decode cL_law 1491 = .ok (.iconst 2, 1) := by decide +kernel
theorem dL_law_1492 : decode cL_law 1492 = .ok (.iadd, 1) := by decide +kernel
theorem dL_law_1493 : decode cL_law 1493 = .ok (.iaload, 1) := by decide +kernel
theorem dL_law_1494 : decode cL_law 1494 = .ok (.invokevirtual 203, 3) := by decide +kernel
theorem dL_law_1497 : decode cL_law 1497 = .ok (.if_icmp .eq 75, 3) := by decide +kernel
theorem dL_law_1500 : decode cL_law 1500 = .ok (.iconst 0, 1) := by decide +kernel
theorem dL_law_1501 : decode cL_law 1501 = .ok (.ireturn, 1) := by decide +kernel
theorem dL_law_1502 : decode cL_law 1502 = .ok (.aload_n 1, 1) := by decide +kernel
theorem dL_law_1503 : decode cL_law 1503 = .ok (.aload_n 0, 1) := by decide +kernel
theorem dL_law_1504 : decode cL_law 1504 = .ok (.iload_n 3, 1) := by decide +kernel
theorem dL_law_1505 : decode cL_law 1505 = .ok (.iconst 1, 1) := by decide +kernel
theorem dL_law_1506 : decode cL_law 1506 = .ok (.iadd, 1) := by decide +kernel
theorem dL_law_1507 : decode cL_law 1507 = .ok (.iaload, 1) := by decide +kernel
theorem dL_law_1508 : decode cL_law 1508 = .ok (.aload_n 0, 1) := by decide +kernel
theorem dL_law_1509 : decode cL_law 1509 = .ok (.iload_n 3, 1) := by decide +kernel
theorem dL_law_1510 : decode cL_law 1510 = .ok (.iconst 2, 1) := by decide +kernel
theorem dL_law_1511 : decode cL_law 1511 = .ok (.iadd, 1) := by decide +kernel
theorem dL_law_1512 : decode cL_law 1512 = .ok (.iaload, 1) := by decide +kernel
theorem dL_law_1513 : decode cL_law 1513 = .ok (.aload_n 0, 1) := by decide +kernel
theorem dL_law_1514 : decode cL_law 1514 = .ok (.iload_n 3, 1) := by decide +kernel
theorem dL_law_1515 : decode cL_law 1515 = .ok (.iconst 3, 1) := by decide +kernel
theorem dL_law_1516 : decode cL_law 1516 = .ok (.iadd, 1) := by decide +kernel
theorem dL_law_1517 : decode cL_law 1517 = .ok (.iaload, 1) := by decide +kernel
theorem dL_law_1518 : decode cL_law 1518 = .ok (.invokevirtual 204, 3) := by decide +kernel
theorem dL_law_1521 : decode cL_law 1521 = .ok (.aload_n 2, 1) := by decide +kernel
theorem dL_law_1522 : decode cL_law 1522 = .ok (.aload_n 0, 1) := by decide +kernel
theorem dL_law_1523 : decode cL_law 1523 = .ok (.iload_n 3, 1) := by decide +kernel
theorem dL_law_1524 : decode cL_law 1524 = .ok (.iconst 1, 1) := by decide +kernel
theorem dL_law_1525 : decode cL_law 1525 = .ok (.iadd, 1) := by decide +kernel
theorem dL_law_1526 : decode cL_law 1526 = .ok (.iaload, 1) := by decide +kernel
theorem dL_law_1527 : decode cL_law 1527 = .ok (.aload_n 0, 1) := by decide +kernel
theorem dL_law_1528 : decode cL_law 1528 = .ok (.iload_n 3, 1) := by decide +kernel
theorem dL_law_1529 : decode cL_law 1529 = .ok (.iconst 2, 1) := by decide +kernel
theorem dL_law_1530 : decode cL_law 1530 = .ok (.iadd, 1) := by decide +kernel
theorem dL_law_1531 : decode cL_law 1531 = .ok (.iaload, 1) := by decide +kernel
theorem dL_law_1532 : decode cL_law 1532 = .ok (.aload_n 0, 1) := by decide +kernel
theorem dL_law_1533 : decode cL_law 1533 = .ok (.iload_n 3, 1) := by decide +kernel
theorem dL_law_1534 : decode cL_law 1534 = .ok (.iconst 3, 1) := by decide +kernel
theorem dL_law_1535 : decode cL_law 1535 = .ok (.iadd, 1) := by decide +kernel
theorem dL_law_1536 : decode cL_law 1536 = .ok (.iaload, 1) := by decide +kernel
theorem dL_law_1537 : decode cL_law 1537 = .ok (.invokevirtual 207, 3) := by decide +kernel
theorem dL_law_1540 : decode cL_law 1540 = .ok (.if_icmp .eq 32, 3) := by decide +kernel
theorem dL_law_1543 : decode cL_law 1543 = .ok (.iconst 0, 1) := by decide +kernel
theorem dL_law_1544 : decode cL_law 1544 = .ok (.ireturn, 1) := by decide +kernel
theorem dL_law_1545 : decode cL_law 1545 = .ok (.aload_n 1, 1) := by decide +kernel
theorem dL_law_1546 : decode cL_law 1546 = .ok (.invokevirtual 208, 3) := by decide +kernel
theorem dL_law_1549 : decode cL_law 1549 = .ok (.aload_n 2, 1) := by decide +kernel
theorem dL_law_1550 : decode cL_law 1550 = .ok (.invokevirtual 211, 3) := by decide +kernel
theorem dL_law_1553 : decode cL_law 1553 = .ok (.if_icmp .eq 19, 3) := by decide +kernel
theorem dL_law_1556 : decode cL_law 1556 = .ok (.iconst 0, 1) := by decide +kernel
theorem dL_law_1557 : decode cL_law 1557 = .ok (.ireturn, 1) := by decide +kernel
theorem dL_law_1558 : decode cL_law 1558 = .ok (.aload_n 1, 1) := by decide +kernel
theorem dL_law_1559 : decode cL_law 1559 = .ok (.invokevirtual 212, 3) := by decide +kernel
theorem dL_law_1562 : decode cL_law 1562 = .ok (.aload_n 2, 1) := by decide +kernel
theorem dL_law_1563 : decode cL_law 1563 = .ok (.invokevirtual 216, 3) := by decide +kernel
theorem dL_law_1566 : decode cL_law 1566 = .ok (.lcmp, 1) := by decide +kernel
theorem dL_law_1567 : decode cL_law 1567 = .ok (.ifCond .eq 5, 3) := by decide +kernel
theorem dL_law_1570 : decode cL_law 1570 = .ok (.iconst 0, 1) := by decide +kernel
theorem dL_law_1571 : decode cL_law 1571 = .ok (.ireturn, 1) := by decide +kernel
theorem dL_law_1572 : decode cL_law 1572 = .ok (.iinc 3 4, 3) := by decide +kernel
theorem dL_law_1575 : decode cL_law 1575 = .ok (.goto (-1557), 3) := by decide +kernel
theorem dL_law_1578 : decode cL_law 1578 = .ok (.iconst 1, 1) := by decide +kernel
theorem dL_law_1579 : decode cL_law 1579 = .ok (.ireturn, 1) := by decide +kernel
def f_L_law_18 (L : Nat) (xs : Nat → Int32) : Nat → Nat → Nat → Int32 → Mem → Option (Int32 × Mem)
  | 0, _, _, _, _ => none
  | n + 1, v1, v2, v3, M =>
    if ((Int32.ofNat L) - (4 : Int32)) < v3 then (
      some ((1 : Int32), M)
      ) else (
      chk (inB v3 L) <|
      bnd ((xs (v3).toNatClampNeg) &&& (63 : Int32)) fun x4 =>
      if x4 = (0 : Int32) then (
        chk (inB (v3 + (1 : Int32)) L) <|
        chk (isO M 9 v1) <|
        obd2 (f_X9_grid n v1 (xs ((v3 + (1 : Int32))).toNatClampNeg) M) fun r11 M12 =>
        chk (inB (v3 + (1 : Int32)) L) <|
        chk (isO M12 10 v2) <|
        obd2 (f_X10_grid n v2 (xs ((v3 + (1 : Int32))).toNatClampNeg) M12) fun r16 M17 =>
        if r11 = r16 then (
          bnd (v3 + (4 : Int32)) fun x20 =>
          f_L_law_18 L xs n v1 v2 x20 M17
          ) else (
          some ((0 : Int32), M17)
          )
        ) else (
      if x4 = (1 : Int32) then (
        chk (inB (v3 + (1 : Int32)) L) <|
        chk (isO M 9 v1) <|
        obd2 (f_X9_plane n v1 (xs ((v3 + (1 : Int32))).toNatClampNeg) M) fun r27 M28 =>
        chk (inB (v3 + (1 : Int32)) L) <|
        chk (isO M28 10 v2) <|
        obd2 (f_X10_plane n v2 (xs ((v3 + (1 : Int32))).toNatClampNeg) M28) fun r32 M33 =>
        if r27 = r32 then (
          bnd (v3 + (4 : Int32)) fun x36 =>
          f_L_law_18 L xs n v1 v2 x36 M33
          ) else (
          some ((0 : Int32), M33)
          )
        ) else (
      if x4 = (2 : Int32) then (
        chk (inB (v3 + (1 : Int32)) L) <|
        chk (isO M 9 v1) <|
        obd2 (f_X9_filled n v1 (xs ((v3 + (1 : Int32))).toNatClampNeg) M) fun r43 M44 =>
        chk (inB (v3 + (1 : Int32)) L) <|
        chk (isO M44 10 v2) <|
        obd2 (f_X10_filled n v2 (xs ((v3 + (1 : Int32))).toNatClampNeg) M44) fun r48 M49 =>
        if r43 = r48 then (
          bnd (v3 + (4 : Int32)) fun x52 =>
          f_L_law_18 L xs n v1 v2 x52 M49
          ) else (
          some ((0 : Int32), M49)
          )
        ) else (
      if x4 = (3 : Int32) then (
        chk (inB (v3 + (1 : Int32)) L) <|
        chk (isO M 9 v1) <|
        obd2 (f_X9_majority n v1 (xs ((v3 + (1 : Int32))).toNatClampNeg) M) fun r59 M60 =>
        chk (inB (v3 + (1 : Int32)) L) <|
        chk (isO M60 10 v2) <|
        obd2 (f_X10_majority n v2 (xs ((v3 + (1 : Int32))).toNatClampNeg) M60) fun r64 M65 =>
        if r59 = r64 then (
          bnd (v3 + (4 : Int32)) fun x68 =>
          f_L_law_18 L xs n v1 v2 x68 M65
          ) else (
          some ((0 : Int32), M65)
          )
        ) else (
      if x4 = (4 : Int32) then (
        chk (inB (v3 + (1 : Int32)) L) <|
        chk (isO M 9 v1) <|
        obd2 (f_X9_wheel n v1 (xs ((v3 + (1 : Int32))).toNatClampNeg) M) fun r75 M76 =>
        chk (inB (v3 + (1 : Int32)) L) <|
        chk (isO M76 10 v2) <|
        obd2 (f_X10_wheel n v2 (xs ((v3 + (1 : Int32))).toNatClampNeg) M76) fun r80 M81 =>
        if r75 = r80 then (
          bnd (v3 + (4 : Int32)) fun x84 =>
          f_L_law_18 L xs n v1 v2 x84 M81
          ) else (
          some ((0 : Int32), M81)
          )
        ) else (
      if x4 = (5 : Int32) then (
        chk (inB (v3 + (1 : Int32)) L) <|
        chk (isO M 9 v1) <|
        obd2 (f_X9_tree n v1 (xs ((v3 + (1 : Int32))).toNatClampNeg) M) fun r91 M92 =>
        chk (inB (v3 + (1 : Int32)) L) <|
        chk (isO M92 10 v2) <|
        obd2 (f_X10_tree n v2 (xs ((v3 + (1 : Int32))).toNatClampNeg) M92) fun r96 M97 =>
        if r91 = r96 then (
          bnd (v3 + (4 : Int32)) fun x100 =>
          f_L_law_18 L xs n v1 v2 x100 M97
          ) else (
          some ((0 : Int32), M97)
          )
        ) else (
      if x4 = (6 : Int32) then (
        chk (inB (v3 + (1 : Int32)) L) <|
        chk (inB (v3 + (2 : Int32)) L) <|
        chk (isO M 9 v1) <|
        obd2 (f_X9_within n v1 (xs ((v3 + (1 : Int32))).toNatClampNeg) (xs ((v3 + (2 : Int32))).toNatClampNeg) M) fun r108 M109 =>
        chk (inB (v3 + (1 : Int32)) L) <|
        chk (inB (v3 + (2 : Int32)) L) <|
        chk (isO M109 10 v2) <|
        obd2 (f_X10_within n v2 (xs ((v3 + (1 : Int32))).toNatClampNeg) (xs ((v3 + (2 : Int32))).toNatClampNeg) M109) fun r114 M115 =>
        if r108 = r114 then (
          bnd (v3 + (4 : Int32)) fun x118 =>
          f_L_law_18 L xs n v1 v2 x118 M115
          ) else (
          some ((0 : Int32), M115)
          )
        ) else (
      if x4 = (7 : Int32) then (
        chk (inB (v3 + (1 : Int32)) L) <|
        chk (inB (v3 + (2 : Int32)) L) <|
        chk (isO M 9 v1) <|
        obd2 (f_X9_base n v1 (xs ((v3 + (1 : Int32))).toNatClampNeg) (xs ((v3 + (2 : Int32))).toNatClampNeg) M) fun r126 M127 =>
        chk (inB (v3 + (1 : Int32)) L) <|
        chk (inB (v3 + (2 : Int32)) L) <|
        chk (isO M127 10 v2) <|
        obd2 (f_X10_base n v2 (xs ((v3 + (1 : Int32))).toNatClampNeg) (xs ((v3 + (2 : Int32))).toNatClampNeg) M127) fun r132 M133 =>
        if r126 = r132 then (
          bnd (v3 + (4 : Int32)) fun x136 =>
          f_L_law_18 L xs n v1 v2 x136 M133
          ) else (
          some ((0 : Int32), M133)
          )
        ) else (
      if x4 = (8 : Int32) then (
        chk (inB (v3 + (1 : Int32)) L) <|
        chk (inB (v3 + (2 : Int32)) L) <|
        chk (isO M 9 v1) <|
        obd (f_X9_quorum v1 (xs ((v3 + (1 : Int32))).toNatClampNeg) (xs ((v3 + (2 : Int32))).toNatClampNeg) M) fun r144 =>
        chk (inB (v3 + (1 : Int32)) L) <|
        chk (inB (v3 + (2 : Int32)) L) <|
        chk (isO M 10 v2) <|
        obd2 (f_X10_quorum n v2 (xs ((v3 + (1 : Int32))).toNatClampNeg) (xs ((v3 + (2 : Int32))).toNatClampNeg) M) fun r149 M150 =>
        if r144 = r149 then (
          bnd (v3 + (4 : Int32)) fun x153 =>
          f_L_law_18 L xs n v1 v2 x153 M150
          ) else (
          some ((0 : Int32), M150)
          )
        ) else (
      if x4 = (9 : Int32) then (
        chk (inB (v3 + (1 : Int32)) L) <|
        chk (inB (v3 + (2 : Int32)) L) <|
        chk (isO M 9 v1) <|
        obd (f_X9_meeting v1 (xs ((v3 + (1 : Int32))).toNatClampNeg) (xs ((v3 + (2 : Int32))).toNatClampNeg) M) fun r161 =>
        chk (inB (v3 + (1 : Int32)) L) <|
        chk (inB (v3 + (2 : Int32)) L) <|
        chk (isO M 10 v2) <|
        obd (f_X10_meeting n v2 (xs ((v3 + (1 : Int32))).toNatClampNeg) (xs ((v3 + (2 : Int32))).toNatClampNeg) M) fun r166 =>
        if r161 = r166 then (
          bnd (v3 + (4 : Int32)) fun x169 =>
          f_L_law_18 L xs n v1 v2 x169 M
          ) else (
          some ((0 : Int32), M)
          )
        ) else (
      if x4 = (10 : Int32) then (
        chk (isO M 9 v1) <|
        obd (f_X9_apart n v1 M) fun r175 =>
        chk (isO M 10 v2) <|
        obd (f_X10_apart n v2 M) fun r178 =>
        if r175 = r178 then (
          bnd (v3 + (4 : Int32)) fun x181 =>
          f_L_law_18 L xs n v1 v2 x181 M
          ) else (
          some ((0 : Int32), M)
          )
        ) else (
      if x4 = (11 : Int32) then (
        chk (inB (v3 + (1 : Int32)) L) <|
        chk (isO M 9 v1) <|
        obd (f_X9_load n v1 (xs ((v3 + (1 : Int32))).toNatClampNeg) M) fun r188 =>
        chk (inB (v3 + (1 : Int32)) L) <|
        chk (isO M 10 v2) <|
        obd (f_X10_load n v2 (xs ((v3 + (1 : Int32))).toNatClampNeg) M) fun r192 =>
        if r188 = r192 then (
          bnd (v3 + (4 : Int32)) fun x195 =>
          f_L_law_18 L xs n v1 v2 x195 M
          ) else (
          some ((0 : Int32), M)
          )
        ) else (
      if x4 = (12 : Int32) then (
        chk (inB (v3 + (1 : Int32)) L) <|
        chk (isO M 9 v1) <|
        obd2 (f_X9_stops n v1 (xs ((v3 + (1 : Int32))).toNatClampNeg) M) fun r202 M203 =>
        chk (inB (v3 + (1 : Int32)) L) <|
        chk (isO M203 10 v2) <|
        obd2 (f_X10_stops n v2 (xs ((v3 + (1 : Int32))).toNatClampNeg) M203) fun r207 M208 =>
        if r202 = r207 then (
          bnd (v3 + (4 : Int32)) fun x211 =>
          f_L_law_18 L xs n v1 v2 x211 M208
          ) else (
          some ((0 : Int32), M208)
          )
        ) else (
      if x4 = (13 : Int32) then (
        chk (inB (v3 + (1 : Int32)) L) <|
        chk (isO M 9 v1) <|
        obd2 (f_X9_weakest n v1 (xs ((v3 + (1 : Int32))).toNatClampNeg) M) fun r218 M219 =>
        chk (inB (v3 + (1 : Int32)) L) <|
        chk (isO M219 10 v2) <|
        obd2 (f_X10_weakest n v2 (xs ((v3 + (1 : Int32))).toNatClampNeg) M219) fun r223 M224 =>
        if r218 = r223 then (
          bnd (v3 + (4 : Int32)) fun x227 =>
          f_L_law_18 L xs n v1 v2 x227 M224
          ) else (
          some ((0 : Int32), M224)
          )
        ) else (
      if x4 = (14 : Int32) then (
        chk (isO M 9 v1) <|
        obd (f_X9_needless n v1 M) fun r233 =>
        chk (isO M 10 v2) <|
        obd (f_X10_needless n v2 M) fun r236 =>
        if r233 = r236 then (
          bnd (v3 + (4 : Int32)) fun x239 =>
          f_L_law_18 L xs n v1 v2 x239 M
          ) else (
          some ((0 : Int32), M)
          )
        ) else (
      if x4 = (15 : Int32) then (
        chk (inB (v3 + (1 : Int32)) L) <|
        chk (isO M 9 v1) <|
        obd2 (f_X9_chance n v1 (xs ((v3 + (1 : Int32))).toNatClampNeg) M) fun r246 M247 =>
        chk (inB (v3 + (1 : Int32)) L) <|
        chk (isO M247 10 v2) <|
        obd2 (f_X10_chance n v2 (xs ((v3 + (1 : Int32))).toNatClampNeg) M247) fun r251 M252 =>
        if r246 = r251 then (
          bnd (v3 + (4 : Int32)) fun x255 =>
          f_L_law_18 L xs n v1 v2 x255 M252
          ) else (
          some ((0 : Int32), M252)
          )
        ) else (
      if x4 = (16 : Int32) then (
        chk (inB (v3 + (1 : Int32)) L) <|
        chk (inB (v3 + (2 : Int32)) L) <|
        chk (isO M 9 v1) <|
        obd2 (f_X9_chanceOf n v1 (xs ((v3 + (1 : Int32))).toNatClampNeg) (xs ((v3 + (2 : Int32))).toNatClampNeg) M) fun r263 M264 =>
        chk (inB (v3 + (1 : Int32)) L) <|
        chk (inB (v3 + (2 : Int32)) L) <|
        chk (isO M264 10 v2) <|
        obd2 (f_X10_chanceOf n v2 (xs ((v3 + (1 : Int32))).toNatClampNeg) (xs ((v3 + (2 : Int32))).toNatClampNeg) M264) fun r269 M270 =>
        if r263 = r269 then (
          bnd (v3 + (4 : Int32)) fun x273 =>
          f_L_law_18 L xs n v1 v2 x273 M270
          ) else (
          some ((0 : Int32), M270)
          )
        ) else (
      if x4 = (17 : Int32) then (
        chk (inB (v3 + (1 : Int32)) L) <|
        chk (isO M 9 v1) <|
        obd (f_X9_sizes n v1 (xs ((v3 + (1 : Int32))).toNatClampNeg) M) fun r280 =>
        chk (inB (v3 + (1 : Int32)) L) <|
        chk (isO M 10 v2) <|
        obd (f_X10_sizes n v2 (xs ((v3 + (1 : Int32))).toNatClampNeg) M) fun r284 =>
        if r280 = r284 then (
          bnd (v3 + (4 : Int32)) fun x287 =>
          f_L_law_18 L xs n v1 v2 x287 M
          ) else (
          some ((0 : Int32), M)
          )
        ) else (
      if x4 = (18 : Int32) then (
        chk (inB (v3 + (1 : Int32)) L) <|
        chk (isO M 9 v1) <|
        obd2 (f_X9_pivotal n v1 (xs ((v3 + (1 : Int32))).toNatClampNeg) M) fun r294 M295 =>
        chk (inB (v3 + (1 : Int32)) L) <|
        chk (isO M295 10 v2) <|
        obd (f_X10_pivotal n v2 (xs ((v3 + (1 : Int32))).toNatClampNeg) M295) fun r299 =>
        if r294 = r299 then (
          bnd (v3 + (4 : Int32)) fun x302 =>
          f_L_law_18 L xs n v1 v2 x302 M295
          ) else (
          some ((0 : Int32), M295)
          )
        ) else (
      if x4 = (19 : Int32) then (
        chk (isO M 9 v1) <|
        obd (f_X9_fair n v1 M) fun r308 =>
        chk (isO M 10 v2) <|
        obd (f_X10_fair n v2 M) fun r311 =>
        if r308 = r311 then (
          bnd (v3 + (4 : Int32)) fun x314 =>
          f_L_law_18 L xs n v1 v2 x314 M
          ) else (
          some ((0 : Int32), M)
          )
        ) else (
      if x4 = (20 : Int32) then (
        chk (isO M 9 v1) <|
        obd2 (f_X9_better n v1 M) fun r320 M321 =>
        chk (isO M321 10 v2) <|
        obd (f_X10_better n v2 M321) fun r324 =>
        if r320 = r324 then (
          bnd (v3 + (4 : Int32)) fun x327 =>
          f_L_law_18 L xs n v1 v2 x327 M321
          ) else (
          some ((0 : Int32), M321)
          )
        ) else (
      if x4 = (21 : Int32) then (
        chk (inB (v3 + (1 : Int32)) L) <|
        chk (isO M 9 v1) <|
        obd2 (f_X9_ask n v1 (xs ((v3 + (1 : Int32))).toNatClampNeg) M) fun r334 M335 =>
        chk (inB (v3 + (1 : Int32)) L) <|
        chk (isO M335 10 v2) <|
        obd2 (f_X10_ask n v2 (xs ((v3 + (1 : Int32))).toNatClampNeg) M335) fun r339 M340 =>
        if r334 = r339 then (
          bnd (v3 + (4 : Int32)) fun x343 =>
          f_L_law_18 L xs n v1 v2 x343 M340
          ) else (
          some ((0 : Int32), M340)
          )
        ) else (
      if x4 = (22 : Int32) then (
        chk (inB (v3 + (1 : Int32)) L) <|
        chk (isO M 9 v1) <|
        obd2 (f_X9_leave n v1 (xs ((v3 + (1 : Int32))).toNatClampNeg) M) fun r350 M351 =>
        chk (inB (v3 + (1 : Int32)) L) <|
        chk (isO M351 10 v2) <|
        obd2 (f_X10_leave n v2 (xs ((v3 + (1 : Int32))).toNatClampNeg) M351) fun r355 M356 =>
        if r350 = r355 then (
          bnd (v3 + (4 : Int32)) fun x359 =>
          f_L_law_18 L xs n v1 v2 x359 M356
          ) else (
          some ((0 : Int32), M356)
          )
        ) else (
      if x4 = (23 : Int32) then (
        chk (inB (v3 + (1 : Int32)) L) <|
        chk (inB (v3 + (2 : Int32)) L) <|
        chk (isO M 9 v1) <|
        obd2 (f_X9_bring n v1 (xs ((v3 + (1 : Int32))).toNatClampNeg) (xs ((v3 + (2 : Int32))).toNatClampNeg) M) fun r367 M368 =>
        chk (inB (v3 + (1 : Int32)) L) <|
        chk (inB (v3 + (2 : Int32)) L) <|
        chk (isO M368 10 v2) <|
        obd2 (f_X10_bring n v2 (xs ((v3 + (1 : Int32))).toNatClampNeg) (xs ((v3 + (2 : Int32))).toNatClampNeg) M368) fun r373 M374 =>
        if r367 = r373 then (
          bnd (v3 + (4 : Int32)) fun x377 =>
          f_L_law_18 L xs n v1 v2 x377 M374
          ) else (
          some ((0 : Int32), M374)
          )
        ) else (
      if x4 = (24 : Int32) then (
        chk (inB (v3 + (1 : Int32)) L) <|
        chk (isO M 9 v1) <|
        obd2 (f_X9_withdraw n v1 (xs ((v3 + (1 : Int32))).toNatClampNeg) M) fun r384 M385 =>
        chk (inB (v3 + (1 : Int32)) L) <|
        chk (isO M385 10 v2) <|
        obd2 (f_X10_withdraw n v2 (xs ((v3 + (1 : Int32))).toNatClampNeg) M385) fun r389 M390 =>
        if r384 = r389 then (
          bnd (v3 + (4 : Int32)) fun x393 =>
          f_L_law_18 L xs n v1 v2 x393 M390
          ) else (
          some ((0 : Int32), M390)
          )
        ) else (
      if x4 = (25 : Int32) then (
        chk (inB (v3 + (1 : Int32)) L) <|
        chk (isO M 9 v1) <|
        obd2 (f_X9_breakDown n v1 (xs ((v3 + (1 : Int32))).toNatClampNeg) M) fun r400 M401 =>
        chk (inB (v3 + (1 : Int32)) L) <|
        chk (isO M401 10 v2) <|
        obd2 (f_X10_breakDown n v2 (xs ((v3 + (1 : Int32))).toNatClampNeg) M401) fun r405 M406 =>
        if r400 = r405 then (
          bnd (v3 + (4 : Int32)) fun x409 =>
          f_L_law_18 L xs n v1 v2 x409 M406
          ) else (
          some ((0 : Int32), M406)
          )
        ) else (
      if x4 = (26 : Int32) then (
        chk (inB (v3 + (1 : Int32)) L) <|
        chk (isO M 9 v1) <|
        obd2 (f_X9_mend n v1 (xs ((v3 + (1 : Int32))).toNatClampNeg) M) fun r416 M417 =>
        chk (inB (v3 + (1 : Int32)) L) <|
        chk (isO M417 10 v2) <|
        obd2 (f_X10_mend n v2 (xs ((v3 + (1 : Int32))).toNatClampNeg) M417) fun r421 M422 =>
        if r416 = r421 then (
          bnd (v3 + (4 : Int32)) fun x425 =>
          f_L_law_18 L xs n v1 v2 x425 M422
          ) else (
          some ((0 : Int32), M422)
          )
        ) else (
      if x4 = (27 : Int32) then (
        chk (inB (v3 + (1 : Int32)) L) <|
        chk (inB (v3 + (2 : Int32)) L) <|
        chk (isO M 9 v1) <|
        obd (f_X9_node v1 (xs ((v3 + (1 : Int32))).toNatClampNeg) (xs ((v3 + (2 : Int32))).toNatClampNeg) M) fun r433 =>
        chk (inB (v3 + (1 : Int32)) L) <|
        chk (inB (v3 + (2 : Int32)) L) <|
        chk (isO M 10 v2) <|
        obd (f_X10_node v2 (xs ((v3 + (1 : Int32))).toNatClampNeg) (xs ((v3 + (2 : Int32))).toNatClampNeg) M) fun r438 =>
        if r433 = r438 then (
          bnd (v3 + (4 : Int32)) fun x441 =>
          f_L_law_18 L xs n v1 v2 x441 M
          ) else (
          some ((0 : Int32), M)
          )
        ) else (
      if x4 = (28 : Int32) then (
        chk (inB (v3 + (1 : Int32)) L) <|
        chk (inB (v3 + (2 : Int32)) L) <|
        chk (isO M 9 v1) <|
        obd (f_X9_arbiter v1 (xs ((v3 + (1 : Int32))).toNatClampNeg) (xs ((v3 + (2 : Int32))).toNatClampNeg) M) fun r449 =>
        chk (inB (v3 + (1 : Int32)) L) <|
        chk (inB (v3 + (2 : Int32)) L) <|
        chk (isO M 10 v2) <|
        obd (f_X10_arbiter v2 (xs ((v3 + (1 : Int32))).toNatClampNeg) (xs ((v3 + (2 : Int32))).toNatClampNeg) M) fun r454 =>
        if r449 = r454 then (
          bnd (v3 + (4 : Int32)) fun x457 =>
          f_L_law_18 L xs n v1 v2 x457 M
          ) else (
          some ((0 : Int32), M)
          )
        ) else (
      if x4 = (29 : Int32) then (
        chk (inB (v3 + (1 : Int32)) L) <|
        chk (inB (v3 + (2 : Int32)) L) <|
        chk (inB (v3 + (3 : Int32)) L) <|
        chk (isO M 9 v1) <|
        obd (f_X9_waiting n v1 (xs ((v3 + (1 : Int32))).toNatClampNeg) (xs ((v3 + (2 : Int32))).toNatClampNeg) (xs ((v3 + (3 : Int32))).toNatClampNeg) M) fun r466 =>
        chk (inB (v3 + (1 : Int32)) L) <|
        chk (inB (v3 + (2 : Int32)) L) <|
        chk (inB (v3 + (3 : Int32)) L) <|
        chk (isO M 10 v2) <|
        obd (f_X10_waiting v2 (xs ((v3 + (1 : Int32))).toNatClampNeg) (xs ((v3 + (2 : Int32))).toNatClampNeg) (xs ((v3 + (3 : Int32))).toNatClampNeg) M) fun r472 =>
        if r466 = r472 then (
          bnd (v3 + (4 : Int32)) fun x475 =>
          f_L_law_18 L xs n v1 v2 x475 M
          ) else (
          some ((0 : Int32), M)
          )
        ) else (
      if x4 = (30 : Int32) then (
        chk (inB (v3 + (1 : Int32)) L) <|
        chk (inB (v3 + (2 : Int32)) L) <|
        chk (inB (v3 + (3 : Int32)) L) <|
        chk (isO M 9 v1) <|
        obd (f_X9_way n v1 (xs ((v3 + (1 : Int32))).toNatClampNeg) (xs ((v3 + (2 : Int32))).toNatClampNeg) (xs ((v3 + (3 : Int32))).toNatClampNeg) M) fun r484 =>
        chk (inB (v3 + (1 : Int32)) L) <|
        chk (inB (v3 + (2 : Int32)) L) <|
        chk (inB (v3 + (3 : Int32)) L) <|
        chk (isO M 10 v2) <|
        obd (f_X10_way n v2 (xs ((v3 + (1 : Int32))).toNatClampNeg) (xs ((v3 + (2 : Int32))).toNatClampNeg) (xs ((v3 + (3 : Int32))).toNatClampNeg) M) fun r490 =>
        if r484 = r490 then (
          bnd (v3 + (4 : Int32)) fun x493 =>
          f_L_law_18 L xs n v1 v2 x493 M
          ) else (
          some ((0 : Int32), M)
          )
        ) else (
      if x4 = (31 : Int32) then (
        chk (inB (v3 + (1 : Int32)) L) <|
        chk (isO M 9 v1) <|
        obd2 (f_X9_is n v1 (xs ((v3 + (1 : Int32))).toNatClampNeg) M) fun r500 M501 =>
        chk (inB (v3 + (1 : Int32)) L) <|
        chk (isO M501 10 v2) <|
        obd2 (f_X10_is n v2 (xs ((v3 + (1 : Int32))).toNatClampNeg) M501) fun r505 M506 =>
        if r500 = r505 then (
          bnd (v3 + (4 : Int32)) fun x509 =>
          f_L_law_18 L xs n v1 v2 x509 M506
          ) else (
          some ((0 : Int32), M506)
          )
        ) else (
      if x4 = (32 : Int32) then (
        chk (inB (v3 + (1 : Int32)) L) <|
        chk (isO M 9 v1) <|
        obd (f_X9_handled v1 (xs ((v3 + (1 : Int32))).toNatClampNeg) M) fun r516 =>
        chk (inB (v3 + (1 : Int32)) L) <|
        chk (isO M 10 v2) <|
        obd (f_X10_handled v2 (xs ((v3 + (1 : Int32))).toNatClampNeg) M) fun r520 =>
        if r516 = r520 then (
          bnd (v3 + (4 : Int32)) fun x523 =>
          f_L_law_18 L xs n v1 v2 x523 M
          ) else (
          some ((0 : Int32), M)
          )
        ) else (
      if x4 = (33 : Int32) then (
        chk (inB (v3 + (1 : Int32)) L) <|
        chk (isO M 9 v1) <|
        obd (f_X9_sent n v1 (xs ((v3 + (1 : Int32))).toNatClampNeg) M) fun r530 =>
        chk (inB (v3 + (1 : Int32)) L) <|
        chk (isO M 10 v2) <|
        obd (f_X10_sent n v2 (xs ((v3 + (1 : Int32))).toNatClampNeg) M) fun r534 =>
        if r530 = r534 then (
          bnd (v3 + (4 : Int32)) fun x537 =>
          f_L_law_18 L xs n v1 v2 x537 M
          ) else (
          some ((0 : Int32), M)
          )
        ) else (
      if x4 = (34 : Int32) then (
        chk (inB (v3 + (1 : Int32)) L) <|
        chk (inB (v3 + (2 : Int32)) L) <|
        chk (isO M 9 v1) <|
        obd (f_X9_book v1 (xs ((v3 + (1 : Int32))).toNatClampNeg) (xs ((v3 + (2 : Int32))).toNatClampNeg) M) fun r545 =>
        chk (inB (v3 + (1 : Int32)) L) <|
        chk (inB (v3 + (2 : Int32)) L) <|
        chk (isO M 10 v2) <|
        obd (f_X10_book v2 (xs ((v3 + (1 : Int32))).toNatClampNeg) (xs ((v3 + (2 : Int32))).toNatClampNeg) M) fun r550 =>
        if r545 = r550 then (
          bnd (v3 + (4 : Int32)) fun x553 =>
          f_L_law_18 L xs n v1 v2 x553 M
          ) else (
          some ((0 : Int32), M)
          )
        ) else (
      if x4 = (35 : Int32) then (
        chk (inB (v3 + (1 : Int32)) L) <|
        chk (isO M 9 v1) <|
        obd (f_X9_waitsFor n v1 (xs ((v3 + (1 : Int32))).toNatClampNeg) M) fun r560 =>
        chk (inB (v3 + (1 : Int32)) L) <|
        chk (isO M 10 v2) <|
        obd (f_X10_waitsFor n v2 (xs ((v3 + (1 : Int32))).toNatClampNeg) M) fun r564 =>
        if r560 = r564 then (
          bnd (v3 + (4 : Int32)) fun x567 =>
          f_L_law_18 L xs n v1 v2 x567 M
          ) else (
          some ((0 : Int32), M)
          )
        ) else (
      if x4 = (36 : Int32) then (
        chk (inB (v3 + (1 : Int32)) L) <|
        chk (isO M 9 v1) <|
        obd (f_X9_unheard v1 (xs ((v3 + (1 : Int32))).toNatClampNeg) M) fun r574 =>
        chk (inB (v3 + (1 : Int32)) L) <|
        chk (isO M 10 v2) <|
        obd (f_X10_unheard v2 (xs ((v3 + (1 : Int32))).toNatClampNeg) M) fun r578 =>
        if r574 = r578 then (
          bnd (v3 + (4 : Int32)) fun x581 =>
          f_L_law_18 L xs n v1 v2 x581 M
          ) else (
          some ((0 : Int32), M)
          )
        ) else (
      if x4 = (37 : Int32) then (
        chk (inB (v3 + (1 : Int32)) L) <|
        chk (isO M 9 v1) <|
        obd (f_X9_crowded n v1 (xs ((v3 + (1 : Int32))).toNatClampNeg) M) fun r588 =>
        chk (inB (v3 + (1 : Int32)) L) <|
        chk (isO M 10 v2) <|
        obd (f_X10_crowded n v2 (xs ((v3 + (1 : Int32))).toNatClampNeg) M) fun r592 =>
        if r588 = r592 then (
          bnd (v3 + (4 : Int32)) fun x595 =>
          f_L_law_18 L xs n v1 v2 x595 M
          ) else (
          some ((0 : Int32), M)
          )
        ) else (
      if x4 = (38 : Int32) then (
        chk (inB (v3 + (1 : Int32)) L) <|
        chk (inB (v3 + (2 : Int32)) L) <|
        chk (isO M 9 v1) <|
        obd (f_X9_trace v1 (xs ((v3 + (1 : Int32))).toNatClampNeg) (xs ((v3 + (2 : Int32))).toNatClampNeg) M) fun r603 =>
        chk (inB (v3 + (1 : Int32)) L) <|
        chk (inB (v3 + (2 : Int32)) L) <|
        chk (isO M 10 v2) <|
        obd (f_X10_trace v2 (xs ((v3 + (1 : Int32))).toNatClampNeg) (xs ((v3 + (2 : Int32))).toNatClampNeg) M) fun r608 =>
        if r603 = r608 then (
          bnd (v3 + (4 : Int32)) fun x611 =>
          f_L_law_18 L xs n v1 v2 x611 M
          ) else (
          some ((0 : Int32), M)
          )
        ) else (
      if x4 = (39 : Int32) then (
        chk (inB (v3 + (1 : Int32)) L) <|
        chk (inB (v3 + (2 : Int32)) L) <|
        chk (isO M 9 v1) <|
        obd2 (f_X9_goOn n v1 (xs ((v3 + (1 : Int32))).toNatClampNeg) (xs ((v3 + (2 : Int32))).toNatClampNeg) M) fun r619 M620 =>
        chk (inB (v3 + (1 : Int32)) L) <|
        chk (inB (v3 + (2 : Int32)) L) <|
        chk (isO M620 10 v2) <|
        obd2 (f_X10_goOn n v2 (xs ((v3 + (1 : Int32))).toNatClampNeg) (xs ((v3 + (2 : Int32))).toNatClampNeg) M620) fun r625 M626 =>
        if r619 = r625 then (
          bnd (v3 + (4 : Int32)) fun x629 =>
          f_L_law_18 L xs n v1 v2 x629 M626
          ) else (
          some ((0 : Int32), M626)
          )
        ) else (
      if x4 = (40 : Int32) then (
        chk (inB (v3 + (1 : Int32)) L) <|
        chk (inB (v3 + (2 : Int32)) L) <|
        chk (isO M 9 v1) <|
        obd2 (f_X9_entersBy n v1 (xs ((v3 + (1 : Int32))).toNatClampNeg) (xs ((v3 + (2 : Int32))).toNatClampNeg) M) fun r637 M638 =>
        chk (inB (v3 + (1 : Int32)) L) <|
        chk (inB (v3 + (2 : Int32)) L) <|
        chk (isO M638 10 v2) <|
        obd2 (f_X10_entersBy n v2 (xs ((v3 + (1 : Int32))).toNatClampNeg) (xs ((v3 + (2 : Int32))).toNatClampNeg) M638) fun r643 M644 =>
        if r637 = r643 then (
          bnd (v3 + (4 : Int32)) fun x647 =>
          f_L_law_18 L xs n v1 v2 x647 M644
          ) else (
          some ((0 : Int32), M644)
          )
        ) else (
      if x4 = (41 : Int32) then (
        chk (inB (v3 + (1 : Int32)) L) <|
        chk (inB (v3 + (2 : Int32)) L) <|
        chk (isO M 9 v1) <|
        obd2 (f_X9_searched n v1 (xs ((v3 + (1 : Int32))).toNatClampNeg) (xs ((v3 + (2 : Int32))).toNatClampNeg) M) fun r655 M656 =>
        chk (inB (v3 + (1 : Int32)) L) <|
        chk (inB (v3 + (2 : Int32)) L) <|
        chk (isO M656 10 v2) <|
        obd2 (f_X10_searched n v2 (xs ((v3 + (1 : Int32))).toNatClampNeg) (xs ((v3 + (2 : Int32))).toNatClampNeg) M656) fun r661 M662 =>
        if r655 = r661 then (
          bnd (v3 + (4 : Int32)) fun x665 =>
          f_L_law_18 L xs n v1 v2 x665 M662
          ) else (
          some ((0 : Int32), M662)
          )
        ) else (
      if x4 = (42 : Int32) then (
        chk (inB (v3 + (1 : Int32)) L) <|
        chk (inB (v3 + (2 : Int32)) L) <|
        chk (inB (v3 + (3 : Int32)) L) <|
        chk (isO M 9 v1) <|
        obd2 (f_X9_searchedBy n v1 (xs ((v3 + (1 : Int32))).toNatClampNeg) (xs ((v3 + (2 : Int32))).toNatClampNeg) (xs ((v3 + (3 : Int32))).toNatClampNeg) M) fun r674 M675 =>
        chk (inB (v3 + (1 : Int32)) L) <|
        chk (inB (v3 + (2 : Int32)) L) <|
        chk (inB (v3 + (3 : Int32)) L) <|
        chk (isO M675 10 v2) <|
        obd2 (f_X10_searchedBy n v2 (xs ((v3 + (1 : Int32))).toNatClampNeg) (xs ((v3 + (2 : Int32))).toNatClampNeg) (xs ((v3 + (3 : Int32))).toNatClampNeg) M675) fun r681 M682 =>
        if r674 = r681 then (
          bnd (v3 + (4 : Int32)) fun x685 =>
          f_L_law_18 L xs n v1 v2 x685 M682
          ) else (
          some ((0 : Int32), M682)
          )
        ) else (
      if x4 = (43 : Int32) then (
        chk (inB (v3 + (1 : Int32)) L) <|
        chk (inB (v3 + (2 : Int32)) L) <|
        chk (inB (v3 + (3 : Int32)) L) <|
        chk (isO M 9 v1) <|
        obd2 (f_X9_delay v1 (xs ((v3 + (1 : Int32))).toNatClampNeg) (xs ((v3 + (2 : Int32))).toNatClampNeg) (xs ((v3 + (3 : Int32))).toNatClampNeg) M) fun r694 M695 =>
        chk (inB (v3 + (1 : Int32)) L) <|
        chk (inB (v3 + (2 : Int32)) L) <|
        chk (inB (v3 + (3 : Int32)) L) <|
        chk (isO M695 10 v2) <|
        obd2 (f_X10_delay v2 (xs ((v3 + (1 : Int32))).toNatClampNeg) (xs ((v3 + (2 : Int32))).toNatClampNeg) (xs ((v3 + (3 : Int32))).toNatClampNeg) M695) fun r701 M702 =>
        if r694 = r701 then (
          bnd (v3 + (4 : Int32)) fun x705 =>
          f_L_law_18 L xs n v1 v2 x705 M702
          ) else (
          some ((0 : Int32), M702)
          )
        ) else (
      if x4 = (44 : Int32) then (
        chk (inB (v3 + (1 : Int32)) L) <|
        chk (inB (v3 + (2 : Int32)) L) <|
        chk (inB (v3 + (3 : Int32)) L) <|
        chk (isO M 9 v1) <|
        obd2 (f_X9_timed n v1 (xs ((v3 + (1 : Int32))).toNatClampNeg) (xs ((v3 + (2 : Int32))).toNatClampNeg) (xs ((v3 + (3 : Int32))).toNatClampNeg) M) fun r714 M715 =>
        chk (inB (v3 + (1 : Int32)) L) <|
        chk (inB (v3 + (2 : Int32)) L) <|
        chk (inB (v3 + (3 : Int32)) L) <|
        chk (isO M715 10 v2) <|
        obd2 (f_X10_timed n v2 (xs ((v3 + (1 : Int32))).toNatClampNeg) (xs ((v3 + (2 : Int32))).toNatClampNeg) (xs ((v3 + (3 : Int32))).toNatClampNeg) M715) fun r721 M722 =>
        if r714 = r721 then (
          bnd (v3 + (4 : Int32)) fun x725 =>
          f_L_law_18 L xs n v1 v2 x725 M722
          ) else (
          some ((0 : Int32), M722)
          )
        ) else (
      if x4 = (45 : Int32) then (
        chk (inB (v3 + (1 : Int32)) L) <|
        chk (inB (v3 + (2 : Int32)) L) <|
        chk (isO M 9 v1) <|
        obd2 (f_X9_soonest n v1 (xs ((v3 + (1 : Int32))).toNatClampNeg) (xs ((v3 + (2 : Int32))).toNatClampNeg) M) fun r733 M734 =>
        chk (inB (v3 + (1 : Int32)) L) <|
        chk (inB (v3 + (2 : Int32)) L) <|
        chk (isO M734 10 v2) <|
        obd2 (f_X10_soonest n v2 (xs ((v3 + (1 : Int32))).toNatClampNeg) (xs ((v3 + (2 : Int32))).toNatClampNeg) M734) fun r739 M740 =>
        if r733 = r739 then (
          bnd (v3 + (4 : Int32)) fun x743 =>
          f_L_law_18 L xs n v1 v2 x743 M740
          ) else (
          some ((0 : Int32), M740)
          )
        ) else (
      if x4 = (46 : Int32) then (
        chk (inB (v3 + (1 : Int32)) L) <|
        chk (inB (v3 + (2 : Int32)) L) <|
        chk (inB (v3 + (3 : Int32)) L) <|
        chk (isO M 9 v1) <|
        obd2 (f_X9_crowd n v1 (xs ((v3 + (1 : Int32))).toNatClampNeg) (xs ((v3 + (2 : Int32))).toNatClampNeg) (xs ((v3 + (3 : Int32))).toNatClampNeg) M) fun r752 M753 =>
        chk (inB (v3 + (1 : Int32)) L) <|
        chk (inB (v3 + (2 : Int32)) L) <|
        chk (inB (v3 + (3 : Int32)) L) <|
        chk (isO M753 10 v2) <|
        obd2 (f_X10_crowd n v2 (xs ((v3 + (1 : Int32))).toNatClampNeg) (xs ((v3 + (2 : Int32))).toNatClampNeg) (xs ((v3 + (3 : Int32))).toNatClampNeg) M753) fun r759 M760 =>
        if r752 = r759 then (
          bnd (v3 + (4 : Int32)) fun x763 =>
          f_L_law_18 L xs n v1 v2 x763 M760
          ) else (
          some ((0 : Int32), M760)
          )
        ) else (
      if x4 = (47 : Int32) then (
        chk (isO M 9 v1) <|
        obd (f_X9_mean n v1 M) fun r769 =>
        chk (isO M 10 v2) <|
        obd (f_X10_mean n v2 M) fun r772 =>
        if r769 = r772 then (
          bnd (v3 + (4 : Int32)) fun x775 =>
          f_L_law_18 L xs n v1 v2 x775 M
          ) else (
          some ((0 : Int32), M)
          )
        ) else (
      if x4 = (48 : Int32) then (
        chk (isO M 9 v1) <|
        obd (f_X9_byRoot n v1 M) fun r781 =>
        chk (isO M 10 v2) <|
        obd (f_X10_byRoot n v2 M) fun r784 =>
        if (lg_cmp r781 r784) = 0 then (
          bnd (v3 + (4 : Int32)) fun x787 =>
          f_L_law_18 L xs n v1 v2 x787 M
          ) else (
          some ((0 : Int32), M)
          )
        ) else (
      bnd (v3 + (4 : Int32)) fun x789 =>
      f_L_law_18 L xs n v1 v2 x789 M
      )
      )
      )
      )
      )
      )
      )
      )
      )
      )
      )
      )
      )
      )
      )
      )
      )
      )
      )
      )
      )
      )
      )
      )
      )
      )
      )
      )
      )
      )
      )
      )
      )
      )
      )
      )
      )
      )
      )
      )
      )
      )
      )
      )
      )
      )
      )
      )
      )
      )
def f_L_law (L : Nat) (xs : Nat → Int32) (n : Nat) (M : Mem) : Option (Int32 × Mem) :=
  chk (mN M + 1 ≤ CAP ∧ mU M + 6 ≤ CAPU) <|
  bnd (mN M) fun o4 =>
  bnd (nw M 9 0 6) fun M2 =>
  obd (f_X9_init n o4 M2) fun M8 =>
  chk (mN M8 + 1 ≤ CAP ∧ mU M8 + 25 ≤ CAPU) <|
  bnd (mN M8) fun o12 =>
  bnd (nw M8 10 0 25) fun M10 =>
  obd (f_X10_init n o12 M10) fun M16 =>
  f_L_law_18 L xs n o4 o12 (0 : Int32) M16
section
variable {p : Program} {l : Launch} {e : Env} {s s0 : State} {d0 : Drawn} {m : MethodId} {below : List Frame} {meth : Method} {c : Code} {G : Gam} {M0 : Mem} {b L : Nat} {xs : Nat → Int32}
theorem l_L_law_18 {rv : Mem} (X : Cx p room_1 s m #[Value.ref b] c G M0 cL_law yL_law.cls 4 11 257) (hr : meth.sig.returnType = ret) (hlk : meth.locks = false) (hnm : LawB s0 d0 s b L xs G M0) : ∀ {n : Nat} (v1 : Nat) (v2 : Nat) (v3 : Int32) (M : Mem), f_L_law_18 L xs n v1 v2 v3 M = some ((1 : Int32), rv) → Sg p l e room_1 s m #[Value.ref b] below meth c (lw_Z below #[Value.ref b] s0) G M0 4 18 [(0, .ref b), (1, .ref (gB G + v1)), (2, .ref (gB G + v2)), (3, .int v3)] [] M := by
  intro n
  induction n with
  | zero => intro v1 v2 v3 M hf; exact (pk_none hf).elim
  | succ n ih =>
    intro v1 v2 v3 M hf
    rw [f_L_law_18] at hf
    refine s_iload_n X 3 dL_law_18 rfl rfl ?_
    refine s_aload_n X 0 dL_law_19 rfl rfl ?_
    refine s_slen X hnm.1 hnm.2.1 hnm.2.2.1 dL_law_20 ?_
    refine s_iconst X (v := (4 : Int32)) dL_law_21 rfl ?_
    refine s_isub X dL_law_22 ?_
    have hs1 := pk_ite hf
    clear hf
    refine s_icmp_gt X (tgt := 1578) dL_law_23 rfl (fun c2 => ?_) (fun c2 => ?_)
    · have hf := hs1.1 c2
      refine s_iconst X (v := (1 : Int32)) dL_law_1578 rfl ?_
      cases hf
      exact s_lawret X hr hlk hnm dL_law_1579
    · have hf := hs1.2 c2
      refine s_aload_n X 0 dL_law_26 rfl rfl ?_
      refine s_iload_n X 3 dL_law_27 rfl rfl ?_
      obtain ⟨h3, hf⟩ := pk_chk hf
      refine s_sld X hnm.1 hnm.2.1 hnm.2.2.1 h3 dL_law_28 ?_
      refine s_bipush X (v := (63 : Int32)) dL_law_29 rfl ?_
      refine s_iand X dL_law_31 ?_
      obtain ⟨x4, e5, hf⟩ := pk_bnd hf
      refine s_nmI e5 ?_
      have hs6 := pk_ite hf
      clear hf
      by_cases c7 : x4 = (0 : Int32)
      · have hf := hs6.1 c7
        refine s_swC X (v := (0 : Int32)) (tgt := 244) dL_law_32 c7 (by decide) (by decide) rfl rfl ?_
        refine s_aload_n X 1 dL_law_244 rfl rfl ?_
        refine s_aload_n X 0 dL_law_245 rfl rfl ?_
        refine s_iload_n X 3 dL_law_246 rfl rfl ?_
        refine s_iconst X (v := (1 : Int32)) dL_law_247 rfl ?_
        refine s_iadd X dL_law_248 ?_
        obtain ⟨h8, hf⟩ := pk_chk hf
        refine s_sld X hnm.1 hnm.2.1 hnm.2.2.1 h8 dL_law_249 ?_
        obtain ⟨h9, hf⟩ := pk_chk hf
        obtain ⟨r11, M12, hc10, hf⟩ := pk_obd2 hf
        refine s_callV X (ci := 9) (k_X9_grid G hc10) rfl h9 wd646 wd647 wd648 wd649 wd126 cd_X9_grid ⟨Nat.le_of_ble_eq_true rfl, Nat.le_of_ble_eq_true rfl⟩ (Nat.le_of_ble_eq_true rfl) dL_law_250 ?_
        refine s_aload_n X 2 dL_law_253 rfl rfl ?_
        refine s_aload_n X 0 dL_law_254 rfl rfl ?_
        refine s_iload_n X 3 dL_law_255 rfl rfl ?_
        refine s_iconst X (v := (1 : Int32)) dL_law_256 rfl ?_
        refine s_iadd X dL_law_257 ?_
        obtain ⟨h13, hf⟩ := pk_chk hf
        refine s_sld X hnm.1 hnm.2.1 hnm.2.2.1 h13 dL_law_258 ?_
        obtain ⟨h14, hf⟩ := pk_chk hf
        obtain ⟨r16, M17, hc15, hf⟩ := pk_obd2 hf
        refine s_callV X (ci := 10) (k_X10_grid G hc15) rfl h14 wd1516 wd1517 wd1518 wd1519 wd138 cd_X10_grid ⟨Nat.le_of_ble_eq_true rfl, Nat.le_of_ble_eq_true rfl⟩ (Nat.le_of_ble_eq_true rfl) dL_law_259 ?_
        have hs18 := pk_ite hf
        clear hf
        refine s_icmp_eq X (tgt := 1572) dL_law_262 rfl (fun c19 => ?_) (fun c19 => ?_)
        · have hf := hs18.1 c19
          obtain ⟨x20, e21, hf⟩ := pk_bnd hf
          refine s_iinc X (vs' := [(0, .ref b), (1, .ref (gB G + v1)), (2, .ref (gB G + v2)), (3, .int x20)]) 3 dL_law_1572 rfl (v := x20) e21.symm (Nat.le_of_ble_eq_true rfl) [1, 2, 3, 0] rfl ?_
          refine s_goto X (tgt := 18) dL_law_1575 rfl ?_
          exact ih _ _ _ _ hf
        · have hf := hs18.2 c19
          refine s_iconst X (v := (0 : Int32)) dL_law_265 rfl ?_
          exact (pk_01 hf).elim
      have hf := hs6.2 c7
      have hs22 := pk_ite hf
      clear hf
      by_cases c23 : x4 = (1 : Int32)
      · have hf := hs22.1 c23
        refine s_swC X (v := (1 : Int32)) (tgt := 267) dL_law_32 c23 (by decide) (by decide) rfl rfl ?_
        refine s_aload_n X 1 dL_law_267 rfl rfl ?_
        refine s_aload_n X 0 dL_law_268 rfl rfl ?_
        refine s_iload_n X 3 dL_law_269 rfl rfl ?_
        refine s_iconst X (v := (1 : Int32)) dL_law_270 rfl ?_
        refine s_iadd X dL_law_271 ?_
        obtain ⟨h24, hf⟩ := pk_chk hf
        refine s_sld X hnm.1 hnm.2.1 hnm.2.2.1 h24 dL_law_272 ?_
        obtain ⟨h25, hf⟩ := pk_chk hf
        obtain ⟨r27, M28, hc26, hf⟩ := pk_obd2 hf
        refine s_callV X (ci := 9) (k_X9_plane G hc26) rfl h25 wd650 wd651 wd652 wd653 wd126 cd_X9_plane ⟨Nat.le_of_ble_eq_true rfl, Nat.le_of_ble_eq_true rfl⟩ (Nat.le_of_ble_eq_true rfl) dL_law_273 ?_
        refine s_aload_n X 2 dL_law_276 rfl rfl ?_
        refine s_aload_n X 0 dL_law_277 rfl rfl ?_
        refine s_iload_n X 3 dL_law_278 rfl rfl ?_
        refine s_iconst X (v := (1 : Int32)) dL_law_279 rfl ?_
        refine s_iadd X dL_law_280 ?_
        obtain ⟨h29, hf⟩ := pk_chk hf
        refine s_sld X hnm.1 hnm.2.1 hnm.2.2.1 h29 dL_law_281 ?_
        obtain ⟨h30, hf⟩ := pk_chk hf
        obtain ⟨r32, M33, hc31, hf⟩ := pk_obd2 hf
        refine s_callV X (ci := 10) (k_X10_plane G hc31) rfl h30 wd1527 wd1528 wd1529 wd1530 wd138 cd_X10_plane ⟨Nat.le_of_ble_eq_true rfl, Nat.le_of_ble_eq_true rfl⟩ (Nat.le_of_ble_eq_true rfl) dL_law_282 ?_
        have hs34 := pk_ite hf
        clear hf
        refine s_icmp_eq X (tgt := 1572) dL_law_285 rfl (fun c35 => ?_) (fun c35 => ?_)
        · have hf := hs34.1 c35
          obtain ⟨x36, e37, hf⟩ := pk_bnd hf
          refine s_iinc X (vs' := [(0, .ref b), (1, .ref (gB G + v1)), (2, .ref (gB G + v2)), (3, .int x36)]) 3 dL_law_1572 rfl (v := x36) e37.symm (Nat.le_of_ble_eq_true rfl) [1, 2, 3, 0] rfl ?_
          refine s_goto X (tgt := 18) dL_law_1575 rfl ?_
          exact ih _ _ _ _ hf
        · have hf := hs34.2 c35
          refine s_iconst X (v := (0 : Int32)) dL_law_288 rfl ?_
          exact (pk_01 hf).elim
      have hf := hs22.2 c23
      have hs38 := pk_ite hf
      clear hf
      by_cases c39 : x4 = (2 : Int32)
      · have hf := hs38.1 c39
        refine s_swC X (v := (2 : Int32)) (tgt := 290) dL_law_32 c39 (by decide) (by decide) rfl rfl ?_
        refine s_aload_n X 1 dL_law_290 rfl rfl ?_
        refine s_aload_n X 0 dL_law_291 rfl rfl ?_
        refine s_iload_n X 3 dL_law_292 rfl rfl ?_
        refine s_iconst X (v := (1 : Int32)) dL_law_293 rfl ?_
        refine s_iadd X dL_law_294 ?_
        obtain ⟨h40, hf⟩ := pk_chk hf
        refine s_sld X hnm.1 hnm.2.1 hnm.2.2.1 h40 dL_law_295 ?_
        obtain ⟨h41, hf⟩ := pk_chk hf
        obtain ⟨r43, M44, hc42, hf⟩ := pk_obd2 hf
        refine s_callV X (ci := 9) (k_X9_filled G hc42) rfl h41 wd660 wd661 wd662 wd663 wd126 cd_X9_filled ⟨Nat.le_of_ble_eq_true rfl, Nat.le_of_ble_eq_true rfl⟩ (Nat.le_of_ble_eq_true rfl) dL_law_296 ?_
        refine s_aload_n X 2 dL_law_299 rfl rfl ?_
        refine s_aload_n X 0 dL_law_300 rfl rfl ?_
        refine s_iload_n X 3 dL_law_301 rfl rfl ?_
        refine s_iconst X (v := (1 : Int32)) dL_law_302 rfl ?_
        refine s_iadd X dL_law_303 ?_
        obtain ⟨h45, hf⟩ := pk_chk hf
        refine s_sld X hnm.1 hnm.2.1 hnm.2.2.1 h45 dL_law_304 ?_
        obtain ⟨h46, hf⟩ := pk_chk hf
        obtain ⟨r48, M49, hc47, hf⟩ := pk_obd2 hf
        refine s_callV X (ci := 10) (k_X10_filled G hc47) rfl h46 wd1523 wd1524 wd1525 wd1526 wd138 cd_X10_filled ⟨Nat.le_of_ble_eq_true rfl, Nat.le_of_ble_eq_true rfl⟩ (Nat.le_of_ble_eq_true rfl) dL_law_305 ?_
        have hs50 := pk_ite hf
        clear hf
        refine s_icmp_eq X (tgt := 1572) dL_law_308 rfl (fun c51 => ?_) (fun c51 => ?_)
        · have hf := hs50.1 c51
          obtain ⟨x52, e53, hf⟩ := pk_bnd hf
          refine s_iinc X (vs' := [(0, .ref b), (1, .ref (gB G + v1)), (2, .ref (gB G + v2)), (3, .int x52)]) 3 dL_law_1572 rfl (v := x52) e53.symm (Nat.le_of_ble_eq_true rfl) [1, 2, 3, 0] rfl ?_
          refine s_goto X (tgt := 18) dL_law_1575 rfl ?_
          exact ih _ _ _ _ hf
        · have hf := hs50.2 c51
          refine s_iconst X (v := (0 : Int32)) dL_law_311 rfl ?_
          exact (pk_01 hf).elim
      have hf := hs38.2 c39
      have hs54 := pk_ite hf
      clear hf
      by_cases c55 : x4 = (3 : Int32)
      · have hf := hs54.1 c55
        refine s_swC X (v := (3 : Int32)) (tgt := 313) dL_law_32 c55 (by decide) (by decide) rfl rfl ?_
        refine s_aload_n X 1 dL_law_313 rfl rfl ?_
        refine s_aload_n X 0 dL_law_314 rfl rfl ?_
        refine s_iload_n X 3 dL_law_315 rfl rfl ?_
        refine s_iconst X (v := (1 : Int32)) dL_law_316 rfl ?_
        refine s_iadd X dL_law_317 ?_
        obtain ⟨h56, hf⟩ := pk_chk hf
        refine s_sld X hnm.1 hnm.2.1 hnm.2.2.1 h56 dL_law_318 ?_
        obtain ⟨h57, hf⟩ := pk_chk hf
        obtain ⟨r59, M60, hc58, hf⟩ := pk_obd2 hf
        refine s_callV X (ci := 9) (k_X9_majority G hc58) rfl h57 wd664 wd665 wd666 wd667 wd126 cd_X9_majority ⟨Nat.le_of_ble_eq_true rfl, Nat.le_of_ble_eq_true rfl⟩ (Nat.le_of_ble_eq_true rfl) dL_law_319 ?_
        refine s_aload_n X 2 dL_law_322 rfl rfl ?_
        refine s_aload_n X 0 dL_law_323 rfl rfl ?_
        refine s_iload_n X 3 dL_law_324 rfl rfl ?_
        refine s_iconst X (v := (1 : Int32)) dL_law_325 rfl ?_
        refine s_iadd X dL_law_326 ?_
        obtain ⟨h61, hf⟩ := pk_chk hf
        refine s_sld X hnm.1 hnm.2.1 hnm.2.2.1 h61 dL_law_327 ?_
        obtain ⟨h62, hf⟩ := pk_chk hf
        obtain ⟨r64, M65, hc63, hf⟩ := pk_obd2 hf
        refine s_callV X (ci := 10) (k_X10_majority G hc63) rfl h62 wd1531 wd1532 wd1533 wd1534 wd138 cd_X10_majority ⟨Nat.le_of_ble_eq_true rfl, Nat.le_of_ble_eq_true rfl⟩ (Nat.le_of_ble_eq_true rfl) dL_law_328 ?_
        have hs66 := pk_ite hf
        clear hf
        refine s_icmp_eq X (tgt := 1572) dL_law_331 rfl (fun c67 => ?_) (fun c67 => ?_)
        · have hf := hs66.1 c67
          obtain ⟨x68, e69, hf⟩ := pk_bnd hf
          refine s_iinc X (vs' := [(0, .ref b), (1, .ref (gB G + v1)), (2, .ref (gB G + v2)), (3, .int x68)]) 3 dL_law_1572 rfl (v := x68) e69.symm (Nat.le_of_ble_eq_true rfl) [1, 2, 3, 0] rfl ?_
          refine s_goto X (tgt := 18) dL_law_1575 rfl ?_
          exact ih _ _ _ _ hf
        · have hf := hs66.2 c67
          refine s_iconst X (v := (0 : Int32)) dL_law_334 rfl ?_
          exact (pk_01 hf).elim
      have hf := hs54.2 c55
      have hs70 := pk_ite hf
      clear hf
      by_cases c71 : x4 = (4 : Int32)
      · have hf := hs70.1 c71
        refine s_swC X (v := (4 : Int32)) (tgt := 336) dL_law_32 c71 (by decide) (by decide) rfl rfl ?_
        refine s_aload_n X 1 dL_law_336 rfl rfl ?_
        refine s_aload_n X 0 dL_law_337 rfl rfl ?_
        refine s_iload_n X 3 dL_law_338 rfl rfl ?_
        refine s_iconst X (v := (1 : Int32)) dL_law_339 rfl ?_
        refine s_iadd X dL_law_340 ?_
        obtain ⟨h72, hf⟩ := pk_chk hf
        refine s_sld X hnm.1 hnm.2.1 hnm.2.2.1 h72 dL_law_341 ?_
        obtain ⟨h73, hf⟩ := pk_chk hf
        obtain ⟨r75, M76, hc74, hf⟩ := pk_obd2 hf
        refine s_callV X (ci := 9) (k_X9_wheel G hc74) rfl h73 wd675 wd676 wd677 wd678 wd126 cd_X9_wheel ⟨Nat.le_of_ble_eq_true rfl, Nat.le_of_ble_eq_true rfl⟩ (Nat.le_of_ble_eq_true rfl) dL_law_342 ?_
        refine s_aload_n X 2 dL_law_345 rfl rfl ?_
        refine s_aload_n X 0 dL_law_346 rfl rfl ?_
        refine s_iload_n X 3 dL_law_347 rfl rfl ?_
        refine s_iconst X (v := (1 : Int32)) dL_law_348 rfl ?_
        refine s_iadd X dL_law_349 ?_
        obtain ⟨h77, hf⟩ := pk_chk hf
        refine s_sld X hnm.1 hnm.2.1 hnm.2.2.1 h77 dL_law_350 ?_
        obtain ⟨h78, hf⟩ := pk_chk hf
        obtain ⟨r80, M81, hc79, hf⟩ := pk_obd2 hf
        refine s_callV X (ci := 10) (k_X10_wheel G hc79) rfl h78 wd1538 wd1539 wd1540 wd1541 wd138 cd_X10_wheel ⟨Nat.le_of_ble_eq_true rfl, Nat.le_of_ble_eq_true rfl⟩ (Nat.le_of_ble_eq_true rfl) dL_law_351 ?_
        have hs82 := pk_ite hf
        clear hf
        refine s_icmp_eq X (tgt := 1572) dL_law_354 rfl (fun c83 => ?_) (fun c83 => ?_)
        · have hf := hs82.1 c83
          obtain ⟨x84, e85, hf⟩ := pk_bnd hf
          refine s_iinc X (vs' := [(0, .ref b), (1, .ref (gB G + v1)), (2, .ref (gB G + v2)), (3, .int x84)]) 3 dL_law_1572 rfl (v := x84) e85.symm (Nat.le_of_ble_eq_true rfl) [1, 2, 3, 0] rfl ?_
          refine s_goto X (tgt := 18) dL_law_1575 rfl ?_
          exact ih _ _ _ _ hf
        · have hf := hs82.2 c83
          refine s_iconst X (v := (0 : Int32)) dL_law_357 rfl ?_
          exact (pk_01 hf).elim
      have hf := hs70.2 c71
      have hs86 := pk_ite hf
      clear hf
      by_cases c87 : x4 = (5 : Int32)
      · have hf := hs86.1 c87
        refine s_swC X (v := (5 : Int32)) (tgt := 359) dL_law_32 c87 (by decide) (by decide) rfl rfl ?_
        refine s_aload_n X 1 dL_law_359 rfl rfl ?_
        refine s_aload_n X 0 dL_law_360 rfl rfl ?_
        refine s_iload_n X 3 dL_law_361 rfl rfl ?_
        refine s_iconst X (v := (1 : Int32)) dL_law_362 rfl ?_
        refine s_iadd X dL_law_363 ?_
        obtain ⟨h88, hf⟩ := pk_chk hf
        refine s_sld X hnm.1 hnm.2.1 hnm.2.2.1 h88 dL_law_364 ?_
        obtain ⟨h89, hf⟩ := pk_chk hf
        obtain ⟨r91, M92, hc90, hf⟩ := pk_obd2 hf
        refine s_callV X (ci := 9) (k_X9_tree G hc90) rfl h89 wd687 wd688 wd689 wd690 wd126 cd_X9_tree ⟨Nat.le_of_ble_eq_true rfl, Nat.le_of_ble_eq_true rfl⟩ (Nat.le_of_ble_eq_true rfl) dL_law_365 ?_
        refine s_aload_n X 2 dL_law_368 rfl rfl ?_
        refine s_aload_n X 0 dL_law_369 rfl rfl ?_
        refine s_iload_n X 3 dL_law_370 rfl rfl ?_
        refine s_iconst X (v := (1 : Int32)) dL_law_371 rfl ?_
        refine s_iadd X dL_law_372 ?_
        obtain ⟨h93, hf⟩ := pk_chk hf
        refine s_sld X hnm.1 hnm.2.1 hnm.2.2.1 h93 dL_law_373 ?_
        obtain ⟨h94, hf⟩ := pk_chk hf
        obtain ⟨r96, M97, hc95, hf⟩ := pk_obd2 hf
        refine s_callV X (ci := 10) (k_X10_tree G hc95) rfl h94 wd1546 wd1547 wd1548 wd1549 wd138 cd_X10_tree ⟨Nat.le_of_ble_eq_true rfl, Nat.le_of_ble_eq_true rfl⟩ (Nat.le_of_ble_eq_true rfl) dL_law_374 ?_
        have hs98 := pk_ite hf
        clear hf
        refine s_icmp_eq X (tgt := 1572) dL_law_377 rfl (fun c99 => ?_) (fun c99 => ?_)
        · have hf := hs98.1 c99
          obtain ⟨x100, e101, hf⟩ := pk_bnd hf
          refine s_iinc X (vs' := [(0, .ref b), (1, .ref (gB G + v1)), (2, .ref (gB G + v2)), (3, .int x100)]) 3 dL_law_1572 rfl (v := x100) e101.symm (Nat.le_of_ble_eq_true rfl) [1, 2, 3, 0] rfl ?_
          refine s_goto X (tgt := 18) dL_law_1575 rfl ?_
          exact ih _ _ _ _ hf
        · have hf := hs98.2 c99
          refine s_iconst X (v := (0 : Int32)) dL_law_380 rfl ?_
          exact (pk_01 hf).elim
      have hf := hs86.2 c87
      have hs102 := pk_ite hf
      clear hf
      by_cases c103 : x4 = (6 : Int32)
      · have hf := hs102.1 c103
        refine s_swC X (v := (6 : Int32)) (tgt := 382) dL_law_32 c103 (by decide) (by decide) rfl rfl ?_
        refine s_aload_n X 1 dL_law_382 rfl rfl ?_
        refine s_aload_n X 0 dL_law_383 rfl rfl ?_
        refine s_iload_n X 3 dL_law_384 rfl rfl ?_
        refine s_iconst X (v := (1 : Int32)) dL_law_385 rfl ?_
        refine s_iadd X dL_law_386 ?_
        obtain ⟨h104, hf⟩ := pk_chk hf
        refine s_sld X hnm.1 hnm.2.1 hnm.2.2.1 h104 dL_law_387 ?_
        refine s_aload_n X 0 dL_law_388 rfl rfl ?_
        refine s_iload_n X 3 dL_law_389 rfl rfl ?_
        refine s_iconst X (v := (2 : Int32)) dL_law_390 rfl ?_
        refine s_iadd X dL_law_391 ?_
        obtain ⟨h105, hf⟩ := pk_chk hf
        refine s_sld X hnm.1 hnm.2.1 hnm.2.2.1 h105 dL_law_392 ?_
        obtain ⟨h106, hf⟩ := pk_chk hf
        obtain ⟨r108, M109, hc107, hf⟩ := pk_obd2 hf
        refine s_callV X (ci := 9) (k_X9_within G hc107) rfl h106 wd695 wd696 wd697 wd698 wd126 cd_X9_within ⟨Nat.le_of_ble_eq_true rfl, Nat.le_of_ble_eq_true rfl⟩ (Nat.le_of_ble_eq_true rfl) dL_law_393 ?_
        refine s_aload_n X 2 dL_law_396 rfl rfl ?_
        refine s_aload_n X 0 dL_law_397 rfl rfl ?_
        refine s_iload_n X 3 dL_law_398 rfl rfl ?_
        refine s_iconst X (v := (1 : Int32)) dL_law_399 rfl ?_
        refine s_iadd X dL_law_400 ?_
        obtain ⟨h110, hf⟩ := pk_chk hf
        refine s_sld X hnm.1 hnm.2.1 hnm.2.2.1 h110 dL_law_401 ?_
        refine s_aload_n X 0 dL_law_402 rfl rfl ?_
        refine s_iload_n X 3 dL_law_403 rfl rfl ?_
        refine s_iconst X (v := (2 : Int32)) dL_law_404 rfl ?_
        refine s_iadd X dL_law_405 ?_
        obtain ⟨h111, hf⟩ := pk_chk hf
        refine s_sld X hnm.1 hnm.2.1 hnm.2.2.1 h111 dL_law_406 ?_
        obtain ⟨h112, hf⟩ := pk_chk hf
        obtain ⟨r114, M115, hc113, hf⟩ := pk_obd2 hf
        refine s_callV X (ci := 10) (k_X10_within G hc113) rfl h112 wd1550 wd1551 wd1552 wd1553 wd138 cd_X10_within ⟨Nat.le_of_ble_eq_true rfl, Nat.le_of_ble_eq_true rfl⟩ (Nat.le_of_ble_eq_true rfl) dL_law_407 ?_
        have hs116 := pk_ite hf
        clear hf
        refine s_icmp_eq X (tgt := 1572) dL_law_410 rfl (fun c117 => ?_) (fun c117 => ?_)
        · have hf := hs116.1 c117
          obtain ⟨x118, e119, hf⟩ := pk_bnd hf
          refine s_iinc X (vs' := [(0, .ref b), (1, .ref (gB G + v1)), (2, .ref (gB G + v2)), (3, .int x118)]) 3 dL_law_1572 rfl (v := x118) e119.symm (Nat.le_of_ble_eq_true rfl) [1, 2, 3, 0] rfl ?_
          refine s_goto X (tgt := 18) dL_law_1575 rfl ?_
          exact ih _ _ _ _ hf
        · have hf := hs116.2 c117
          refine s_iconst X (v := (0 : Int32)) dL_law_413 rfl ?_
          exact (pk_01 hf).elim
      have hf := hs102.2 c103
      have hs120 := pk_ite hf
      clear hf
      by_cases c121 : x4 = (7 : Int32)
      · have hf := hs120.1 c121
        refine s_swC X (v := (7 : Int32)) (tgt := 415) dL_law_32 c121 (by decide) (by decide) rfl rfl ?_
        refine s_aload_n X 1 dL_law_415 rfl rfl ?_
        refine s_aload_n X 0 dL_law_416 rfl rfl ?_
        refine s_iload_n X 3 dL_law_417 rfl rfl ?_
        refine s_iconst X (v := (1 : Int32)) dL_law_418 rfl ?_
        refine s_iadd X dL_law_419 ?_
        obtain ⟨h122, hf⟩ := pk_chk hf
        refine s_sld X hnm.1 hnm.2.1 hnm.2.2.1 h122 dL_law_420 ?_
        refine s_aload_n X 0 dL_law_421 rfl rfl ?_
        refine s_iload_n X 3 dL_law_422 rfl rfl ?_
        refine s_iconst X (v := (2 : Int32)) dL_law_423 rfl ?_
        refine s_iadd X dL_law_424 ?_
        obtain ⟨h123, hf⟩ := pk_chk hf
        refine s_sld X hnm.1 hnm.2.1 hnm.2.2.1 h123 dL_law_425 ?_
        obtain ⟨h124, hf⟩ := pk_chk hf
        obtain ⟨r126, M127, hc125, hf⟩ := pk_obd2 hf
        refine s_callV X (ci := 9) (k_X9_base G hc125) rfl h124 wd714 wd715 wd716 wd717 wd126 cd_X9_base ⟨Nat.le_of_ble_eq_true rfl, Nat.le_of_ble_eq_true rfl⟩ (Nat.le_of_ble_eq_true rfl) dL_law_426 ?_
        refine s_aload_n X 2 dL_law_429 rfl rfl ?_
        refine s_aload_n X 0 dL_law_430 rfl rfl ?_
        refine s_iload_n X 3 dL_law_431 rfl rfl ?_
        refine s_iconst X (v := (1 : Int32)) dL_law_432 rfl ?_
        refine s_iadd X dL_law_433 ?_
        obtain ⟨h128, hf⟩ := pk_chk hf
        refine s_sld X hnm.1 hnm.2.1 hnm.2.2.1 h128 dL_law_434 ?_
        refine s_aload_n X 0 dL_law_435 rfl rfl ?_
        refine s_iload_n X 3 dL_law_436 rfl rfl ?_
        refine s_iconst X (v := (2 : Int32)) dL_law_437 rfl ?_
        refine s_iadd X dL_law_438 ?_
        obtain ⟨h129, hf⟩ := pk_chk hf
        refine s_sld X hnm.1 hnm.2.1 hnm.2.2.1 h129 dL_law_439 ?_
        obtain ⟨h130, hf⟩ := pk_chk hf
        obtain ⟨r132, M133, hc131, hf⟩ := pk_obd2 hf
        refine s_callV X (ci := 10) (k_X10_base G hc131) rfl h130 wd1568 wd1569 wd1570 wd1571 wd138 cd_X10_base ⟨Nat.le_of_ble_eq_true rfl, Nat.le_of_ble_eq_true rfl⟩ (Nat.le_of_ble_eq_true rfl) dL_law_440 ?_
        have hs134 := pk_ite hf
        clear hf
        refine s_icmp_eq X (tgt := 1572) dL_law_443 rfl (fun c135 => ?_) (fun c135 => ?_)
        · have hf := hs134.1 c135
          obtain ⟨x136, e137, hf⟩ := pk_bnd hf
          refine s_iinc X (vs' := [(0, .ref b), (1, .ref (gB G + v1)), (2, .ref (gB G + v2)), (3, .int x136)]) 3 dL_law_1572 rfl (v := x136) e137.symm (Nat.le_of_ble_eq_true rfl) [1, 2, 3, 0] rfl ?_
          refine s_goto X (tgt := 18) dL_law_1575 rfl ?_
          exact ih _ _ _ _ hf
        · have hf := hs134.2 c135
          refine s_iconst X (v := (0 : Int32)) dL_law_446 rfl ?_
          exact (pk_01 hf).elim
      have hf := hs120.2 c121
      have hs138 := pk_ite hf
      clear hf
      by_cases c139 : x4 = (8 : Int32)
      · have hf := hs138.1 c139
        refine s_swC X (v := (8 : Int32)) (tgt := 448) dL_law_32 c139 (by decide) (by decide) rfl rfl ?_
        refine s_aload_n X 1 dL_law_448 rfl rfl ?_
        refine s_aload_n X 0 dL_law_449 rfl rfl ?_
        refine s_iload_n X 3 dL_law_450 rfl rfl ?_
        refine s_iconst X (v := (1 : Int32)) dL_law_451 rfl ?_
        refine s_iadd X dL_law_452 ?_
        obtain ⟨h140, hf⟩ := pk_chk hf
        refine s_sld X hnm.1 hnm.2.1 hnm.2.2.1 h140 dL_law_453 ?_
        refine s_aload_n X 0 dL_law_454 rfl rfl ?_
        refine s_iload_n X 3 dL_law_455 rfl rfl ?_
        refine s_iconst X (v := (2 : Int32)) dL_law_456 rfl ?_
        refine s_iadd X dL_law_457 ?_
        obtain ⟨h141, hf⟩ := pk_chk hf
        refine s_sld X hnm.1 hnm.2.1 hnm.2.2.1 h141 dL_law_458 ?_
        obtain ⟨h142, hf⟩ := pk_chk hf
        obtain ⟨r144, hc143, hf⟩ := pk_obd hf
        refine s_callV X (ci := 9) (k_X9_quorum G hc143) rfl h142 wd730 wd731 wd732 wd733 wd126 cd_X9_quorum ⟨Nat.le_of_ble_eq_true rfl, Nat.le_of_ble_eq_true rfl⟩ (Nat.le_of_ble_eq_true rfl) dL_law_459 ?_
        refine s_aload_n X 2 dL_law_462 rfl rfl ?_
        refine s_aload_n X 0 dL_law_463 rfl rfl ?_
        refine s_iload_n X 3 dL_law_464 rfl rfl ?_
        refine s_iconst X (v := (1 : Int32)) dL_law_465 rfl ?_
        refine s_iadd X dL_law_466 ?_
        obtain ⟨h145, hf⟩ := pk_chk hf
        refine s_sld X hnm.1 hnm.2.1 hnm.2.2.1 h145 dL_law_467 ?_
        refine s_aload_n X 0 dL_law_468 rfl rfl ?_
        refine s_iload_n X 3 dL_law_469 rfl rfl ?_
        refine s_iconst X (v := (2 : Int32)) dL_law_470 rfl ?_
        refine s_iadd X dL_law_471 ?_
        obtain ⟨h146, hf⟩ := pk_chk hf
        refine s_sld X hnm.1 hnm.2.1 hnm.2.2.1 h146 dL_law_472 ?_
        obtain ⟨h147, hf⟩ := pk_chk hf
        obtain ⟨r149, M150, hc148, hf⟩ := pk_obd2 hf
        refine s_callV X (ci := 10) (k_X10_quorum G hc148) rfl h147 wd1576 wd1577 wd1578 wd1579 wd138 cd_X10_quorum ⟨Nat.le_of_ble_eq_true rfl, Nat.le_of_ble_eq_true rfl⟩ (Nat.le_of_ble_eq_true rfl) dL_law_473 ?_
        have hs151 := pk_ite hf
        clear hf
        refine s_icmp_eq X (tgt := 1572) dL_law_476 rfl (fun c152 => ?_) (fun c152 => ?_)
        · have hf := hs151.1 c152
          obtain ⟨x153, e154, hf⟩ := pk_bnd hf
          refine s_iinc X (vs' := [(0, .ref b), (1, .ref (gB G + v1)), (2, .ref (gB G + v2)), (3, .int x153)]) 3 dL_law_1572 rfl (v := x153) e154.symm (Nat.le_of_ble_eq_true rfl) [1, 2, 3, 0] rfl ?_
          refine s_goto X (tgt := 18) dL_law_1575 rfl ?_
          exact ih _ _ _ _ hf
        · have hf := hs151.2 c152
          refine s_iconst X (v := (0 : Int32)) dL_law_479 rfl ?_
          exact (pk_01 hf).elim
      have hf := hs138.2 c139
      have hs155 := pk_ite hf
      clear hf
      by_cases c156 : x4 = (9 : Int32)
      · have hf := hs155.1 c156
        refine s_swC X (v := (9 : Int32)) (tgt := 481) dL_law_32 c156 (by decide) (by decide) rfl rfl ?_
        refine s_aload_n X 1 dL_law_481 rfl rfl ?_
        refine s_aload_n X 0 dL_law_482 rfl rfl ?_
        refine s_iload_n X 3 dL_law_483 rfl rfl ?_
        refine s_iconst X (v := (1 : Int32)) dL_law_484 rfl ?_
        refine s_iadd X dL_law_485 ?_
        obtain ⟨h157, hf⟩ := pk_chk hf
        refine s_sld X hnm.1 hnm.2.1 hnm.2.2.1 h157 dL_law_486 ?_
        refine s_aload_n X 0 dL_law_487 rfl rfl ?_
        refine s_iload_n X 3 dL_law_488 rfl rfl ?_
        refine s_iconst X (v := (2 : Int32)) dL_law_489 rfl ?_
        refine s_iadd X dL_law_490 ?_
        obtain ⟨h158, hf⟩ := pk_chk hf
        refine s_sld X hnm.1 hnm.2.1 hnm.2.2.1 h158 dL_law_491 ?_
        obtain ⟨h159, hf⟩ := pk_chk hf
        obtain ⟨r161, hc160, hf⟩ := pk_obd hf
        refine s_callV X (ci := 9) (k_X9_meeting G hc160) rfl h159 wd734 wd735 wd736 wd737 wd126 cd_X9_meeting ⟨Nat.le_of_ble_eq_true rfl, Nat.le_of_ble_eq_true rfl⟩ (Nat.le_of_ble_eq_true rfl) dL_law_492 ?_
        refine s_aload_n X 2 dL_law_495 rfl rfl ?_
        refine s_aload_n X 0 dL_law_496 rfl rfl ?_
        refine s_iload_n X 3 dL_law_497 rfl rfl ?_
        refine s_iconst X (v := (1 : Int32)) dL_law_498 rfl ?_
        refine s_iadd X dL_law_499 ?_
        obtain ⟨h162, hf⟩ := pk_chk hf
        refine s_sld X hnm.1 hnm.2.1 hnm.2.2.1 h162 dL_law_500 ?_
        refine s_aload_n X 0 dL_law_501 rfl rfl ?_
        refine s_iload_n X 3 dL_law_502 rfl rfl ?_
        refine s_iconst X (v := (2 : Int32)) dL_law_503 rfl ?_
        refine s_iadd X dL_law_504 ?_
        obtain ⟨h163, hf⟩ := pk_chk hf
        refine s_sld X hnm.1 hnm.2.1 hnm.2.2.1 h163 dL_law_505 ?_
        obtain ⟨h164, hf⟩ := pk_chk hf
        obtain ⟨r166, hc165, hf⟩ := pk_obd hf
        refine s_callV X (ci := 10) (k_X10_meeting G hc165) rfl h164 wd1600 wd1601 wd1602 wd1603 wd138 cd_X10_meeting ⟨Nat.le_of_ble_eq_true rfl, Nat.le_of_ble_eq_true rfl⟩ (Nat.le_of_ble_eq_true rfl) dL_law_506 ?_
        have hs167 := pk_ite hf
        clear hf
        refine s_icmp_eq X (tgt := 1572) dL_law_509 rfl (fun c168 => ?_) (fun c168 => ?_)
        · have hf := hs167.1 c168
          obtain ⟨x169, e170, hf⟩ := pk_bnd hf
          refine s_iinc X (vs' := [(0, .ref b), (1, .ref (gB G + v1)), (2, .ref (gB G + v2)), (3, .int x169)]) 3 dL_law_1572 rfl (v := x169) e170.symm (Nat.le_of_ble_eq_true rfl) [1, 2, 3, 0] rfl ?_
          refine s_goto X (tgt := 18) dL_law_1575 rfl ?_
          exact ih _ _ _ _ hf
        · have hf := hs167.2 c168
          refine s_iconst X (v := (0 : Int32)) dL_law_512 rfl ?_
          exact (pk_01 hf).elim
      have hf := hs155.2 c156
      have hs171 := pk_ite hf
      clear hf
      by_cases c172 : x4 = (10 : Int32)
      · have hf := hs171.1 c172
        refine s_swC X (v := (10 : Int32)) (tgt := 514) dL_law_32 c172 (by decide) (by decide) rfl rfl ?_
        refine s_aload_n X 1 dL_law_514 rfl rfl ?_
        obtain ⟨h173, hf⟩ := pk_chk hf
        obtain ⟨r175, hc174, hf⟩ := pk_obd hf
        refine s_callV X (ci := 9) (k_X9_apart G hc174) rfl h173 wd747 wd748 wd749 wd750 wd126 cd_X9_apart ⟨Nat.le_of_ble_eq_true rfl, Nat.le_of_ble_eq_true rfl⟩ (Nat.le_of_ble_eq_true rfl) dL_law_515 ?_
        refine s_aload_n X 2 dL_law_518 rfl rfl ?_
        obtain ⟨h176, hf⟩ := pk_chk hf
        obtain ⟨r178, hc177, hf⟩ := pk_obd hf
        refine s_callV X (ci := 10) (k_X10_apart G hc177) rfl h176 wd1607 wd1573 wd1574 wd1575 wd138 cd_X10_apart ⟨Nat.le_of_ble_eq_true rfl, Nat.le_of_ble_eq_true rfl⟩ (Nat.le_of_ble_eq_true rfl) dL_law_519 ?_
        have hs179 := pk_ite hf
        clear hf
        refine s_icmp_eq X (tgt := 1572) dL_law_522 rfl (fun c180 => ?_) (fun c180 => ?_)
        · have hf := hs179.1 c180
          obtain ⟨x181, e182, hf⟩ := pk_bnd hf
          refine s_iinc X (vs' := [(0, .ref b), (1, .ref (gB G + v1)), (2, .ref (gB G + v2)), (3, .int x181)]) 3 dL_law_1572 rfl (v := x181) e182.symm (Nat.le_of_ble_eq_true rfl) [1, 2, 3, 0] rfl ?_
          refine s_goto X (tgt := 18) dL_law_1575 rfl ?_
          exact ih _ _ _ _ hf
        · have hf := hs179.2 c180
          refine s_iconst X (v := (0 : Int32)) dL_law_525 rfl ?_
          exact (pk_01 hf).elim
      have hf := hs171.2 c172
      have hs183 := pk_ite hf
      clear hf
      by_cases c184 : x4 = (11 : Int32)
      · have hf := hs183.1 c184
        refine s_swC X (v := (11 : Int32)) (tgt := 527) dL_law_32 c184 (by decide) (by decide) rfl rfl ?_
        refine s_aload_n X 1 dL_law_527 rfl rfl ?_
        refine s_aload_n X 0 dL_law_528 rfl rfl ?_
        refine s_iload_n X 3 dL_law_529 rfl rfl ?_
        refine s_iconst X (v := (1 : Int32)) dL_law_530 rfl ?_
        refine s_iadd X dL_law_531 ?_
        obtain ⟨h185, hf⟩ := pk_chk hf
        refine s_sld X hnm.1 hnm.2.1 hnm.2.2.1 h185 dL_law_532 ?_
        obtain ⟨h186, hf⟩ := pk_chk hf
        obtain ⟨r188, hc187, hf⟩ := pk_obd hf
        refine s_callV X (ci := 9) (k_X9_load G hc187) rfl h186 wd751 wd752 wd753 wd754 wd126 cd_X9_load ⟨Nat.le_of_ble_eq_true rfl, Nat.le_of_ble_eq_true rfl⟩ (Nat.le_of_ble_eq_true rfl) dL_law_533 ?_
        refine s_aload_n X 2 dL_law_536 rfl rfl ?_
        refine s_aload_n X 0 dL_law_537 rfl rfl ?_
        refine s_iload_n X 3 dL_law_538 rfl rfl ?_
        refine s_iconst X (v := (1 : Int32)) dL_law_539 rfl ?_
        refine s_iadd X dL_law_540 ?_
        obtain ⟨h189, hf⟩ := pk_chk hf
        refine s_sld X hnm.1 hnm.2.1 hnm.2.2.1 h189 dL_law_541 ?_
        obtain ⟨h190, hf⟩ := pk_chk hf
        obtain ⟨r192, hc191, hf⟩ := pk_obd hf
        refine s_callV X (ci := 10) (k_X10_load G hc191) rfl h190 wd1608 wd1609 wd1610 wd1611 wd138 cd_X10_load ⟨Nat.le_of_ble_eq_true rfl, Nat.le_of_ble_eq_true rfl⟩ (Nat.le_of_ble_eq_true rfl) dL_law_542 ?_
        have hs193 := pk_ite hf
        clear hf
        refine s_icmp_eq X (tgt := 1572) dL_law_545 rfl (fun c194 => ?_) (fun c194 => ?_)
        · have hf := hs193.1 c194
          obtain ⟨x195, e196, hf⟩ := pk_bnd hf
          refine s_iinc X (vs' := [(0, .ref b), (1, .ref (gB G + v1)), (2, .ref (gB G + v2)), (3, .int x195)]) 3 dL_law_1572 rfl (v := x195) e196.symm (Nat.le_of_ble_eq_true rfl) [1, 2, 3, 0] rfl ?_
          refine s_goto X (tgt := 18) dL_law_1575 rfl ?_
          exact ih _ _ _ _ hf
        · have hf := hs193.2 c194
          refine s_iconst X (v := (0 : Int32)) dL_law_548 rfl ?_
          exact (pk_01 hf).elim
      have hf := hs183.2 c184
      have hs197 := pk_ite hf
      clear hf
      by_cases c198 : x4 = (12 : Int32)
      · have hf := hs197.1 c198
        refine s_swC X (v := (12 : Int32)) (tgt := 550) dL_law_32 c198 (by decide) (by decide) rfl rfl ?_
        refine s_aload_n X 1 dL_law_550 rfl rfl ?_
        refine s_aload_n X 0 dL_law_551 rfl rfl ?_
        refine s_iload_n X 3 dL_law_552 rfl rfl ?_
        refine s_iconst X (v := (1 : Int32)) dL_law_553 rfl ?_
        refine s_iadd X dL_law_554 ?_
        obtain ⟨h199, hf⟩ := pk_chk hf
        refine s_sld X hnm.1 hnm.2.1 hnm.2.2.1 h199 dL_law_555 ?_
        obtain ⟨h200, hf⟩ := pk_chk hf
        obtain ⟨r202, M203, hc201, hf⟩ := pk_obd2 hf
        refine s_callV X (ci := 9) (k_X9_stops G hc201) rfl h200 wd759 wd760 wd761 wd762 wd126 cd_X9_stops ⟨Nat.le_of_ble_eq_true rfl, Nat.le_of_ble_eq_true rfl⟩ (Nat.le_of_ble_eq_true rfl) dL_law_556 ?_
        refine s_aload_n X 2 dL_law_559 rfl rfl ?_
        refine s_aload_n X 0 dL_law_560 rfl rfl ?_
        refine s_iload_n X 3 dL_law_561 rfl rfl ?_
        refine s_iconst X (v := (1 : Int32)) dL_law_562 rfl ?_
        refine s_iadd X dL_law_563 ?_
        obtain ⟨h204, hf⟩ := pk_chk hf
        refine s_sld X hnm.1 hnm.2.1 hnm.2.2.1 h204 dL_law_564 ?_
        obtain ⟨h205, hf⟩ := pk_chk hf
        obtain ⟨r207, M208, hc206, hf⟩ := pk_obd2 hf
        refine s_callV X (ci := 10) (k_X10_stops G hc206) rfl h205 wd1612 wd1613 wd1614 wd1615 wd138 cd_X10_stops ⟨Nat.le_of_ble_eq_true rfl, Nat.le_of_ble_eq_true rfl⟩ (Nat.le_of_ble_eq_true rfl) dL_law_565 ?_
        have hs209 := pk_ite hf
        clear hf
        refine s_icmp_eq X (tgt := 1572) dL_law_568 rfl (fun c210 => ?_) (fun c210 => ?_)
        · have hf := hs209.1 c210
          obtain ⟨x211, e212, hf⟩ := pk_bnd hf
          refine s_iinc X (vs' := [(0, .ref b), (1, .ref (gB G + v1)), (2, .ref (gB G + v2)), (3, .int x211)]) 3 dL_law_1572 rfl (v := x211) e212.symm (Nat.le_of_ble_eq_true rfl) [1, 2, 3, 0] rfl ?_
          refine s_goto X (tgt := 18) dL_law_1575 rfl ?_
          exact ih _ _ _ _ hf
        · have hf := hs209.2 c210
          refine s_iconst X (v := (0 : Int32)) dL_law_571 rfl ?_
          exact (pk_01 hf).elim
      have hf := hs197.2 c198
      have hs213 := pk_ite hf
      clear hf
      by_cases c214 : x4 = (13 : Int32)
      · have hf := hs213.1 c214
        refine s_swC X (v := (13 : Int32)) (tgt := 573) dL_law_32 c214 (by decide) (by decide) rfl rfl ?_
        refine s_aload_n X 1 dL_law_573 rfl rfl ?_
        refine s_aload_n X 0 dL_law_574 rfl rfl ?_
        refine s_iload_n X 3 dL_law_575 rfl rfl ?_
        refine s_iconst X (v := (1 : Int32)) dL_law_576 rfl ?_
        refine s_iadd X dL_law_577 ?_
        obtain ⟨h215, hf⟩ := pk_chk hf
        refine s_sld X hnm.1 hnm.2.1 hnm.2.2.1 h215 dL_law_578 ?_
        obtain ⟨h216, hf⟩ := pk_chk hf
        obtain ⟨r218, M219, hc217, hf⟩ := pk_obd2 hf
        refine s_callV X (ci := 9) (k_X9_weakest G hc217) rfl h216 wd780 wd781 wd782 wd783 wd126 cd_X9_weakest ⟨Nat.le_of_ble_eq_true rfl, Nat.le_of_ble_eq_true rfl⟩ (Nat.le_of_ble_eq_true rfl) dL_law_579 ?_
        refine s_aload_n X 2 dL_law_582 rfl rfl ?_
        refine s_aload_n X 0 dL_law_583 rfl rfl ?_
        refine s_iload_n X 3 dL_law_584 rfl rfl ?_
        refine s_iconst X (v := (1 : Int32)) dL_law_585 rfl ?_
        refine s_iadd X dL_law_586 ?_
        obtain ⟨h220, hf⟩ := pk_chk hf
        refine s_sld X hnm.1 hnm.2.1 hnm.2.2.1 h220 dL_law_587 ?_
        obtain ⟨h221, hf⟩ := pk_chk hf
        obtain ⟨r223, M224, hc222, hf⟩ := pk_obd2 hf
        refine s_callV X (ci := 10) (k_X10_weakest G hc222) rfl h221 wd1620 wd1621 wd1622 wd1623 wd138 cd_X10_weakest ⟨Nat.le_of_ble_eq_true rfl, Nat.le_of_ble_eq_true rfl⟩ (Nat.le_of_ble_eq_true rfl) dL_law_588 ?_
        have hs225 := pk_ite hf
        clear hf
        refine s_icmp_eq X (tgt := 1572) dL_law_591 rfl (fun c226 => ?_) (fun c226 => ?_)
        · have hf := hs225.1 c226
          obtain ⟨x227, e228, hf⟩ := pk_bnd hf
          refine s_iinc X (vs' := [(0, .ref b), (1, .ref (gB G + v1)), (2, .ref (gB G + v2)), (3, .int x227)]) 3 dL_law_1572 rfl (v := x227) e228.symm (Nat.le_of_ble_eq_true rfl) [1, 2, 3, 0] rfl ?_
          refine s_goto X (tgt := 18) dL_law_1575 rfl ?_
          exact ih _ _ _ _ hf
        · have hf := hs225.2 c226
          refine s_iconst X (v := (0 : Int32)) dL_law_594 rfl ?_
          exact (pk_01 hf).elim
      have hf := hs213.2 c214
      have hs229 := pk_ite hf
      clear hf
      by_cases c230 : x4 = (14 : Int32)
      · have hf := hs229.1 c230
        refine s_swC X (v := (14 : Int32)) (tgt := 596) dL_law_32 c230 (by decide) (by decide) rfl rfl ?_
        refine s_aload_n X 1 dL_law_596 rfl rfl ?_
        obtain ⟨h231, hf⟩ := pk_chk hf
        obtain ⟨r233, hc232, hf⟩ := pk_obd hf
        refine s_callV X (ci := 9) (k_X9_needless G hc232) rfl h231 wd840 wd841 wd842 wd843 wd126 cd_X9_needless ⟨Nat.le_of_ble_eq_true rfl, Nat.le_of_ble_eq_true rfl⟩ (Nat.le_of_ble_eq_true rfl) dL_law_597 ?_
        refine s_aload_n X 2 dL_law_600 rfl rfl ?_
        obtain ⟨h234, hf⟩ := pk_chk hf
        obtain ⟨r236, hc235, hf⟩ := pk_obd hf
        refine s_callV X (ci := 10) (k_X10_needless G hc235) rfl h234 wd1627 wd1628 wd1629 wd1630 wd138 cd_X10_needless ⟨Nat.le_of_ble_eq_true rfl, Nat.le_of_ble_eq_true rfl⟩ (Nat.le_of_ble_eq_true rfl) dL_law_601 ?_
        have hs237 := pk_ite hf
        clear hf
        refine s_icmp_eq X (tgt := 1572) dL_law_604 rfl (fun c238 => ?_) (fun c238 => ?_)
        · have hf := hs237.1 c238
          obtain ⟨x239, e240, hf⟩ := pk_bnd hf
          refine s_iinc X (vs' := [(0, .ref b), (1, .ref (gB G + v1)), (2, .ref (gB G + v2)), (3, .int x239)]) 3 dL_law_1572 rfl (v := x239) e240.symm (Nat.le_of_ble_eq_true rfl) [1, 2, 3, 0] rfl ?_
          refine s_goto X (tgt := 18) dL_law_1575 rfl ?_
          exact ih _ _ _ _ hf
        · have hf := hs237.2 c238
          refine s_iconst X (v := (0 : Int32)) dL_law_607 rfl ?_
          exact (pk_01 hf).elim
      have hf := hs229.2 c230
      have hs241 := pk_ite hf
      clear hf
      by_cases c242 : x4 = (15 : Int32)
      · have hf := hs241.1 c242
        refine s_swC X (v := (15 : Int32)) (tgt := 609) dL_law_32 c242 (by decide) (by decide) rfl rfl ?_
        refine s_aload_n X 1 dL_law_609 rfl rfl ?_
        refine s_aload_n X 0 dL_law_610 rfl rfl ?_
        refine s_iload_n X 3 dL_law_611 rfl rfl ?_
        refine s_iconst X (v := (1 : Int32)) dL_law_612 rfl ?_
        refine s_iadd X dL_law_613 ?_
        obtain ⟨h243, hf⟩ := pk_chk hf
        refine s_sld X hnm.1 hnm.2.1 hnm.2.2.1 h243 dL_law_614 ?_
        obtain ⟨h244, hf⟩ := pk_chk hf
        obtain ⟨r246, M247, hc245, hf⟩ := pk_obd2 hf
        refine s_callV X (ci := 9) (k_X9_chance G hc245) rfl h244 wd852 wd853 wd854 wd855 wd126 cd_X9_chance ⟨Nat.le_of_ble_eq_true rfl, Nat.le_of_ble_eq_true rfl⟩ (Nat.le_of_ble_eq_true rfl) dL_law_615 ?_
        refine s_aload_n X 2 dL_law_618 rfl rfl ?_
        refine s_aload_n X 0 dL_law_619 rfl rfl ?_
        refine s_iload_n X 3 dL_law_620 rfl rfl ?_
        refine s_iconst X (v := (1 : Int32)) dL_law_621 rfl ?_
        refine s_iadd X dL_law_622 ?_
        obtain ⟨h248, hf⟩ := pk_chk hf
        refine s_sld X hnm.1 hnm.2.1 hnm.2.2.1 h248 dL_law_623 ?_
        obtain ⟨h249, hf⟩ := pk_chk hf
        obtain ⟨r251, M252, hc250, hf⟩ := pk_obd2 hf
        refine s_callV X (ci := 10) (k_X10_chance G hc250) rfl h249 wd1635 wd1636 wd1637 wd1638 wd138 cd_X10_chance ⟨Nat.le_of_ble_eq_true rfl, Nat.le_of_ble_eq_true rfl⟩ (Nat.le_of_ble_eq_true rfl) dL_law_624 ?_
        have hs253 := pk_ite hf
        clear hf
        refine s_icmp_eq X (tgt := 1572) dL_law_627 rfl (fun c254 => ?_) (fun c254 => ?_)
        · have hf := hs253.1 c254
          obtain ⟨x255, e256, hf⟩ := pk_bnd hf
          refine s_iinc X (vs' := [(0, .ref b), (1, .ref (gB G + v1)), (2, .ref (gB G + v2)), (3, .int x255)]) 3 dL_law_1572 rfl (v := x255) e256.symm (Nat.le_of_ble_eq_true rfl) [1, 2, 3, 0] rfl ?_
          refine s_goto X (tgt := 18) dL_law_1575 rfl ?_
          exact ih _ _ _ _ hf
        · have hf := hs253.2 c254
          refine s_iconst X (v := (0 : Int32)) dL_law_630 rfl ?_
          exact (pk_01 hf).elim
      have hf := hs241.2 c242
      have hs257 := pk_ite hf
      clear hf
      by_cases c258 : x4 = (16 : Int32)
      · have hf := hs257.1 c258
        refine s_swC X (v := (16 : Int32)) (tgt := 632) dL_law_32 c258 (by decide) (by decide) rfl rfl ?_
        refine s_aload_n X 1 dL_law_632 rfl rfl ?_
        refine s_aload_n X 0 dL_law_633 rfl rfl ?_
        refine s_iload_n X 3 dL_law_634 rfl rfl ?_
        refine s_iconst X (v := (1 : Int32)) dL_law_635 rfl ?_
        refine s_iadd X dL_law_636 ?_
        obtain ⟨h259, hf⟩ := pk_chk hf
        refine s_sld X hnm.1 hnm.2.1 hnm.2.2.1 h259 dL_law_637 ?_
        refine s_aload_n X 0 dL_law_638 rfl rfl ?_
        refine s_iload_n X 3 dL_law_639 rfl rfl ?_
        refine s_iconst X (v := (2 : Int32)) dL_law_640 rfl ?_
        refine s_iadd X dL_law_641 ?_
        obtain ⟨h260, hf⟩ := pk_chk hf
        refine s_sld X hnm.1 hnm.2.1 hnm.2.2.1 h260 dL_law_642 ?_
        obtain ⟨h261, hf⟩ := pk_chk hf
        obtain ⟨r263, M264, hc262, hf⟩ := pk_obd2 hf
        refine s_callV X (ci := 9) (k_X9_chanceOf G hc262) rfl h261 wd875 wd876 wd877 wd878 wd126 cd_X9_chanceOf ⟨Nat.le_of_ble_eq_true rfl, Nat.le_of_ble_eq_true rfl⟩ (Nat.le_of_ble_eq_true rfl) dL_law_643 ?_
        refine s_aload_n X 2 dL_law_646 rfl rfl ?_
        refine s_aload_n X 0 dL_law_647 rfl rfl ?_
        refine s_iload_n X 3 dL_law_648 rfl rfl ?_
        refine s_iconst X (v := (1 : Int32)) dL_law_649 rfl ?_
        refine s_iadd X dL_law_650 ?_
        obtain ⟨h265, hf⟩ := pk_chk hf
        refine s_sld X hnm.1 hnm.2.1 hnm.2.2.1 h265 dL_law_651 ?_
        refine s_aload_n X 0 dL_law_652 rfl rfl ?_
        refine s_iload_n X 3 dL_law_653 rfl rfl ?_
        refine s_iconst X (v := (2 : Int32)) dL_law_654 rfl ?_
        refine s_iadd X dL_law_655 ?_
        obtain ⟨h266, hf⟩ := pk_chk hf
        refine s_sld X hnm.1 hnm.2.1 hnm.2.2.1 h266 dL_law_656 ?_
        obtain ⟨h267, hf⟩ := pk_chk hf
        obtain ⟨r269, M270, hc268, hf⟩ := pk_obd2 hf
        refine s_callV X (ci := 10) (k_X10_chanceOf G hc268) rfl h267 wd1651 wd1652 wd1653 wd1654 wd138 cd_X10_chanceOf ⟨Nat.le_of_ble_eq_true rfl, Nat.le_of_ble_eq_true rfl⟩ (Nat.le_of_ble_eq_true rfl) dL_law_657 ?_
        have hs271 := pk_ite hf
        clear hf
        refine s_icmp_eq X (tgt := 1572) dL_law_660 rfl (fun c272 => ?_) (fun c272 => ?_)
        · have hf := hs271.1 c272
          obtain ⟨x273, e274, hf⟩ := pk_bnd hf
          refine s_iinc X (vs' := [(0, .ref b), (1, .ref (gB G + v1)), (2, .ref (gB G + v2)), (3, .int x273)]) 3 dL_law_1572 rfl (v := x273) e274.symm (Nat.le_of_ble_eq_true rfl) [1, 2, 3, 0] rfl ?_
          refine s_goto X (tgt := 18) dL_law_1575 rfl ?_
          exact ih _ _ _ _ hf
        · have hf := hs271.2 c272
          refine s_iconst X (v := (0 : Int32)) dL_law_663 rfl ?_
          exact (pk_01 hf).elim
      have hf := hs257.2 c258
      have hs275 := pk_ite hf
      clear hf
      by_cases c276 : x4 = (17 : Int32)
      · have hf := hs275.1 c276
        refine s_swC X (v := (17 : Int32)) (tgt := 665) dL_law_32 c276 (by decide) (by decide) rfl rfl ?_
        refine s_aload_n X 1 dL_law_665 rfl rfl ?_
        refine s_aload_n X 0 dL_law_666 rfl rfl ?_
        refine s_iload_n X 3 dL_law_667 rfl rfl ?_
        refine s_iconst X (v := (1 : Int32)) dL_law_668 rfl ?_
        refine s_iadd X dL_law_669 ?_
        obtain ⟨h277, hf⟩ := pk_chk hf
        refine s_sld X hnm.1 hnm.2.1 hnm.2.2.1 h277 dL_law_670 ?_
        obtain ⟨h278, hf⟩ := pk_chk hf
        obtain ⟨r280, hc279, hf⟩ := pk_obd hf
        refine s_callV X (ci := 9) (k_X9_sizes G hc279) rfl h278 wd879 wd880 wd881 wd882 wd126 cd_X9_sizes ⟨Nat.le_of_ble_eq_true rfl, Nat.le_of_ble_eq_true rfl⟩ (Nat.le_of_ble_eq_true rfl) dL_law_671 ?_
        refine s_aload_n X 2 dL_law_674 rfl rfl ?_
        refine s_aload_n X 0 dL_law_675 rfl rfl ?_
        refine s_iload_n X 3 dL_law_676 rfl rfl ?_
        refine s_iconst X (v := (1 : Int32)) dL_law_677 rfl ?_
        refine s_iadd X dL_law_678 ?_
        obtain ⟨h281, hf⟩ := pk_chk hf
        refine s_sld X hnm.1 hnm.2.1 hnm.2.2.1 h281 dL_law_679 ?_
        obtain ⟨h282, hf⟩ := pk_chk hf
        obtain ⟨r284, hc283, hf⟩ := pk_obd hf
        refine s_callV X (ci := 10) (k_X10_sizes G hc283) rfl h282 wd1655 wd1656 wd1657 wd1658 wd138 cd_X10_sizes ⟨Nat.le_of_ble_eq_true rfl, Nat.le_of_ble_eq_true rfl⟩ (Nat.le_of_ble_eq_true rfl) dL_law_680 ?_
        have hs285 := pk_ite hf
        clear hf
        refine s_icmp_eq X (tgt := 1572) dL_law_683 rfl (fun c286 => ?_) (fun c286 => ?_)
        · have hf := hs285.1 c286
          obtain ⟨x287, e288, hf⟩ := pk_bnd hf
          refine s_iinc X (vs' := [(0, .ref b), (1, .ref (gB G + v1)), (2, .ref (gB G + v2)), (3, .int x287)]) 3 dL_law_1572 rfl (v := x287) e288.symm (Nat.le_of_ble_eq_true rfl) [1, 2, 3, 0] rfl ?_
          refine s_goto X (tgt := 18) dL_law_1575 rfl ?_
          exact ih _ _ _ _ hf
        · have hf := hs285.2 c286
          refine s_iconst X (v := (0 : Int32)) dL_law_686 rfl ?_
          exact (pk_01 hf).elim
      have hf := hs275.2 c276
      have hs289 := pk_ite hf
      clear hf
      by_cases c290 : x4 = (18 : Int32)
      · have hf := hs289.1 c290
        refine s_swC X (v := (18 : Int32)) (tgt := 688) dL_law_32 c290 (by decide) (by decide) rfl rfl ?_
        refine s_aload_n X 1 dL_law_688 rfl rfl ?_
        refine s_aload_n X 0 dL_law_689 rfl rfl ?_
        refine s_iload_n X 3 dL_law_690 rfl rfl ?_
        refine s_iconst X (v := (1 : Int32)) dL_law_691 rfl ?_
        refine s_iadd X dL_law_692 ?_
        obtain ⟨h291, hf⟩ := pk_chk hf
        refine s_sld X hnm.1 hnm.2.1 hnm.2.2.1 h291 dL_law_693 ?_
        obtain ⟨h292, hf⟩ := pk_chk hf
        obtain ⟨r294, M295, hc293, hf⟩ := pk_obd2 hf
        refine s_callV X (ci := 9) (k_X9_pivotal G hc293) rfl h292 wd902 wd903 wd904 wd905 wd126 cd_X9_pivotal ⟨Nat.le_of_ble_eq_true rfl, Nat.le_of_ble_eq_true rfl⟩ (Nat.le_of_ble_eq_true rfl) dL_law_694 ?_
        refine s_aload_n X 2 dL_law_697 rfl rfl ?_
        refine s_aload_n X 0 dL_law_698 rfl rfl ?_
        refine s_iload_n X 3 dL_law_699 rfl rfl ?_
        refine s_iconst X (v := (1 : Int32)) dL_law_700 rfl ?_
        refine s_iadd X dL_law_701 ?_
        obtain ⟨h296, hf⟩ := pk_chk hf
        refine s_sld X hnm.1 hnm.2.1 hnm.2.2.1 h296 dL_law_702 ?_
        obtain ⟨h297, hf⟩ := pk_chk hf
        obtain ⟨r299, hc298, hf⟩ := pk_obd hf
        refine s_callV X (ci := 10) (k_X10_pivotal G hc298) rfl h297 wd1659 wd1660 wd1661 wd1662 wd138 cd_X10_pivotal ⟨Nat.le_of_ble_eq_true rfl, Nat.le_of_ble_eq_true rfl⟩ (Nat.le_of_ble_eq_true rfl) dL_law_703 ?_
        have hs300 := pk_ite hf
        clear hf
        refine s_icmp_eq X (tgt := 1572) dL_law_706 rfl (fun c301 => ?_) (fun c301 => ?_)
        · have hf := hs300.1 c301
          obtain ⟨x302, e303, hf⟩ := pk_bnd hf
          refine s_iinc X (vs' := [(0, .ref b), (1, .ref (gB G + v1)), (2, .ref (gB G + v2)), (3, .int x302)]) 3 dL_law_1572 rfl (v := x302) e303.symm (Nat.le_of_ble_eq_true rfl) [1, 2, 3, 0] rfl ?_
          refine s_goto X (tgt := 18) dL_law_1575 rfl ?_
          exact ih _ _ _ _ hf
        · have hf := hs300.2 c301
          refine s_iconst X (v := (0 : Int32)) dL_law_709 rfl ?_
          exact (pk_01 hf).elim
      have hf := hs289.2 c290
      have hs304 := pk_ite hf
      clear hf
      by_cases c305 : x4 = (19 : Int32)
      · have hf := hs304.1 c305
        refine s_swC X (v := (19 : Int32)) (tgt := 711) dL_law_32 c305 (by decide) (by decide) rfl rfl ?_
        refine s_aload_n X 1 dL_law_711 rfl rfl ?_
        obtain ⟨h306, hf⟩ := pk_chk hf
        obtain ⟨r308, hc307, hf⟩ := pk_obd hf
        refine s_callV X (ci := 9) (k_X9_fair G hc307) rfl h306 wd910 wd911 wd912 wd913 wd126 cd_X9_fair ⟨Nat.le_of_ble_eq_true rfl, Nat.le_of_ble_eq_true rfl⟩ (Nat.le_of_ble_eq_true rfl) dL_law_712 ?_
        refine s_aload_n X 2 dL_law_715 rfl rfl ?_
        obtain ⟨h309, hf⟩ := pk_chk hf
        obtain ⟨r311, hc310, hf⟩ := pk_obd hf
        refine s_callV X (ci := 10) (k_X10_fair G hc310) rfl h309 wd1667 wd1668 wd1669 wd1670 wd138 cd_X10_fair ⟨Nat.le_of_ble_eq_true rfl, Nat.le_of_ble_eq_true rfl⟩ (Nat.le_of_ble_eq_true rfl) dL_law_716 ?_
        have hs312 := pk_ite hf
        clear hf
        refine s_icmp_eq X (tgt := 1572) dL_law_719 rfl (fun c313 => ?_) (fun c313 => ?_)
        · have hf := hs312.1 c313
          obtain ⟨x314, e315, hf⟩ := pk_bnd hf
          refine s_iinc X (vs' := [(0, .ref b), (1, .ref (gB G + v1)), (2, .ref (gB G + v2)), (3, .int x314)]) 3 dL_law_1572 rfl (v := x314) e315.symm (Nat.le_of_ble_eq_true rfl) [1, 2, 3, 0] rfl ?_
          refine s_goto X (tgt := 18) dL_law_1575 rfl ?_
          exact ih _ _ _ _ hf
        · have hf := hs312.2 c313
          refine s_iconst X (v := (0 : Int32)) dL_law_722 rfl ?_
          exact (pk_01 hf).elim
      have hf := hs304.2 c305
      have hs316 := pk_ite hf
      clear hf
      by_cases c317 : x4 = (20 : Int32)
      · have hf := hs316.1 c317
        refine s_swC X (v := (20 : Int32)) (tgt := 724) dL_law_32 c317 (by decide) (by decide) rfl rfl ?_
        refine s_aload_n X 1 dL_law_724 rfl rfl ?_
        obtain ⟨h318, hf⟩ := pk_chk hf
        obtain ⟨r320, M321, hc319, hf⟩ := pk_obd2 hf
        refine s_callV X (ci := 9) (k_X9_better G hc319) rfl h318 wd919 wd920 wd921 wd922 wd126 cd_X9_better ⟨Nat.le_of_ble_eq_true rfl, Nat.le_of_ble_eq_true rfl⟩ (Nat.le_of_ble_eq_true rfl) dL_law_725 ?_
        refine s_aload_n X 2 dL_law_728 rfl rfl ?_
        obtain ⟨h322, hf⟩ := pk_chk hf
        obtain ⟨r324, hc323, hf⟩ := pk_obd hf
        refine s_callV X (ci := 10) (k_X10_better G hc323) rfl h322 wd1672 wd1673 wd1674 wd1675 wd138 cd_X10_better ⟨Nat.le_of_ble_eq_true rfl, Nat.le_of_ble_eq_true rfl⟩ (Nat.le_of_ble_eq_true rfl) dL_law_729 ?_
        have hs325 := pk_ite hf
        clear hf
        refine s_icmp_eq X (tgt := 1572) dL_law_732 rfl (fun c326 => ?_) (fun c326 => ?_)
        · have hf := hs325.1 c326
          obtain ⟨x327, e328, hf⟩ := pk_bnd hf
          refine s_iinc X (vs' := [(0, .ref b), (1, .ref (gB G + v1)), (2, .ref (gB G + v2)), (3, .int x327)]) 3 dL_law_1572 rfl (v := x327) e328.symm (Nat.le_of_ble_eq_true rfl) [1, 2, 3, 0] rfl ?_
          refine s_goto X (tgt := 18) dL_law_1575 rfl ?_
          exact ih _ _ _ _ hf
        · have hf := hs325.2 c326
          refine s_iconst X (v := (0 : Int32)) dL_law_735 rfl ?_
          exact (pk_01 hf).elim
      have hf := hs316.2 c317
      have hs329 := pk_ite hf
      clear hf
      by_cases c330 : x4 = (21 : Int32)
      · have hf := hs329.1 c330
        refine s_swC X (v := (21 : Int32)) (tgt := 737) dL_law_32 c330 (by decide) (by decide) rfl rfl ?_
        refine s_aload_n X 1 dL_law_737 rfl rfl ?_
        refine s_aload_n X 0 dL_law_738 rfl rfl ?_
        refine s_iload_n X 3 dL_law_739 rfl rfl ?_
        refine s_iconst X (v := (1 : Int32)) dL_law_740 rfl ?_
        refine s_iadd X dL_law_741 ?_
        obtain ⟨h331, hf⟩ := pk_chk hf
        refine s_sld X hnm.1 hnm.2.1 hnm.2.2.1 h331 dL_law_742 ?_
        obtain ⟨h332, hf⟩ := pk_chk hf
        obtain ⟨r334, M335, hc333, hf⟩ := pk_obd2 hf
        refine s_callV X (ci := 9) (k_X9_ask G hc333) rfl h332 wd927 wd928 wd929 wd930 wd126 cd_X9_ask ⟨Nat.le_of_ble_eq_true rfl, Nat.le_of_ble_eq_true rfl⟩ (Nat.le_of_ble_eq_true rfl) dL_law_743 ?_
        refine s_aload_n X 2 dL_law_746 rfl rfl ?_
        refine s_aload_n X 0 dL_law_747 rfl rfl ?_
        refine s_iload_n X 3 dL_law_748 rfl rfl ?_
        refine s_iconst X (v := (1 : Int32)) dL_law_749 rfl ?_
        refine s_iadd X dL_law_750 ?_
        obtain ⟨h336, hf⟩ := pk_chk hf
        refine s_sld X hnm.1 hnm.2.1 hnm.2.2.1 h336 dL_law_751 ?_
        obtain ⟨h337, hf⟩ := pk_chk hf
        obtain ⟨r339, M340, hc338, hf⟩ := pk_obd2 hf
        refine s_callV X (ci := 10) (k_X10_ask G hc338) rfl h337 wd1680 wd1681 wd1682 wd1683 wd138 cd_X10_ask ⟨Nat.le_of_ble_eq_true rfl, Nat.le_of_ble_eq_true rfl⟩ (Nat.le_of_ble_eq_true rfl) dL_law_752 ?_
        have hs341 := pk_ite hf
        clear hf
        refine s_icmp_eq X (tgt := 1572) dL_law_755 rfl (fun c342 => ?_) (fun c342 => ?_)
        · have hf := hs341.1 c342
          obtain ⟨x343, e344, hf⟩ := pk_bnd hf
          refine s_iinc X (vs' := [(0, .ref b), (1, .ref (gB G + v1)), (2, .ref (gB G + v2)), (3, .int x343)]) 3 dL_law_1572 rfl (v := x343) e344.symm (Nat.le_of_ble_eq_true rfl) [1, 2, 3, 0] rfl ?_
          refine s_goto X (tgt := 18) dL_law_1575 rfl ?_
          exact ih _ _ _ _ hf
        · have hf := hs341.2 c342
          refine s_iconst X (v := (0 : Int32)) dL_law_758 rfl ?_
          exact (pk_01 hf).elim
      have hf := hs329.2 c330
      have hs345 := pk_ite hf
      clear hf
      by_cases c346 : x4 = (22 : Int32)
      · have hf := hs345.1 c346
        refine s_swC X (v := (22 : Int32)) (tgt := 760) dL_law_32 c346 (by decide) (by decide) rfl rfl ?_
        refine s_aload_n X 1 dL_law_760 rfl rfl ?_
        refine s_aload_n X 0 dL_law_761 rfl rfl ?_
        refine s_iload_n X 3 dL_law_762 rfl rfl ?_
        refine s_iconst X (v := (1 : Int32)) dL_law_763 rfl ?_
        refine s_iadd X dL_law_764 ?_
        obtain ⟨h347, hf⟩ := pk_chk hf
        refine s_sld X hnm.1 hnm.2.1 hnm.2.2.1 h347 dL_law_765 ?_
        obtain ⟨h348, hf⟩ := pk_chk hf
        obtain ⟨r350, M351, hc349, hf⟩ := pk_obd2 hf
        refine s_callV X (ci := 9) (k_X9_leave G hc349) rfl h348 wd962 wd963 wd964 wd965 wd126 cd_X9_leave ⟨Nat.le_of_ble_eq_true rfl, Nat.le_of_ble_eq_true rfl⟩ (Nat.le_of_ble_eq_true rfl) dL_law_766 ?_
        refine s_aload_n X 2 dL_law_769 rfl rfl ?_
        refine s_aload_n X 0 dL_law_770 rfl rfl ?_
        refine s_iload_n X 3 dL_law_771 rfl rfl ?_
        refine s_iconst X (v := (1 : Int32)) dL_law_772 rfl ?_
        refine s_iadd X dL_law_773 ?_
        obtain ⟨h352, hf⟩ := pk_chk hf
        refine s_sld X hnm.1 hnm.2.1 hnm.2.2.1 h352 dL_law_774 ?_
        obtain ⟨h353, hf⟩ := pk_chk hf
        obtain ⟨r355, M356, hc354, hf⟩ := pk_obd2 hf
        refine s_callV X (ci := 10) (k_X10_leave G hc354) rfl h353 wd1707 wd1708 wd1709 wd1710 wd138 cd_X10_leave ⟨Nat.le_of_ble_eq_true rfl, Nat.le_of_ble_eq_true rfl⟩ (Nat.le_of_ble_eq_true rfl) dL_law_775 ?_
        have hs357 := pk_ite hf
        clear hf
        refine s_icmp_eq X (tgt := 1572) dL_law_778 rfl (fun c358 => ?_) (fun c358 => ?_)
        · have hf := hs357.1 c358
          obtain ⟨x359, e360, hf⟩ := pk_bnd hf
          refine s_iinc X (vs' := [(0, .ref b), (1, .ref (gB G + v1)), (2, .ref (gB G + v2)), (3, .int x359)]) 3 dL_law_1572 rfl (v := x359) e360.symm (Nat.le_of_ble_eq_true rfl) [1, 2, 3, 0] rfl ?_
          refine s_goto X (tgt := 18) dL_law_1575 rfl ?_
          exact ih _ _ _ _ hf
        · have hf := hs357.2 c358
          refine s_iconst X (v := (0 : Int32)) dL_law_781 rfl ?_
          exact (pk_01 hf).elim
      have hf := hs345.2 c346
      have hs361 := pk_ite hf
      clear hf
      by_cases c362 : x4 = (23 : Int32)
      · have hf := hs361.1 c362
        refine s_swC X (v := (23 : Int32)) (tgt := 783) dL_law_32 c362 (by decide) (by decide) rfl rfl ?_
        refine s_aload_n X 1 dL_law_783 rfl rfl ?_
        refine s_aload_n X 0 dL_law_784 rfl rfl ?_
        refine s_iload_n X 3 dL_law_785 rfl rfl ?_
        refine s_iconst X (v := (1 : Int32)) dL_law_786 rfl ?_
        refine s_iadd X dL_law_787 ?_
        obtain ⟨h363, hf⟩ := pk_chk hf
        refine s_sld X hnm.1 hnm.2.1 hnm.2.2.1 h363 dL_law_788 ?_
        refine s_aload_n X 0 dL_law_789 rfl rfl ?_
        refine s_iload_n X 3 dL_law_790 rfl rfl ?_
        refine s_iconst X (v := (2 : Int32)) dL_law_791 rfl ?_
        refine s_iadd X dL_law_792 ?_
        obtain ⟨h364, hf⟩ := pk_chk hf
        refine s_sld X hnm.1 hnm.2.1 hnm.2.2.1 h364 dL_law_793 ?_
        obtain ⟨h365, hf⟩ := pk_chk hf
        obtain ⟨r367, M368, hc366, hf⟩ := pk_obd2 hf
        refine s_callV X (ci := 9) (k_X9_bring G hc366) rfl h365 wd975 wd976 wd977 wd978 wd126 cd_X9_bring ⟨Nat.le_of_ble_eq_true rfl, Nat.le_of_ble_eq_true rfl⟩ (Nat.le_of_ble_eq_true rfl) dL_law_794 ?_
        refine s_aload_n X 2 dL_law_797 rfl rfl ?_
        refine s_aload_n X 0 dL_law_798 rfl rfl ?_
        refine s_iload_n X 3 dL_law_799 rfl rfl ?_
        refine s_iconst X (v := (1 : Int32)) dL_law_800 rfl ?_
        refine s_iadd X dL_law_801 ?_
        obtain ⟨h369, hf⟩ := pk_chk hf
        refine s_sld X hnm.1 hnm.2.1 hnm.2.2.1 h369 dL_law_802 ?_
        refine s_aload_n X 0 dL_law_803 rfl rfl ?_
        refine s_iload_n X 3 dL_law_804 rfl rfl ?_
        refine s_iconst X (v := (2 : Int32)) dL_law_805 rfl ?_
        refine s_iadd X dL_law_806 ?_
        obtain ⟨h370, hf⟩ := pk_chk hf
        refine s_sld X hnm.1 hnm.2.1 hnm.2.2.1 h370 dL_law_807 ?_
        obtain ⟨h371, hf⟩ := pk_chk hf
        obtain ⟨r373, M374, hc372, hf⟩ := pk_obd2 hf
        refine s_callV X (ci := 10) (k_X10_bring G hc372) rfl h371 wd1727 wd1728 wd1729 wd1730 wd138 cd_X10_bring ⟨Nat.le_of_ble_eq_true rfl, Nat.le_of_ble_eq_true rfl⟩ (Nat.le_of_ble_eq_true rfl) dL_law_808 ?_
        have hs375 := pk_ite hf
        clear hf
        refine s_icmp_eq X (tgt := 1572) dL_law_811 rfl (fun c376 => ?_) (fun c376 => ?_)
        · have hf := hs375.1 c376
          obtain ⟨x377, e378, hf⟩ := pk_bnd hf
          refine s_iinc X (vs' := [(0, .ref b), (1, .ref (gB G + v1)), (2, .ref (gB G + v2)), (3, .int x377)]) 3 dL_law_1572 rfl (v := x377) e378.symm (Nat.le_of_ble_eq_true rfl) [1, 2, 3, 0] rfl ?_
          refine s_goto X (tgt := 18) dL_law_1575 rfl ?_
          exact ih _ _ _ _ hf
        · have hf := hs375.2 c376
          refine s_iconst X (v := (0 : Int32)) dL_law_814 rfl ?_
          exact (pk_01 hf).elim
      have hf := hs361.2 c362
      have hs379 := pk_ite hf
      clear hf
      by_cases c380 : x4 = (24 : Int32)
      · have hf := hs379.1 c380
        refine s_swC X (v := (24 : Int32)) (tgt := 816) dL_law_32 c380 (by decide) (by decide) rfl rfl ?_
        refine s_aload_n X 1 dL_law_816 rfl rfl ?_
        refine s_aload_n X 0 dL_law_817 rfl rfl ?_
        refine s_iload_n X 3 dL_law_818 rfl rfl ?_
        refine s_iconst X (v := (1 : Int32)) dL_law_819 rfl ?_
        refine s_iadd X dL_law_820 ?_
        obtain ⟨h381, hf⟩ := pk_chk hf
        refine s_sld X hnm.1 hnm.2.1 hnm.2.2.1 h381 dL_law_821 ?_
        obtain ⟨h382, hf⟩ := pk_chk hf
        obtain ⟨r384, M385, hc383, hf⟩ := pk_obd2 hf
        refine s_callV X (ci := 9) (k_X9_withdraw G hc383) rfl h382 wd1070 wd1071 wd1072 wd1073 wd126 cd_X9_withdraw ⟨Nat.le_of_ble_eq_true rfl, Nat.le_of_ble_eq_true rfl⟩ (Nat.le_of_ble_eq_true rfl) dL_law_822 ?_
        refine s_aload_n X 2 dL_law_825 rfl rfl ?_
        refine s_aload_n X 0 dL_law_826 rfl rfl ?_
        refine s_iload_n X 3 dL_law_827 rfl rfl ?_
        refine s_iconst X (v := (1 : Int32)) dL_law_828 rfl ?_
        refine s_iadd X dL_law_829 ?_
        obtain ⟨h386, hf⟩ := pk_chk hf
        refine s_sld X hnm.1 hnm.2.1 hnm.2.2.1 h386 dL_law_830 ?_
        obtain ⟨h387, hf⟩ := pk_chk hf
        obtain ⟨r389, M390, hc388, hf⟩ := pk_obd2 hf
        refine s_callV X (ci := 10) (k_X10_withdraw G hc388) rfl h387 wd1719 wd1720 wd1721 wd1722 wd138 cd_X10_withdraw ⟨Nat.le_of_ble_eq_true rfl, Nat.le_of_ble_eq_true rfl⟩ (Nat.le_of_ble_eq_true rfl) dL_law_831 ?_
        have hs391 := pk_ite hf
        clear hf
        refine s_icmp_eq X (tgt := 1572) dL_law_834 rfl (fun c392 => ?_) (fun c392 => ?_)
        · have hf := hs391.1 c392
          obtain ⟨x393, e394, hf⟩ := pk_bnd hf
          refine s_iinc X (vs' := [(0, .ref b), (1, .ref (gB G + v1)), (2, .ref (gB G + v2)), (3, .int x393)]) 3 dL_law_1572 rfl (v := x393) e394.symm (Nat.le_of_ble_eq_true rfl) [1, 2, 3, 0] rfl ?_
          refine s_goto X (tgt := 18) dL_law_1575 rfl ?_
          exact ih _ _ _ _ hf
        · have hf := hs391.2 c392
          refine s_iconst X (v := (0 : Int32)) dL_law_837 rfl ?_
          exact (pk_01 hf).elim
      have hf := hs379.2 c380
      have hs395 := pk_ite hf
      clear hf
      by_cases c396 : x4 = (25 : Int32)
      · have hf := hs395.1 c396
        refine s_swC X (v := (25 : Int32)) (tgt := 839) dL_law_32 c396 (by decide) (by decide) rfl rfl ?_
        refine s_aload_n X 1 dL_law_839 rfl rfl ?_
        refine s_aload_n X 0 dL_law_840 rfl rfl ?_
        refine s_iload_n X 3 dL_law_841 rfl rfl ?_
        refine s_iconst X (v := (1 : Int32)) dL_law_842 rfl ?_
        refine s_iadd X dL_law_843 ?_
        obtain ⟨h397, hf⟩ := pk_chk hf
        refine s_sld X hnm.1 hnm.2.1 hnm.2.2.1 h397 dL_law_844 ?_
        obtain ⟨h398, hf⟩ := pk_chk hf
        obtain ⟨r400, M401, hc399, hf⟩ := pk_obd2 hf
        refine s_callV X (ci := 9) (k_X9_breakDown G hc399) rfl h398 wd1074 wd1075 wd1076 wd1077 wd126 cd_X9_breakDown ⟨Nat.le_of_ble_eq_true rfl, Nat.le_of_ble_eq_true rfl⟩ (Nat.le_of_ble_eq_true rfl) dL_law_845 ?_
        refine s_aload_n X 2 dL_law_848 rfl rfl ?_
        refine s_aload_n X 0 dL_law_849 rfl rfl ?_
        refine s_iload_n X 3 dL_law_850 rfl rfl ?_
        refine s_iconst X (v := (1 : Int32)) dL_law_851 rfl ?_
        refine s_iadd X dL_law_852 ?_
        obtain ⟨h402, hf⟩ := pk_chk hf
        refine s_sld X hnm.1 hnm.2.1 hnm.2.2.1 h402 dL_law_853 ?_
        obtain ⟨h403, hf⟩ := pk_chk hf
        obtain ⟨r405, M406, hc404, hf⟩ := pk_obd2 hf
        refine s_callV X (ci := 10) (k_X10_breakDown G hc404) rfl h403 wd1842 wd1843 wd1844 wd1845 wd138 cd_X10_breakDown ⟨Nat.le_of_ble_eq_true rfl, Nat.le_of_ble_eq_true rfl⟩ (Nat.le_of_ble_eq_true rfl) dL_law_854 ?_
        have hs407 := pk_ite hf
        clear hf
        refine s_icmp_eq X (tgt := 1572) dL_law_857 rfl (fun c408 => ?_) (fun c408 => ?_)
        · have hf := hs407.1 c408
          obtain ⟨x409, e410, hf⟩ := pk_bnd hf
          refine s_iinc X (vs' := [(0, .ref b), (1, .ref (gB G + v1)), (2, .ref (gB G + v2)), (3, .int x409)]) 3 dL_law_1572 rfl (v := x409) e410.symm (Nat.le_of_ble_eq_true rfl) [1, 2, 3, 0] rfl ?_
          refine s_goto X (tgt := 18) dL_law_1575 rfl ?_
          exact ih _ _ _ _ hf
        · have hf := hs407.2 c408
          refine s_iconst X (v := (0 : Int32)) dL_law_860 rfl ?_
          exact (pk_01 hf).elim
      have hf := hs395.2 c396
      have hs411 := pk_ite hf
      clear hf
      by_cases c412 : x4 = (26 : Int32)
      · have hf := hs411.1 c412
        refine s_swC X (v := (26 : Int32)) (tgt := 862) dL_law_32 c412 (by decide) (by decide) rfl rfl ?_
        refine s_aload_n X 1 dL_law_862 rfl rfl ?_
        refine s_aload_n X 0 dL_law_863 rfl rfl ?_
        refine s_iload_n X 3 dL_law_864 rfl rfl ?_
        refine s_iconst X (v := (1 : Int32)) dL_law_865 rfl ?_
        refine s_iadd X dL_law_866 ?_
        obtain ⟨h413, hf⟩ := pk_chk hf
        refine s_sld X hnm.1 hnm.2.1 hnm.2.2.1 h413 dL_law_867 ?_
        obtain ⟨h414, hf⟩ := pk_chk hf
        obtain ⟨r416, M417, hc415, hf⟩ := pk_obd2 hf
        refine s_callV X (ci := 9) (k_X9_mend G hc415) rfl h414 wd1114 wd1115 wd1116 wd1117 wd126 cd_X9_mend ⟨Nat.le_of_ble_eq_true rfl, Nat.le_of_ble_eq_true rfl⟩ (Nat.le_of_ble_eq_true rfl) dL_law_868 ?_
        refine s_aload_n X 2 dL_law_871 rfl rfl ?_
        refine s_aload_n X 0 dL_law_872 rfl rfl ?_
        refine s_iload_n X 3 dL_law_873 rfl rfl ?_
        refine s_iconst X (v := (1 : Int32)) dL_law_874 rfl ?_
        refine s_iadd X dL_law_875 ?_
        obtain ⟨h418, hf⟩ := pk_chk hf
        refine s_sld X hnm.1 hnm.2.1 hnm.2.2.1 h418 dL_law_876 ?_
        obtain ⟨h419, hf⟩ := pk_chk hf
        obtain ⟨r421, M422, hc420, hf⟩ := pk_obd2 hf
        refine s_callV X (ci := 10) (k_X10_mend G hc420) rfl h419 wd1858 wd1859 wd1860 wd1861 wd138 cd_X10_mend ⟨Nat.le_of_ble_eq_true rfl, Nat.le_of_ble_eq_true rfl⟩ (Nat.le_of_ble_eq_true rfl) dL_law_877 ?_
        have hs423 := pk_ite hf
        clear hf
        refine s_icmp_eq X (tgt := 1572) dL_law_880 rfl (fun c424 => ?_) (fun c424 => ?_)
        · have hf := hs423.1 c424
          obtain ⟨x425, e426, hf⟩ := pk_bnd hf
          refine s_iinc X (vs' := [(0, .ref b), (1, .ref (gB G + v1)), (2, .ref (gB G + v2)), (3, .int x425)]) 3 dL_law_1572 rfl (v := x425) e426.symm (Nat.le_of_ble_eq_true rfl) [1, 2, 3, 0] rfl ?_
          refine s_goto X (tgt := 18) dL_law_1575 rfl ?_
          exact ih _ _ _ _ hf
        · have hf := hs423.2 c424
          refine s_iconst X (v := (0 : Int32)) dL_law_883 rfl ?_
          exact (pk_01 hf).elim
      have hf := hs411.2 c412
      have hs427 := pk_ite hf
      clear hf
      by_cases c428 : x4 = (27 : Int32)
      · have hf := hs427.1 c428
        refine s_swC X (v := (27 : Int32)) (tgt := 885) dL_law_32 c428 (by decide) (by decide) rfl rfl ?_
        refine s_aload_n X 1 dL_law_885 rfl rfl ?_
        refine s_aload_n X 0 dL_law_886 rfl rfl ?_
        refine s_iload_n X 3 dL_law_887 rfl rfl ?_
        refine s_iconst X (v := (1 : Int32)) dL_law_888 rfl ?_
        refine s_iadd X dL_law_889 ?_
        obtain ⟨h429, hf⟩ := pk_chk hf
        refine s_sld X hnm.1 hnm.2.1 hnm.2.2.1 h429 dL_law_890 ?_
        refine s_aload_n X 0 dL_law_891 rfl rfl ?_
        refine s_iload_n X 3 dL_law_892 rfl rfl ?_
        refine s_iconst X (v := (2 : Int32)) dL_law_893 rfl ?_
        refine s_iadd X dL_law_894 ?_
        obtain ⟨h430, hf⟩ := pk_chk hf
        refine s_sld X hnm.1 hnm.2.1 hnm.2.2.1 h430 dL_law_895 ?_
        obtain ⟨h431, hf⟩ := pk_chk hf
        obtain ⟨r433, hc432, hf⟩ := pk_obd hf
        refine s_callV X (ci := 9) (k_X9_node G hc432) rfl h431 wd1126 wd1127 wd1128 wd1129 wd126 cd_X9_node ⟨Nat.le_of_ble_eq_true rfl, Nat.le_of_ble_eq_true rfl⟩ (Nat.le_of_ble_eq_true rfl) dL_law_896 ?_
        refine s_aload_n X 2 dL_law_899 rfl rfl ?_
        refine s_aload_n X 0 dL_law_900 rfl rfl ?_
        refine s_iload_n X 3 dL_law_901 rfl rfl ?_
        refine s_iconst X (v := (1 : Int32)) dL_law_902 rfl ?_
        refine s_iadd X dL_law_903 ?_
        obtain ⟨h434, hf⟩ := pk_chk hf
        refine s_sld X hnm.1 hnm.2.1 hnm.2.2.1 h434 dL_law_904 ?_
        refine s_aload_n X 0 dL_law_905 rfl rfl ?_
        refine s_iload_n X 3 dL_law_906 rfl rfl ?_
        refine s_iconst X (v := (2 : Int32)) dL_law_907 rfl ?_
        refine s_iadd X dL_law_908 ?_
        obtain ⟨h435, hf⟩ := pk_chk hf
        refine s_sld X hnm.1 hnm.2.1 hnm.2.2.1 h435 dL_law_909 ?_
        obtain ⟨h436, hf⟩ := pk_chk hf
        obtain ⟨r438, hc437, hf⟩ := pk_obd hf
        refine s_callV X (ci := 10) (k_X10_node G hc437) rfl h436 wd1866 wd1867 wd1868 wd1869 wd138 cd_X10_node ⟨Nat.le_of_ble_eq_true rfl, Nat.le_of_ble_eq_true rfl⟩ (Nat.le_of_ble_eq_true rfl) dL_law_910 ?_
        have hs439 := pk_ite hf
        clear hf
        refine s_icmp_eq X (tgt := 1572) dL_law_913 rfl (fun c440 => ?_) (fun c440 => ?_)
        · have hf := hs439.1 c440
          obtain ⟨x441, e442, hf⟩ := pk_bnd hf
          refine s_iinc X (vs' := [(0, .ref b), (1, .ref (gB G + v1)), (2, .ref (gB G + v2)), (3, .int x441)]) 3 dL_law_1572 rfl (v := x441) e442.symm (Nat.le_of_ble_eq_true rfl) [1, 2, 3, 0] rfl ?_
          refine s_goto X (tgt := 18) dL_law_1575 rfl ?_
          exact ih _ _ _ _ hf
        · have hf := hs439.2 c440
          refine s_iconst X (v := (0 : Int32)) dL_law_916 rfl ?_
          exact (pk_01 hf).elim
      have hf := hs427.2 c428
      have hs443 := pk_ite hf
      clear hf
      by_cases c444 : x4 = (28 : Int32)
      · have hf := hs443.1 c444
        refine s_swC X (v := (28 : Int32)) (tgt := 918) dL_law_32 c444 (by decide) (by decide) rfl rfl ?_
        refine s_aload_n X 1 dL_law_918 rfl rfl ?_
        refine s_aload_n X 0 dL_law_919 rfl rfl ?_
        refine s_iload_n X 3 dL_law_920 rfl rfl ?_
        refine s_iconst X (v := (1 : Int32)) dL_law_921 rfl ?_
        refine s_iadd X dL_law_922 ?_
        obtain ⟨h445, hf⟩ := pk_chk hf
        refine s_sld X hnm.1 hnm.2.1 hnm.2.2.1 h445 dL_law_923 ?_
        refine s_aload_n X 0 dL_law_924 rfl rfl ?_
        refine s_iload_n X 3 dL_law_925 rfl rfl ?_
        refine s_iconst X (v := (2 : Int32)) dL_law_926 rfl ?_
        refine s_iadd X dL_law_927 ?_
        obtain ⟨h446, hf⟩ := pk_chk hf
        refine s_sld X hnm.1 hnm.2.1 hnm.2.2.1 h446 dL_law_928 ?_
        obtain ⟨h447, hf⟩ := pk_chk hf
        obtain ⟨r449, hc448, hf⟩ := pk_obd hf
        refine s_callV X (ci := 9) (k_X9_arbiter G hc448) rfl h447 wd1130 wd1131 wd1132 wd1133 wd126 cd_X9_arbiter ⟨Nat.le_of_ble_eq_true rfl, Nat.le_of_ble_eq_true rfl⟩ (Nat.le_of_ble_eq_true rfl) dL_law_929 ?_
        refine s_aload_n X 2 dL_law_932 rfl rfl ?_
        refine s_aload_n X 0 dL_law_933 rfl rfl ?_
        refine s_iload_n X 3 dL_law_934 rfl rfl ?_
        refine s_iconst X (v := (1 : Int32)) dL_law_935 rfl ?_
        refine s_iadd X dL_law_936 ?_
        obtain ⟨h450, hf⟩ := pk_chk hf
        refine s_sld X hnm.1 hnm.2.1 hnm.2.2.1 h450 dL_law_937 ?_
        refine s_aload_n X 0 dL_law_938 rfl rfl ?_
        refine s_iload_n X 3 dL_law_939 rfl rfl ?_
        refine s_iconst X (v := (2 : Int32)) dL_law_940 rfl ?_
        refine s_iadd X dL_law_941 ?_
        obtain ⟨h451, hf⟩ := pk_chk hf
        refine s_sld X hnm.1 hnm.2.1 hnm.2.2.1 h451 dL_law_942 ?_
        obtain ⟨h452, hf⟩ := pk_chk hf
        obtain ⟨r454, hc453, hf⟩ := pk_obd hf
        refine s_callV X (ci := 10) (k_X10_arbiter G hc453) rfl h452 wd1870 wd1871 wd1872 wd1873 wd138 cd_X10_arbiter ⟨Nat.le_of_ble_eq_true rfl, Nat.le_of_ble_eq_true rfl⟩ (Nat.le_of_ble_eq_true rfl) dL_law_943 ?_
        have hs455 := pk_ite hf
        clear hf
        refine s_icmp_eq X (tgt := 1572) dL_law_946 rfl (fun c456 => ?_) (fun c456 => ?_)
        · have hf := hs455.1 c456
          obtain ⟨x457, e458, hf⟩ := pk_bnd hf
          refine s_iinc X (vs' := [(0, .ref b), (1, .ref (gB G + v1)), (2, .ref (gB G + v2)), (3, .int x457)]) 3 dL_law_1572 rfl (v := x457) e458.symm (Nat.le_of_ble_eq_true rfl) [1, 2, 3, 0] rfl ?_
          refine s_goto X (tgt := 18) dL_law_1575 rfl ?_
          exact ih _ _ _ _ hf
        · have hf := hs455.2 c456
          refine s_iconst X (v := (0 : Int32)) dL_law_949 rfl ?_
          exact (pk_01 hf).elim
      have hf := hs443.2 c444
      have hs459 := pk_ite hf
      clear hf
      by_cases c460 : x4 = (29 : Int32)
      · have hf := hs459.1 c460
        refine s_swC X (v := (29 : Int32)) (tgt := 951) dL_law_32 c460 (by decide) (by decide) rfl rfl ?_
        refine s_aload_n X 1 dL_law_951 rfl rfl ?_
        refine s_aload_n X 0 dL_law_952 rfl rfl ?_
        refine s_iload_n X 3 dL_law_953 rfl rfl ?_
        refine s_iconst X (v := (1 : Int32)) dL_law_954 rfl ?_
        refine s_iadd X dL_law_955 ?_
        obtain ⟨h461, hf⟩ := pk_chk hf
        refine s_sld X hnm.1 hnm.2.1 hnm.2.2.1 h461 dL_law_956 ?_
        refine s_aload_n X 0 dL_law_957 rfl rfl ?_
        refine s_iload_n X 3 dL_law_958 rfl rfl ?_
        refine s_iconst X (v := (2 : Int32)) dL_law_959 rfl ?_
        refine s_iadd X dL_law_960 ?_
        obtain ⟨h462, hf⟩ := pk_chk hf
        refine s_sld X hnm.1 hnm.2.1 hnm.2.2.1 h462 dL_law_961 ?_
        refine s_aload_n X 0 dL_law_962 rfl rfl ?_
        refine s_iload_n X 3 dL_law_963 rfl rfl ?_
        refine s_iconst X (v := (3 : Int32)) dL_law_964 rfl ?_
        refine s_iadd X dL_law_965 ?_
        obtain ⟨h463, hf⟩ := pk_chk hf
        refine s_sld X hnm.1 hnm.2.1 hnm.2.2.1 h463 dL_law_966 ?_
        obtain ⟨h464, hf⟩ := pk_chk hf
        obtain ⟨r466, hc465, hf⟩ := pk_obd hf
        refine s_callV X (ci := 9) (k_X9_waiting G hc465) rfl h464 wd1134 wd1135 wd1136 wd1137 wd126 cd_X9_waiting ⟨Nat.le_of_ble_eq_true rfl, Nat.le_of_ble_eq_true rfl⟩ (Nat.le_of_ble_eq_true rfl) dL_law_967 ?_
        refine s_aload_n X 2 dL_law_970 rfl rfl ?_
        refine s_aload_n X 0 dL_law_971 rfl rfl ?_
        refine s_iload_n X 3 dL_law_972 rfl rfl ?_
        refine s_iconst X (v := (1 : Int32)) dL_law_973 rfl ?_
        refine s_iadd X dL_law_974 ?_
        obtain ⟨h467, hf⟩ := pk_chk hf
        refine s_sld X hnm.1 hnm.2.1 hnm.2.2.1 h467 dL_law_975 ?_
        refine s_aload_n X 0 dL_law_976 rfl rfl ?_
        refine s_iload_n X 3 dL_law_977 rfl rfl ?_
        refine s_iconst X (v := (2 : Int32)) dL_law_978 rfl ?_
        refine s_iadd X dL_law_979 ?_
        obtain ⟨h468, hf⟩ := pk_chk hf
        refine s_sld X hnm.1 hnm.2.1 hnm.2.2.1 h468 dL_law_980 ?_
        refine s_aload_n X 0 dL_law_981 rfl rfl ?_
        refine s_iload_n X 3 dL_law_982 rfl rfl ?_
        refine s_iconst X (v := (3 : Int32)) dL_law_983 rfl ?_
        refine s_iadd X dL_law_984 ?_
        obtain ⟨h469, hf⟩ := pk_chk hf
        refine s_sld X hnm.1 hnm.2.1 hnm.2.2.1 h469 dL_law_985 ?_
        obtain ⟨h470, hf⟩ := pk_chk hf
        obtain ⟨r472, hc471, hf⟩ := pk_obd hf
        refine s_callV X (ci := 10) (k_X10_waiting G hc471) rfl h470 wd1874 wd1875 wd1876 wd1877 wd138 cd_X10_waiting ⟨Nat.le_of_ble_eq_true rfl, Nat.le_of_ble_eq_true rfl⟩ (Nat.le_of_ble_eq_true rfl) dL_law_986 ?_
        have hs473 := pk_ite hf
        clear hf
        refine s_icmp_eq X (tgt := 1572) dL_law_989 rfl (fun c474 => ?_) (fun c474 => ?_)
        · have hf := hs473.1 c474
          obtain ⟨x475, e476, hf⟩ := pk_bnd hf
          refine s_iinc X (vs' := [(0, .ref b), (1, .ref (gB G + v1)), (2, .ref (gB G + v2)), (3, .int x475)]) 3 dL_law_1572 rfl (v := x475) e476.symm (Nat.le_of_ble_eq_true rfl) [1, 2, 3, 0] rfl ?_
          refine s_goto X (tgt := 18) dL_law_1575 rfl ?_
          exact ih _ _ _ _ hf
        · have hf := hs473.2 c474
          refine s_iconst X (v := (0 : Int32)) dL_law_992 rfl ?_
          exact (pk_01 hf).elim
      have hf := hs459.2 c460
      have hs477 := pk_ite hf
      clear hf
      by_cases c478 : x4 = (30 : Int32)
      · have hf := hs477.1 c478
        refine s_swC X (v := (30 : Int32)) (tgt := 994) dL_law_32 c478 (by decide) (by decide) rfl rfl ?_
        refine s_aload_n X 1 dL_law_994 rfl rfl ?_
        refine s_aload_n X 0 dL_law_995 rfl rfl ?_
        refine s_iload_n X 3 dL_law_996 rfl rfl ?_
        refine s_iconst X (v := (1 : Int32)) dL_law_997 rfl ?_
        refine s_iadd X dL_law_998 ?_
        obtain ⟨h479, hf⟩ := pk_chk hf
        refine s_sld X hnm.1 hnm.2.1 hnm.2.2.1 h479 dL_law_999 ?_
        refine s_aload_n X 0 dL_law_1000 rfl rfl ?_
        refine s_iload_n X 3 dL_law_1001 rfl rfl ?_
        refine s_iconst X (v := (2 : Int32)) dL_law_1002 rfl ?_
        refine s_iadd X dL_law_1003 ?_
        obtain ⟨h480, hf⟩ := pk_chk hf
        refine s_sld X hnm.1 hnm.2.1 hnm.2.2.1 h480 dL_law_1004 ?_
        refine s_aload_n X 0 dL_law_1005 rfl rfl ?_
        refine s_iload_n X 3 dL_law_1006 rfl rfl ?_
        refine s_iconst X (v := (3 : Int32)) dL_law_1007 rfl ?_
        refine s_iadd X dL_law_1008 ?_
        obtain ⟨h481, hf⟩ := pk_chk hf
        refine s_sld X hnm.1 hnm.2.1 hnm.2.2.1 h481 dL_law_1009 ?_
        obtain ⟨h482, hf⟩ := pk_chk hf
        obtain ⟨r484, hc483, hf⟩ := pk_obd hf
        refine s_callV X (ci := 9) (k_X9_way G hc483) rfl h482 wd1146 wd1147 wd1148 wd1149 wd126 cd_X9_way ⟨Nat.le_of_ble_eq_true rfl, Nat.le_of_ble_eq_true rfl⟩ (Nat.le_of_ble_eq_true rfl) dL_law_1010 ?_
        refine s_aload_n X 2 dL_law_1013 rfl rfl ?_
        refine s_aload_n X 0 dL_law_1014 rfl rfl ?_
        refine s_iload_n X 3 dL_law_1015 rfl rfl ?_
        refine s_iconst X (v := (1 : Int32)) dL_law_1016 rfl ?_
        refine s_iadd X dL_law_1017 ?_
        obtain ⟨h485, hf⟩ := pk_chk hf
        refine s_sld X hnm.1 hnm.2.1 hnm.2.2.1 h485 dL_law_1018 ?_
        refine s_aload_n X 0 dL_law_1019 rfl rfl ?_
        refine s_iload_n X 3 dL_law_1020 rfl rfl ?_
        refine s_iconst X (v := (2 : Int32)) dL_law_1021 rfl ?_
        refine s_iadd X dL_law_1022 ?_
        obtain ⟨h486, hf⟩ := pk_chk hf
        refine s_sld X hnm.1 hnm.2.1 hnm.2.2.1 h486 dL_law_1023 ?_
        refine s_aload_n X 0 dL_law_1024 rfl rfl ?_
        refine s_iload_n X 3 dL_law_1025 rfl rfl ?_
        refine s_iconst X (v := (3 : Int32)) dL_law_1026 rfl ?_
        refine s_iadd X dL_law_1027 ?_
        obtain ⟨h487, hf⟩ := pk_chk hf
        refine s_sld X hnm.1 hnm.2.1 hnm.2.2.1 h487 dL_law_1028 ?_
        obtain ⟨h488, hf⟩ := pk_chk hf
        obtain ⟨r490, hc489, hf⟩ := pk_obd hf
        refine s_callV X (ci := 10) (k_X10_way G hc489) rfl h488 wd1878 wd1879 wd1880 wd1881 wd138 cd_X10_way ⟨Nat.le_of_ble_eq_true rfl, Nat.le_of_ble_eq_true rfl⟩ (Nat.le_of_ble_eq_true rfl) dL_law_1029 ?_
        have hs491 := pk_ite hf
        clear hf
        refine s_icmp_eq X (tgt := 1572) dL_law_1032 rfl (fun c492 => ?_) (fun c492 => ?_)
        · have hf := hs491.1 c492
          obtain ⟨x493, e494, hf⟩ := pk_bnd hf
          refine s_iinc X (vs' := [(0, .ref b), (1, .ref (gB G + v1)), (2, .ref (gB G + v2)), (3, .int x493)]) 3 dL_law_1572 rfl (v := x493) e494.symm (Nat.le_of_ble_eq_true rfl) [1, 2, 3, 0] rfl ?_
          refine s_goto X (tgt := 18) dL_law_1575 rfl ?_
          exact ih _ _ _ _ hf
        · have hf := hs491.2 c492
          refine s_iconst X (v := (0 : Int32)) dL_law_1035 rfl ?_
          exact (pk_01 hf).elim
      have hf := hs477.2 c478
      have hs495 := pk_ite hf
      clear hf
      by_cases c496 : x4 = (31 : Int32)
      · have hf := hs495.1 c496
        refine s_swC X (v := (31 : Int32)) (tgt := 1037) dL_law_32 c496 (by decide) (by decide) rfl rfl ?_
        refine s_aload_n X 1 dL_law_1037 rfl rfl ?_
        refine s_aload_n X 0 dL_law_1038 rfl rfl ?_
        refine s_iload_n X 3 dL_law_1039 rfl rfl ?_
        refine s_iconst X (v := (1 : Int32)) dL_law_1040 rfl ?_
        refine s_iadd X dL_law_1041 ?_
        obtain ⟨h497, hf⟩ := pk_chk hf
        refine s_sld X hnm.1 hnm.2.1 hnm.2.2.1 h497 dL_law_1042 ?_
        obtain ⟨h498, hf⟩ := pk_chk hf
        obtain ⟨r500, M501, hc499, hf⟩ := pk_obd2 hf
        refine s_callV X (ci := 9) (k_X9_is G hc499) rfl h498 wd1156 wd1157 wd1158 wd1159 wd126 cd_X9_is ⟨Nat.le_of_ble_eq_true rfl, Nat.le_of_ble_eq_true rfl⟩ (Nat.le_of_ble_eq_true rfl) dL_law_1043 ?_
        refine s_aload_n X 2 dL_law_1046 rfl rfl ?_
        refine s_aload_n X 0 dL_law_1047 rfl rfl ?_
        refine s_iload_n X 3 dL_law_1048 rfl rfl ?_
        refine s_iconst X (v := (1 : Int32)) dL_law_1049 rfl ?_
        refine s_iadd X dL_law_1050 ?_
        obtain ⟨h502, hf⟩ := pk_chk hf
        refine s_sld X hnm.1 hnm.2.1 hnm.2.2.1 h502 dL_law_1051 ?_
        obtain ⟨h503, hf⟩ := pk_chk hf
        obtain ⟨r505, M506, hc504, hf⟩ := pk_obd2 hf
        refine s_callV X (ci := 10) (k_X10_is G hc504) rfl h503 wd1898 wd1899 wd1900 wd1901 wd138 cd_X10_is ⟨Nat.le_of_ble_eq_true rfl, Nat.le_of_ble_eq_true rfl⟩ (Nat.le_of_ble_eq_true rfl) dL_law_1052 ?_
        have hs507 := pk_ite hf
        clear hf
        refine s_icmp_eq X (tgt := 1572) dL_law_1055 rfl (fun c508 => ?_) (fun c508 => ?_)
        · have hf := hs507.1 c508
          obtain ⟨x509, e510, hf⟩ := pk_bnd hf
          refine s_iinc X (vs' := [(0, .ref b), (1, .ref (gB G + v1)), (2, .ref (gB G + v2)), (3, .int x509)]) 3 dL_law_1572 rfl (v := x509) e510.symm (Nat.le_of_ble_eq_true rfl) [1, 2, 3, 0] rfl ?_
          refine s_goto X (tgt := 18) dL_law_1575 rfl ?_
          exact ih _ _ _ _ hf
        · have hf := hs507.2 c508
          refine s_iconst X (v := (0 : Int32)) dL_law_1058 rfl ?_
          exact (pk_01 hf).elim
      have hf := hs495.2 c496
      have hs511 := pk_ite hf
      clear hf
      by_cases c512 : x4 = (32 : Int32)
      · have hf := hs511.1 c512
        refine s_swC X (v := (32 : Int32)) (tgt := 1060) dL_law_32 c512 (by decide) (by decide) rfl rfl ?_
        refine s_aload_n X 1 dL_law_1060 rfl rfl ?_
        refine s_aload_n X 0 dL_law_1061 rfl rfl ?_
        refine s_iload_n X 3 dL_law_1062 rfl rfl ?_
        refine s_iconst X (v := (1 : Int32)) dL_law_1063 rfl ?_
        refine s_iadd X dL_law_1064 ?_
        obtain ⟨h513, hf⟩ := pk_chk hf
        refine s_sld X hnm.1 hnm.2.1 hnm.2.2.1 h513 dL_law_1065 ?_
        obtain ⟨h514, hf⟩ := pk_chk hf
        obtain ⟨r516, hc515, hf⟩ := pk_obd hf
        refine s_callV X (ci := 9) (k_X9_handled G hc515) rfl h514 wd1172 wd1173 wd1174 wd1175 wd126 cd_X9_handled ⟨Nat.le_of_ble_eq_true rfl, Nat.le_of_ble_eq_true rfl⟩ (Nat.le_of_ble_eq_true rfl) dL_law_1066 ?_
        refine s_aload_n X 2 dL_law_1069 rfl rfl ?_
        refine s_aload_n X 0 dL_law_1070 rfl rfl ?_
        refine s_iload_n X 3 dL_law_1071 rfl rfl ?_
        refine s_iconst X (v := (1 : Int32)) dL_law_1072 rfl ?_
        refine s_iadd X dL_law_1073 ?_
        obtain ⟨h517, hf⟩ := pk_chk hf
        refine s_sld X hnm.1 hnm.2.1 hnm.2.2.1 h517 dL_law_1074 ?_
        obtain ⟨h518, hf⟩ := pk_chk hf
        obtain ⟨r520, hc519, hf⟩ := pk_obd hf
        refine s_callV X (ci := 10) (k_X10_handled G hc519) rfl h518 wd1723 wd1724 wd1725 wd1726 wd138 cd_X10_handled ⟨Nat.le_of_ble_eq_true rfl, Nat.le_of_ble_eq_true rfl⟩ (Nat.le_of_ble_eq_true rfl) dL_law_1075 ?_
        have hs521 := pk_ite hf
        clear hf
        refine s_icmp_eq X (tgt := 1572) dL_law_1078 rfl (fun c522 => ?_) (fun c522 => ?_)
        · have hf := hs521.1 c522
          obtain ⟨x523, e524, hf⟩ := pk_bnd hf
          refine s_iinc X (vs' := [(0, .ref b), (1, .ref (gB G + v1)), (2, .ref (gB G + v2)), (3, .int x523)]) 3 dL_law_1572 rfl (v := x523) e524.symm (Nat.le_of_ble_eq_true rfl) [1, 2, 3, 0] rfl ?_
          refine s_goto X (tgt := 18) dL_law_1575 rfl ?_
          exact ih _ _ _ _ hf
        · have hf := hs521.2 c522
          refine s_iconst X (v := (0 : Int32)) dL_law_1081 rfl ?_
          exact (pk_01 hf).elim
      have hf := hs511.2 c512
      have hs525 := pk_ite hf
      clear hf
      by_cases c526 : x4 = (33 : Int32)
      · have hf := hs525.1 c526
        refine s_swC X (v := (33 : Int32)) (tgt := 1083) dL_law_32 c526 (by decide) (by decide) rfl rfl ?_
        refine s_aload_n X 1 dL_law_1083 rfl rfl ?_
        refine s_aload_n X 0 dL_law_1084 rfl rfl ?_
        refine s_iload_n X 3 dL_law_1085 rfl rfl ?_
        refine s_iconst X (v := (1 : Int32)) dL_law_1086 rfl ?_
        refine s_iadd X dL_law_1087 ?_
        obtain ⟨h527, hf⟩ := pk_chk hf
        refine s_sld X hnm.1 hnm.2.1 hnm.2.2.1 h527 dL_law_1088 ?_
        obtain ⟨h528, hf⟩ := pk_chk hf
        obtain ⟨r530, hc529, hf⟩ := pk_obd hf
        refine s_callV X (ci := 9) (k_X9_sent G hc529) rfl h528 wd1176 wd1177 wd1178 wd1179 wd126 cd_X9_sent ⟨Nat.le_of_ble_eq_true rfl, Nat.le_of_ble_eq_true rfl⟩ (Nat.le_of_ble_eq_true rfl) dL_law_1089 ?_
        refine s_aload_n X 2 dL_law_1092 rfl rfl ?_
        refine s_aload_n X 0 dL_law_1093 rfl rfl ?_
        refine s_iload_n X 3 dL_law_1094 rfl rfl ?_
        refine s_iconst X (v := (1 : Int32)) dL_law_1095 rfl ?_
        refine s_iadd X dL_law_1096 ?_
        obtain ⟨h531, hf⟩ := pk_chk hf
        refine s_sld X hnm.1 hnm.2.1 hnm.2.2.1 h531 dL_law_1097 ?_
        obtain ⟨h532, hf⟩ := pk_chk hf
        obtain ⟨r534, hc533, hf⟩ := pk_obd hf
        refine s_callV X (ci := 10) (k_X10_sent G hc533) rfl h532 wd1918 wd1919 wd1920 wd1921 wd138 cd_X10_sent ⟨Nat.le_of_ble_eq_true rfl, Nat.le_of_ble_eq_true rfl⟩ (Nat.le_of_ble_eq_true rfl) dL_law_1098 ?_
        have hs535 := pk_ite hf
        clear hf
        refine s_icmp_eq X (tgt := 1572) dL_law_1101 rfl (fun c536 => ?_) (fun c536 => ?_)
        · have hf := hs535.1 c536
          obtain ⟨x537, e538, hf⟩ := pk_bnd hf
          refine s_iinc X (vs' := [(0, .ref b), (1, .ref (gB G + v1)), (2, .ref (gB G + v2)), (3, .int x537)]) 3 dL_law_1572 rfl (v := x537) e538.symm (Nat.le_of_ble_eq_true rfl) [1, 2, 3, 0] rfl ?_
          refine s_goto X (tgt := 18) dL_law_1575 rfl ?_
          exact ih _ _ _ _ hf
        · have hf := hs535.2 c536
          refine s_iconst X (v := (0 : Int32)) dL_law_1104 rfl ?_
          exact (pk_01 hf).elim
      have hf := hs525.2 c526
      have hs539 := pk_ite hf
      clear hf
      by_cases c540 : x4 = (34 : Int32)
      · have hf := hs539.1 c540
        refine s_swC X (v := (34 : Int32)) (tgt := 1106) dL_law_32 c540 (by decide) (by decide) rfl rfl ?_
        refine s_aload_n X 1 dL_law_1106 rfl rfl ?_
        refine s_aload_n X 0 dL_law_1107 rfl rfl ?_
        refine s_iload_n X 3 dL_law_1108 rfl rfl ?_
        refine s_iconst X (v := (1 : Int32)) dL_law_1109 rfl ?_
        refine s_iadd X dL_law_1110 ?_
        obtain ⟨h541, hf⟩ := pk_chk hf
        refine s_sld X hnm.1 hnm.2.1 hnm.2.2.1 h541 dL_law_1111 ?_
        refine s_aload_n X 0 dL_law_1112 rfl rfl ?_
        refine s_iload_n X 3 dL_law_1113 rfl rfl ?_
        refine s_iconst X (v := (2 : Int32)) dL_law_1114 rfl ?_
        refine s_iadd X dL_law_1115 ?_
        obtain ⟨h542, hf⟩ := pk_chk hf
        refine s_sld X hnm.1 hnm.2.1 hnm.2.2.1 h542 dL_law_1116 ?_
        obtain ⟨h543, hf⟩ := pk_chk hf
        obtain ⟨r545, hc544, hf⟩ := pk_obd hf
        refine s_callV X (ci := 9) (k_X9_book G hc544) rfl h543 wd1184 wd1185 wd1186 wd1187 wd126 cd_X9_book ⟨Nat.le_of_ble_eq_true rfl, Nat.le_of_ble_eq_true rfl⟩ (Nat.le_of_ble_eq_true rfl) dL_law_1117 ?_
        refine s_aload_n X 2 dL_law_1120 rfl rfl ?_
        refine s_aload_n X 0 dL_law_1121 rfl rfl ?_
        refine s_iload_n X 3 dL_law_1122 rfl rfl ?_
        refine s_iconst X (v := (1 : Int32)) dL_law_1123 rfl ?_
        refine s_iadd X dL_law_1124 ?_
        obtain ⟨h546, hf⟩ := pk_chk hf
        refine s_sld X hnm.1 hnm.2.1 hnm.2.2.1 h546 dL_law_1125 ?_
        refine s_aload_n X 0 dL_law_1126 rfl rfl ?_
        refine s_iload_n X 3 dL_law_1127 rfl rfl ?_
        refine s_iconst X (v := (2 : Int32)) dL_law_1128 rfl ?_
        refine s_iadd X dL_law_1129 ?_
        obtain ⟨h547, hf⟩ := pk_chk hf
        refine s_sld X hnm.1 hnm.2.1 hnm.2.2.1 h547 dL_law_1130 ?_
        obtain ⟨h548, hf⟩ := pk_chk hf
        obtain ⟨r550, hc549, hf⟩ := pk_obd hf
        refine s_callV X (ci := 10) (k_X10_book G hc549) rfl h548 wd1926 wd1927 wd1928 wd1929 wd138 cd_X10_book ⟨Nat.le_of_ble_eq_true rfl, Nat.le_of_ble_eq_true rfl⟩ (Nat.le_of_ble_eq_true rfl) dL_law_1131 ?_
        have hs551 := pk_ite hf
        clear hf
        refine s_icmp_eq X (tgt := 1572) dL_law_1134 rfl (fun c552 => ?_) (fun c552 => ?_)
        · have hf := hs551.1 c552
          obtain ⟨x553, e554, hf⟩ := pk_bnd hf
          refine s_iinc X (vs' := [(0, .ref b), (1, .ref (gB G + v1)), (2, .ref (gB G + v2)), (3, .int x553)]) 3 dL_law_1572 rfl (v := x553) e554.symm (Nat.le_of_ble_eq_true rfl) [1, 2, 3, 0] rfl ?_
          refine s_goto X (tgt := 18) dL_law_1575 rfl ?_
          exact ih _ _ _ _ hf
        · have hf := hs551.2 c552
          refine s_iconst X (v := (0 : Int32)) dL_law_1137 rfl ?_
          exact (pk_01 hf).elim
      have hf := hs539.2 c540
      have hs555 := pk_ite hf
      clear hf
      by_cases c556 : x4 = (35 : Int32)
      · have hf := hs555.1 c556
        refine s_swC X (v := (35 : Int32)) (tgt := 1139) dL_law_32 c556 (by decide) (by decide) rfl rfl ?_
        refine s_aload_n X 1 dL_law_1139 rfl rfl ?_
        refine s_aload_n X 0 dL_law_1140 rfl rfl ?_
        refine s_iload_n X 3 dL_law_1141 rfl rfl ?_
        refine s_iconst X (v := (1 : Int32)) dL_law_1142 rfl ?_
        refine s_iadd X dL_law_1143 ?_
        obtain ⟨h557, hf⟩ := pk_chk hf
        refine s_sld X hnm.1 hnm.2.1 hnm.2.2.1 h557 dL_law_1144 ?_
        obtain ⟨h558, hf⟩ := pk_chk hf
        obtain ⟨r560, hc559, hf⟩ := pk_obd hf
        refine s_callV X (ci := 9) (k_X9_waitsFor G hc559) rfl h558 wd1192 wd1193 wd1194 wd1195 wd126 cd_X9_waitsFor ⟨Nat.le_of_ble_eq_true rfl, Nat.le_of_ble_eq_true rfl⟩ (Nat.le_of_ble_eq_true rfl) dL_law_1145 ?_
        refine s_aload_n X 2 dL_law_1148 rfl rfl ?_
        refine s_aload_n X 0 dL_law_1149 rfl rfl ?_
        refine s_iload_n X 3 dL_law_1150 rfl rfl ?_
        refine s_iconst X (v := (1 : Int32)) dL_law_1151 rfl ?_
        refine s_iadd X dL_law_1152 ?_
        obtain ⟨h561, hf⟩ := pk_chk hf
        refine s_sld X hnm.1 hnm.2.1 hnm.2.2.1 h561 dL_law_1153 ?_
        obtain ⟨h562, hf⟩ := pk_chk hf
        obtain ⟨r564, hc563, hf⟩ := pk_obd hf
        refine s_callV X (ci := 10) (k_X10_waitsFor G hc563) rfl h562 wd1882 wd1883 wd1884 wd1885 wd138 cd_X10_waitsFor ⟨Nat.le_of_ble_eq_true rfl, Nat.le_of_ble_eq_true rfl⟩ (Nat.le_of_ble_eq_true rfl) dL_law_1154 ?_
        have hs565 := pk_ite hf
        clear hf
        refine s_icmp_eq X (tgt := 1572) dL_law_1157 rfl (fun c566 => ?_) (fun c566 => ?_)
        · have hf := hs565.1 c566
          obtain ⟨x567, e568, hf⟩ := pk_bnd hf
          refine s_iinc X (vs' := [(0, .ref b), (1, .ref (gB G + v1)), (2, .ref (gB G + v2)), (3, .int x567)]) 3 dL_law_1572 rfl (v := x567) e568.symm (Nat.le_of_ble_eq_true rfl) [1, 2, 3, 0] rfl ?_
          refine s_goto X (tgt := 18) dL_law_1575 rfl ?_
          exact ih _ _ _ _ hf
        · have hf := hs565.2 c566
          refine s_iconst X (v := (0 : Int32)) dL_law_1160 rfl ?_
          exact (pk_01 hf).elim
      have hf := hs555.2 c556
      have hs569 := pk_ite hf
      clear hf
      by_cases c570 : x4 = (36 : Int32)
      · have hf := hs569.1 c570
        refine s_swC X (v := (36 : Int32)) (tgt := 1162) dL_law_32 c570 (by decide) (by decide) rfl rfl ?_
        refine s_aload_n X 1 dL_law_1162 rfl rfl ?_
        refine s_aload_n X 0 dL_law_1163 rfl rfl ?_
        refine s_iload_n X 3 dL_law_1164 rfl rfl ?_
        refine s_iconst X (v := (1 : Int32)) dL_law_1165 rfl ?_
        refine s_iadd X dL_law_1166 ?_
        obtain ⟨h571, hf⟩ := pk_chk hf
        refine s_sld X hnm.1 hnm.2.1 hnm.2.2.1 h571 dL_law_1167 ?_
        obtain ⟨h572, hf⟩ := pk_chk hf
        obtain ⟨r574, hc573, hf⟩ := pk_obd hf
        refine s_callV X (ci := 9) (k_X9_unheard G hc573) rfl h572 wd1197 wd1198 wd1199 wd1200 wd126 cd_X9_unheard ⟨Nat.le_of_ble_eq_true rfl, Nat.le_of_ble_eq_true rfl⟩ (Nat.le_of_ble_eq_true rfl) dL_law_1168 ?_
        refine s_aload_n X 2 dL_law_1171 rfl rfl ?_
        refine s_aload_n X 0 dL_law_1172 rfl rfl ?_
        refine s_iload_n X 3 dL_law_1173 rfl rfl ?_
        refine s_iconst X (v := (1 : Int32)) dL_law_1174 rfl ?_
        refine s_iadd X dL_law_1175 ?_
        obtain ⟨h575, hf⟩ := pk_chk hf
        refine s_sld X hnm.1 hnm.2.1 hnm.2.2.1 h575 dL_law_1176 ?_
        obtain ⟨h576, hf⟩ := pk_chk hf
        obtain ⟨r578, hc577, hf⟩ := pk_obd hf
        refine s_callV X (ci := 10) (k_X10_unheard G hc577) rfl h576 wd1890 wd1891 wd1892 wd1893 wd138 cd_X10_unheard ⟨Nat.le_of_ble_eq_true rfl, Nat.le_of_ble_eq_true rfl⟩ (Nat.le_of_ble_eq_true rfl) dL_law_1177 ?_
        have hs579 := pk_ite hf
        clear hf
        refine s_icmp_eq X (tgt := 1572) dL_law_1180 rfl (fun c580 => ?_) (fun c580 => ?_)
        · have hf := hs579.1 c580
          obtain ⟨x581, e582, hf⟩ := pk_bnd hf
          refine s_iinc X (vs' := [(0, .ref b), (1, .ref (gB G + v1)), (2, .ref (gB G + v2)), (3, .int x581)]) 3 dL_law_1572 rfl (v := x581) e582.symm (Nat.le_of_ble_eq_true rfl) [1, 2, 3, 0] rfl ?_
          refine s_goto X (tgt := 18) dL_law_1575 rfl ?_
          exact ih _ _ _ _ hf
        · have hf := hs579.2 c580
          refine s_iconst X (v := (0 : Int32)) dL_law_1183 rfl ?_
          exact (pk_01 hf).elim
      have hf := hs569.2 c570
      have hs583 := pk_ite hf
      clear hf
      by_cases c584 : x4 = (37 : Int32)
      · have hf := hs583.1 c584
        refine s_swC X (v := (37 : Int32)) (tgt := 1185) dL_law_32 c584 (by decide) (by decide) rfl rfl ?_
        refine s_aload_n X 1 dL_law_1185 rfl rfl ?_
        refine s_aload_n X 0 dL_law_1186 rfl rfl ?_
        refine s_iload_n X 3 dL_law_1187 rfl rfl ?_
        refine s_iconst X (v := (1 : Int32)) dL_law_1188 rfl ?_
        refine s_iadd X dL_law_1189 ?_
        obtain ⟨h585, hf⟩ := pk_chk hf
        refine s_sld X hnm.1 hnm.2.1 hnm.2.2.1 h585 dL_law_1190 ?_
        obtain ⟨h586, hf⟩ := pk_chk hf
        obtain ⟨r588, hc587, hf⟩ := pk_obd hf
        refine s_callV X (ci := 9) (k_X9_crowded G hc587) rfl h586 wd1201 wd1202 wd1203 wd1204 wd126 cd_X9_crowded ⟨Nat.le_of_ble_eq_true rfl, Nat.le_of_ble_eq_true rfl⟩ (Nat.le_of_ble_eq_true rfl) dL_law_1191 ?_
        refine s_aload_n X 2 dL_law_1194 rfl rfl ?_
        refine s_aload_n X 0 dL_law_1195 rfl rfl ?_
        refine s_iload_n X 3 dL_law_1196 rfl rfl ?_
        refine s_iconst X (v := (1 : Int32)) dL_law_1197 rfl ?_
        refine s_iadd X dL_law_1198 ?_
        obtain ⟨h589, hf⟩ := pk_chk hf
        refine s_sld X hnm.1 hnm.2.1 hnm.2.2.1 h589 dL_law_1199 ?_
        obtain ⟨h590, hf⟩ := pk_chk hf
        obtain ⟨r592, hc591, hf⟩ := pk_obd hf
        refine s_callV X (ci := 10) (k_X10_crowded G hc591) rfl h590 wd1894 wd1895 wd1896 wd1897 wd138 cd_X10_crowded ⟨Nat.le_of_ble_eq_true rfl, Nat.le_of_ble_eq_true rfl⟩ (Nat.le_of_ble_eq_true rfl) dL_law_1200 ?_
        have hs593 := pk_ite hf
        clear hf
        refine s_icmp_eq X (tgt := 1572) dL_law_1203 rfl (fun c594 => ?_) (fun c594 => ?_)
        · have hf := hs593.1 c594
          obtain ⟨x595, e596, hf⟩ := pk_bnd hf
          refine s_iinc X (vs' := [(0, .ref b), (1, .ref (gB G + v1)), (2, .ref (gB G + v2)), (3, .int x595)]) 3 dL_law_1572 rfl (v := x595) e596.symm (Nat.le_of_ble_eq_true rfl) [1, 2, 3, 0] rfl ?_
          refine s_goto X (tgt := 18) dL_law_1575 rfl ?_
          exact ih _ _ _ _ hf
        · have hf := hs593.2 c594
          refine s_iconst X (v := (0 : Int32)) dL_law_1206 rfl ?_
          exact (pk_01 hf).elim
      have hf := hs583.2 c584
      have hs597 := pk_ite hf
      clear hf
      by_cases c598 : x4 = (38 : Int32)
      · have hf := hs597.1 c598
        refine s_swC X (v := (38 : Int32)) (tgt := 1208) dL_law_32 c598 (by decide) (by decide) rfl rfl ?_
        refine s_aload_n X 1 dL_law_1208 rfl rfl ?_
        refine s_aload_n X 0 dL_law_1209 rfl rfl ?_
        refine s_iload_n X 3 dL_law_1210 rfl rfl ?_
        refine s_iconst X (v := (1 : Int32)) dL_law_1211 rfl ?_
        refine s_iadd X dL_law_1212 ?_
        obtain ⟨h599, hf⟩ := pk_chk hf
        refine s_sld X hnm.1 hnm.2.1 hnm.2.2.1 h599 dL_law_1213 ?_
        refine s_aload_n X 0 dL_law_1214 rfl rfl ?_
        refine s_iload_n X 3 dL_law_1215 rfl rfl ?_
        refine s_iconst X (v := (2 : Int32)) dL_law_1216 rfl ?_
        refine s_iadd X dL_law_1217 ?_
        obtain ⟨h600, hf⟩ := pk_chk hf
        refine s_sld X hnm.1 hnm.2.1 hnm.2.2.1 h600 dL_law_1218 ?_
        obtain ⟨h601, hf⟩ := pk_chk hf
        obtain ⟨r603, hc602, hf⟩ := pk_obd hf
        refine s_callV X (ci := 9) (k_X9_trace G hc602) rfl h601 wd1205 wd1206 wd1207 wd1208 wd126 cd_X9_trace ⟨Nat.le_of_ble_eq_true rfl, Nat.le_of_ble_eq_true rfl⟩ (Nat.le_of_ble_eq_true rfl) dL_law_1219 ?_
        refine s_aload_n X 2 dL_law_1222 rfl rfl ?_
        refine s_aload_n X 0 dL_law_1223 rfl rfl ?_
        refine s_iload_n X 3 dL_law_1224 rfl rfl ?_
        refine s_iconst X (v := (1 : Int32)) dL_law_1225 rfl ?_
        refine s_iadd X dL_law_1226 ?_
        obtain ⟨h604, hf⟩ := pk_chk hf
        refine s_sld X hnm.1 hnm.2.1 hnm.2.2.1 h604 dL_law_1227 ?_
        refine s_aload_n X 0 dL_law_1228 rfl rfl ?_
        refine s_iload_n X 3 dL_law_1229 rfl rfl ?_
        refine s_iconst X (v := (2 : Int32)) dL_law_1230 rfl ?_
        refine s_iadd X dL_law_1231 ?_
        obtain ⟨h605, hf⟩ := pk_chk hf
        refine s_sld X hnm.1 hnm.2.1 hnm.2.2.1 h605 dL_law_1232 ?_
        obtain ⟨h606, hf⟩ := pk_chk hf
        obtain ⟨r608, hc607, hf⟩ := pk_obd hf
        refine s_callV X (ci := 10) (k_X10_trace G hc607) rfl h606 wd1930 wd1931 wd1932 wd1933 wd138 cd_X10_trace ⟨Nat.le_of_ble_eq_true rfl, Nat.le_of_ble_eq_true rfl⟩ (Nat.le_of_ble_eq_true rfl) dL_law_1233 ?_
        have hs609 := pk_ite hf
        clear hf
        refine s_icmp_eq X (tgt := 1572) dL_law_1236 rfl (fun c610 => ?_) (fun c610 => ?_)
        · have hf := hs609.1 c610
          obtain ⟨x611, e612, hf⟩ := pk_bnd hf
          refine s_iinc X (vs' := [(0, .ref b), (1, .ref (gB G + v1)), (2, .ref (gB G + v2)), (3, .int x611)]) 3 dL_law_1572 rfl (v := x611) e612.symm (Nat.le_of_ble_eq_true rfl) [1, 2, 3, 0] rfl ?_
          refine s_goto X (tgt := 18) dL_law_1575 rfl ?_
          exact ih _ _ _ _ hf
        · have hf := hs609.2 c610
          refine s_iconst X (v := (0 : Int32)) dL_law_1239 rfl ?_
          exact (pk_01 hf).elim
      have hf := hs597.2 c598
      have hs613 := pk_ite hf
      clear hf
      by_cases c614 : x4 = (39 : Int32)
      · have hf := hs613.1 c614
        refine s_swC X (v := (39 : Int32)) (tgt := 1241) dL_law_32 c614 (by decide) (by decide) rfl rfl ?_
        refine s_aload_n X 1 dL_law_1241 rfl rfl ?_
        refine s_aload_n X 0 dL_law_1242 rfl rfl ?_
        refine s_iload_n X 3 dL_law_1243 rfl rfl ?_
        refine s_iconst X (v := (1 : Int32)) dL_law_1244 rfl ?_
        refine s_iadd X dL_law_1245 ?_
        obtain ⟨h615, hf⟩ := pk_chk hf
        refine s_sld X hnm.1 hnm.2.1 hnm.2.2.1 h615 dL_law_1246 ?_
        refine s_aload_n X 0 dL_law_1247 rfl rfl ?_
        refine s_iload_n X 3 dL_law_1248 rfl rfl ?_
        refine s_iconst X (v := (2 : Int32)) dL_law_1249 rfl ?_
        refine s_iadd X dL_law_1250 ?_
        obtain ⟨h616, hf⟩ := pk_chk hf
        refine s_sld X hnm.1 hnm.2.1 hnm.2.2.1 h616 dL_law_1251 ?_
        obtain ⟨h617, hf⟩ := pk_chk hf
        obtain ⟨r619, M620, hc618, hf⟩ := pk_obd2 hf
        refine s_callV X (ci := 9) (k_X9_goOn G hc618) rfl h617 wd1209 wd1210 wd1211 wd1212 wd126 cd_X9_goOn ⟨Nat.le_of_ble_eq_true rfl, Nat.le_of_ble_eq_true rfl⟩ (Nat.le_of_ble_eq_true rfl) dL_law_1252 ?_
        refine s_aload_n X 2 dL_law_1255 rfl rfl ?_
        refine s_aload_n X 0 dL_law_1256 rfl rfl ?_
        refine s_iload_n X 3 dL_law_1257 rfl rfl ?_
        refine s_iconst X (v := (1 : Int32)) dL_law_1258 rfl ?_
        refine s_iadd X dL_law_1259 ?_
        obtain ⟨h621, hf⟩ := pk_chk hf
        refine s_sld X hnm.1 hnm.2.1 hnm.2.2.1 h621 dL_law_1260 ?_
        refine s_aload_n X 0 dL_law_1261 rfl rfl ?_
        refine s_iload_n X 3 dL_law_1262 rfl rfl ?_
        refine s_iconst X (v := (2 : Int32)) dL_law_1263 rfl ?_
        refine s_iadd X dL_law_1264 ?_
        obtain ⟨h622, hf⟩ := pk_chk hf
        refine s_sld X hnm.1 hnm.2.1 hnm.2.2.1 h622 dL_law_1265 ?_
        obtain ⟨h623, hf⟩ := pk_chk hf
        obtain ⟨r625, M626, hc624, hf⟩ := pk_obd2 hf
        refine s_callV X (ci := 10) (k_X10_goOn G hc624) rfl h623 wd1934 wd1935 wd1936 wd1937 wd138 cd_X10_goOn ⟨Nat.le_of_ble_eq_true rfl, Nat.le_of_ble_eq_true rfl⟩ (Nat.le_of_ble_eq_true rfl) dL_law_1266 ?_
        have hs627 := pk_ite hf
        clear hf
        refine s_icmp_eq X (tgt := 1572) dL_law_1269 rfl (fun c628 => ?_) (fun c628 => ?_)
        · have hf := hs627.1 c628
          obtain ⟨x629, e630, hf⟩ := pk_bnd hf
          refine s_iinc X (vs' := [(0, .ref b), (1, .ref (gB G + v1)), (2, .ref (gB G + v2)), (3, .int x629)]) 3 dL_law_1572 rfl (v := x629) e630.symm (Nat.le_of_ble_eq_true rfl) [1, 2, 3, 0] rfl ?_
          refine s_goto X (tgt := 18) dL_law_1575 rfl ?_
          exact ih _ _ _ _ hf
        · have hf := hs627.2 c628
          refine s_iconst X (v := (0 : Int32)) dL_law_1272 rfl ?_
          exact (pk_01 hf).elim
      have hf := hs613.2 c614
      have hs631 := pk_ite hf
      clear hf
      by_cases c632 : x4 = (40 : Int32)
      · have hf := hs631.1 c632
        refine s_swC X (v := (40 : Int32)) (tgt := 1274) dL_law_32 c632 (by decide) (by decide) rfl rfl ?_
        refine s_aload_n X 1 dL_law_1274 rfl rfl ?_
        refine s_aload_n X 0 dL_law_1275 rfl rfl ?_
        refine s_iload_n X 3 dL_law_1276 rfl rfl ?_
        refine s_iconst X (v := (1 : Int32)) dL_law_1277 rfl ?_
        refine s_iadd X dL_law_1278 ?_
        obtain ⟨h633, hf⟩ := pk_chk hf
        refine s_sld X hnm.1 hnm.2.1 hnm.2.2.1 h633 dL_law_1279 ?_
        refine s_aload_n X 0 dL_law_1280 rfl rfl ?_
        refine s_iload_n X 3 dL_law_1281 rfl rfl ?_
        refine s_iconst X (v := (2 : Int32)) dL_law_1282 rfl ?_
        refine s_iadd X dL_law_1283 ?_
        obtain ⟨h634, hf⟩ := pk_chk hf
        refine s_sld X hnm.1 hnm.2.1 hnm.2.2.1 h634 dL_law_1284 ?_
        obtain ⟨h635, hf⟩ := pk_chk hf
        obtain ⟨r637, M638, hc636, hf⟩ := pk_obd2 hf
        refine s_callV X (ci := 9) (k_X9_entersBy G hc636) rfl h635 wd1231 wd1232 wd1233 wd1234 wd126 cd_X9_entersBy ⟨Nat.le_of_ble_eq_true rfl, Nat.le_of_ble_eq_true rfl⟩ (Nat.le_of_ble_eq_true rfl) dL_law_1285 ?_
        refine s_aload_n X 2 dL_law_1288 rfl rfl ?_
        refine s_aload_n X 0 dL_law_1289 rfl rfl ?_
        refine s_iload_n X 3 dL_law_1290 rfl rfl ?_
        refine s_iconst X (v := (1 : Int32)) dL_law_1291 rfl ?_
        refine s_iadd X dL_law_1292 ?_
        obtain ⟨h639, hf⟩ := pk_chk hf
        refine s_sld X hnm.1 hnm.2.1 hnm.2.2.1 h639 dL_law_1293 ?_
        refine s_aload_n X 0 dL_law_1294 rfl rfl ?_
        refine s_iload_n X 3 dL_law_1295 rfl rfl ?_
        refine s_iconst X (v := (2 : Int32)) dL_law_1296 rfl ?_
        refine s_iadd X dL_law_1297 ?_
        obtain ⟨h640, hf⟩ := pk_chk hf
        refine s_sld X hnm.1 hnm.2.1 hnm.2.2.1 h640 dL_law_1298 ?_
        obtain ⟨h641, hf⟩ := pk_chk hf
        obtain ⟨r643, M644, hc642, hf⟩ := pk_obd2 hf
        refine s_callV X (ci := 10) (k_X10_entersBy G hc642) rfl h641 wd1958 wd1959 wd1960 wd1961 wd138 cd_X10_entersBy ⟨Nat.le_of_ble_eq_true rfl, Nat.le_of_ble_eq_true rfl⟩ (Nat.le_of_ble_eq_true rfl) dL_law_1299 ?_
        have hs645 := pk_ite hf
        clear hf
        refine s_icmp_eq X (tgt := 1572) dL_law_1302 rfl (fun c646 => ?_) (fun c646 => ?_)
        · have hf := hs645.1 c646
          obtain ⟨x647, e648, hf⟩ := pk_bnd hf
          refine s_iinc X (vs' := [(0, .ref b), (1, .ref (gB G + v1)), (2, .ref (gB G + v2)), (3, .int x647)]) 3 dL_law_1572 rfl (v := x647) e648.symm (Nat.le_of_ble_eq_true rfl) [1, 2, 3, 0] rfl ?_
          refine s_goto X (tgt := 18) dL_law_1575 rfl ?_
          exact ih _ _ _ _ hf
        · have hf := hs645.2 c646
          refine s_iconst X (v := (0 : Int32)) dL_law_1305 rfl ?_
          exact (pk_01 hf).elim
      have hf := hs631.2 c632
      have hs649 := pk_ite hf
      clear hf
      by_cases c650 : x4 = (41 : Int32)
      · have hf := hs649.1 c650
        refine s_swC X (v := (41 : Int32)) (tgt := 1307) dL_law_32 c650 (by decide) (by decide) rfl rfl ?_
        refine s_aload_n X 1 dL_law_1307 rfl rfl ?_
        refine s_aload_n X 0 dL_law_1308 rfl rfl ?_
        refine s_iload_n X 3 dL_law_1309 rfl rfl ?_
        refine s_iconst X (v := (1 : Int32)) dL_law_1310 rfl ?_
        refine s_iadd X dL_law_1311 ?_
        obtain ⟨h651, hf⟩ := pk_chk hf
        refine s_sld X hnm.1 hnm.2.1 hnm.2.2.1 h651 dL_law_1312 ?_
        refine s_aload_n X 0 dL_law_1313 rfl rfl ?_
        refine s_iload_n X 3 dL_law_1314 rfl rfl ?_
        refine s_iconst X (v := (2 : Int32)) dL_law_1315 rfl ?_
        refine s_iadd X dL_law_1316 ?_
        obtain ⟨h652, hf⟩ := pk_chk hf
        refine s_sld X hnm.1 hnm.2.1 hnm.2.2.1 h652 dL_law_1317 ?_
        obtain ⟨h653, hf⟩ := pk_chk hf
        obtain ⟨r655, M656, hc654, hf⟩ := pk_obd2 hf
        refine s_callV X (ci := 9) (k_X9_searched G hc654) rfl h653 wd1249 wd1250 wd1251 wd1252 wd126 cd_X9_searched ⟨Nat.le_of_ble_eq_true rfl, Nat.le_of_ble_eq_true rfl⟩ (Nat.le_of_ble_eq_true rfl) dL_law_1318 ?_
        refine s_aload_n X 2 dL_law_1321 rfl rfl ?_
        refine s_aload_n X 0 dL_law_1322 rfl rfl ?_
        refine s_iload_n X 3 dL_law_1323 rfl rfl ?_
        refine s_iconst X (v := (1 : Int32)) dL_law_1324 rfl ?_
        refine s_iadd X dL_law_1325 ?_
        obtain ⟨h657, hf⟩ := pk_chk hf
        refine s_sld X hnm.1 hnm.2.1 hnm.2.2.1 h657 dL_law_1326 ?_
        refine s_aload_n X 0 dL_law_1327 rfl rfl ?_
        refine s_iload_n X 3 dL_law_1328 rfl rfl ?_
        refine s_iconst X (v := (2 : Int32)) dL_law_1329 rfl ?_
        refine s_iadd X dL_law_1330 ?_
        obtain ⟨h658, hf⟩ := pk_chk hf
        refine s_sld X hnm.1 hnm.2.1 hnm.2.2.1 h658 dL_law_1331 ?_
        obtain ⟨h659, hf⟩ := pk_chk hf
        obtain ⟨r661, M662, hc660, hf⟩ := pk_obd2 hf
        refine s_callV X (ci := 10) (k_X10_searched G hc660) rfl h659 wd1982 wd1983 wd1984 wd1985 wd138 cd_X10_searched ⟨Nat.le_of_ble_eq_true rfl, Nat.le_of_ble_eq_true rfl⟩ (Nat.le_of_ble_eq_true rfl) dL_law_1332 ?_
        have hs663 := pk_ite hf
        clear hf
        refine s_icmp_eq X (tgt := 1572) dL_law_1335 rfl (fun c664 => ?_) (fun c664 => ?_)
        · have hf := hs663.1 c664
          obtain ⟨x665, e666, hf⟩ := pk_bnd hf
          refine s_iinc X (vs' := [(0, .ref b), (1, .ref (gB G + v1)), (2, .ref (gB G + v2)), (3, .int x665)]) 3 dL_law_1572 rfl (v := x665) e666.symm (Nat.le_of_ble_eq_true rfl) [1, 2, 3, 0] rfl ?_
          refine s_goto X (tgt := 18) dL_law_1575 rfl ?_
          exact ih _ _ _ _ hf
        · have hf := hs663.2 c664
          refine s_iconst X (v := (0 : Int32)) dL_law_1338 rfl ?_
          exact (pk_01 hf).elim
      have hf := hs649.2 c650
      have hs667 := pk_ite hf
      clear hf
      by_cases c668 : x4 = (42 : Int32)
      · have hf := hs667.1 c668
        refine s_swC X (v := (42 : Int32)) (tgt := 1340) dL_law_32 c668 (by decide) (by decide) rfl rfl ?_
        refine s_aload_n X 1 dL_law_1340 rfl rfl ?_
        refine s_aload_n X 0 dL_law_1341 rfl rfl ?_
        refine s_iload_n X 3 dL_law_1342 rfl rfl ?_
        refine s_iconst X (v := (1 : Int32)) dL_law_1343 rfl ?_
        refine s_iadd X dL_law_1344 ?_
        obtain ⟨h669, hf⟩ := pk_chk hf
        refine s_sld X hnm.1 hnm.2.1 hnm.2.2.1 h669 dL_law_1345 ?_
        refine s_aload_n X 0 dL_law_1346 rfl rfl ?_
        refine s_iload_n X 3 dL_law_1347 rfl rfl ?_
        refine s_iconst X (v := (2 : Int32)) dL_law_1348 rfl ?_
        refine s_iadd X dL_law_1349 ?_
        obtain ⟨h670, hf⟩ := pk_chk hf
        refine s_sld X hnm.1 hnm.2.1 hnm.2.2.1 h670 dL_law_1350 ?_
        refine s_aload_n X 0 dL_law_1351 rfl rfl ?_
        refine s_iload_n X 3 dL_law_1352 rfl rfl ?_
        refine s_iconst X (v := (3 : Int32)) dL_law_1353 rfl ?_
        refine s_iadd X dL_law_1354 ?_
        obtain ⟨h671, hf⟩ := pk_chk hf
        refine s_sld X hnm.1 hnm.2.1 hnm.2.2.1 h671 dL_law_1355 ?_
        obtain ⟨h672, hf⟩ := pk_chk hf
        obtain ⟨r674, M675, hc673, hf⟩ := pk_obd2 hf
        refine s_callV X (ci := 9) (k_X9_searchedBy G hc673) rfl h672 wd1328 wd1329 wd1330 wd1331 wd126 cd_X9_searchedBy ⟨Nat.le_of_ble_eq_true rfl, Nat.le_of_ble_eq_true rfl⟩ (Nat.le_of_ble_eq_true rfl) dL_law_1356 ?_
        refine s_aload_n X 2 dL_law_1359 rfl rfl ?_
        refine s_aload_n X 0 dL_law_1360 rfl rfl ?_
        refine s_iload_n X 3 dL_law_1361 rfl rfl ?_
        refine s_iconst X (v := (1 : Int32)) dL_law_1362 rfl ?_
        refine s_iadd X dL_law_1363 ?_
        obtain ⟨h676, hf⟩ := pk_chk hf
        refine s_sld X hnm.1 hnm.2.1 hnm.2.2.1 h676 dL_law_1364 ?_
        refine s_aload_n X 0 dL_law_1365 rfl rfl ?_
        refine s_iload_n X 3 dL_law_1366 rfl rfl ?_
        refine s_iconst X (v := (2 : Int32)) dL_law_1367 rfl ?_
        refine s_iadd X dL_law_1368 ?_
        obtain ⟨h677, hf⟩ := pk_chk hf
        refine s_sld X hnm.1 hnm.2.1 hnm.2.2.1 h677 dL_law_1369 ?_
        refine s_aload_n X 0 dL_law_1370 rfl rfl ?_
        refine s_iload_n X 3 dL_law_1371 rfl rfl ?_
        refine s_iconst X (v := (3 : Int32)) dL_law_1372 rfl ?_
        refine s_iadd X dL_law_1373 ?_
        obtain ⟨h678, hf⟩ := pk_chk hf
        refine s_sld X hnm.1 hnm.2.1 hnm.2.2.1 h678 dL_law_1374 ?_
        obtain ⟨h679, hf⟩ := pk_chk hf
        obtain ⟨r681, M682, hc680, hf⟩ := pk_obd2 hf
        refine s_callV X (ci := 10) (k_X10_searchedBy G hc680) rfl h679 wd2018 wd1987 wd1988 wd1989 wd138 cd_X10_searchedBy ⟨Nat.le_of_ble_eq_true rfl, Nat.le_of_ble_eq_true rfl⟩ (Nat.le_of_ble_eq_true rfl) dL_law_1375 ?_
        have hs683 := pk_ite hf
        clear hf
        refine s_icmp_eq X (tgt := 1572) dL_law_1378 rfl (fun c684 => ?_) (fun c684 => ?_)
        · have hf := hs683.1 c684
          obtain ⟨x685, e686, hf⟩ := pk_bnd hf
          refine s_iinc X (vs' := [(0, .ref b), (1, .ref (gB G + v1)), (2, .ref (gB G + v2)), (3, .int x685)]) 3 dL_law_1572 rfl (v := x685) e686.symm (Nat.le_of_ble_eq_true rfl) [1, 2, 3, 0] rfl ?_
          refine s_goto X (tgt := 18) dL_law_1575 rfl ?_
          exact ih _ _ _ _ hf
        · have hf := hs683.2 c684
          refine s_iconst X (v := (0 : Int32)) dL_law_1381 rfl ?_
          exact (pk_01 hf).elim
      have hf := hs667.2 c668
      have hs687 := pk_ite hf
      clear hf
      by_cases c688 : x4 = (43 : Int32)
      · have hf := hs687.1 c688
        refine s_swC X (v := (43 : Int32)) (tgt := 1383) dL_law_32 c688 (by decide) (by decide) rfl rfl ?_
        refine s_aload_n X 1 dL_law_1383 rfl rfl ?_
        refine s_aload_n X 0 dL_law_1384 rfl rfl ?_
        refine s_iload_n X 3 dL_law_1385 rfl rfl ?_
        refine s_iconst X (v := (1 : Int32)) dL_law_1386 rfl ?_
        refine s_iadd X dL_law_1387 ?_
        obtain ⟨h689, hf⟩ := pk_chk hf
        refine s_sld X hnm.1 hnm.2.1 hnm.2.2.1 h689 dL_law_1388 ?_
        refine s_aload_n X 0 dL_law_1389 rfl rfl ?_
        refine s_iload_n X 3 dL_law_1390 rfl rfl ?_
        refine s_iconst X (v := (2 : Int32)) dL_law_1391 rfl ?_
        refine s_iadd X dL_law_1392 ?_
        obtain ⟨h690, hf⟩ := pk_chk hf
        refine s_sld X hnm.1 hnm.2.1 hnm.2.2.1 h690 dL_law_1393 ?_
        refine s_aload_n X 0 dL_law_1394 rfl rfl ?_
        refine s_iload_n X 3 dL_law_1395 rfl rfl ?_
        refine s_iconst X (v := (3 : Int32)) dL_law_1396 rfl ?_
        refine s_iadd X dL_law_1397 ?_
        obtain ⟨h691, hf⟩ := pk_chk hf
        refine s_sld X hnm.1 hnm.2.1 hnm.2.2.1 h691 dL_law_1398 ?_
        obtain ⟨h692, hf⟩ := pk_chk hf
        obtain ⟨r694, M695, hc693, hf⟩ := pk_obd2 hf
        refine s_callV X (ci := 9) (k_X9_delay G hc693) rfl h692 wd1332 wd1333 wd1334 wd1335 wd126 cd_X9_delay ⟨Nat.le_of_ble_eq_true rfl, Nat.le_of_ble_eq_true rfl⟩ (Nat.le_of_ble_eq_true rfl) dL_law_1399 ?_
        refine s_aload_n X 2 dL_law_1402 rfl rfl ?_
        refine s_aload_n X 0 dL_law_1403 rfl rfl ?_
        refine s_iload_n X 3 dL_law_1404 rfl rfl ?_
        refine s_iconst X (v := (1 : Int32)) dL_law_1405 rfl ?_
        refine s_iadd X dL_law_1406 ?_
        obtain ⟨h696, hf⟩ := pk_chk hf
        refine s_sld X hnm.1 hnm.2.1 hnm.2.2.1 h696 dL_law_1407 ?_
        refine s_aload_n X 0 dL_law_1408 rfl rfl ?_
        refine s_iload_n X 3 dL_law_1409 rfl rfl ?_
        refine s_iconst X (v := (2 : Int32)) dL_law_1410 rfl ?_
        refine s_iadd X dL_law_1411 ?_
        obtain ⟨h697, hf⟩ := pk_chk hf
        refine s_sld X hnm.1 hnm.2.1 hnm.2.2.1 h697 dL_law_1412 ?_
        refine s_aload_n X 0 dL_law_1413 rfl rfl ?_
        refine s_iload_n X 3 dL_law_1414 rfl rfl ?_
        refine s_iconst X (v := (3 : Int32)) dL_law_1415 rfl ?_
        refine s_iadd X dL_law_1416 ?_
        obtain ⟨h698, hf⟩ := pk_chk hf
        refine s_sld X hnm.1 hnm.2.1 hnm.2.2.1 h698 dL_law_1417 ?_
        obtain ⟨h699, hf⟩ := pk_chk hf
        obtain ⟨r701, M702, hc700, hf⟩ := pk_obd2 hf
        refine s_callV X (ci := 10) (k_X10_delay G hc700) rfl h699 wd2023 wd2024 wd2025 wd2026 wd138 cd_X10_delay ⟨Nat.le_of_ble_eq_true rfl, Nat.le_of_ble_eq_true rfl⟩ (Nat.le_of_ble_eq_true rfl) dL_law_1418 ?_
        have hs703 := pk_ite hf
        clear hf
        refine s_icmp_eq X (tgt := 1572) dL_law_1421 rfl (fun c704 => ?_) (fun c704 => ?_)
        · have hf := hs703.1 c704
          obtain ⟨x705, e706, hf⟩ := pk_bnd hf
          refine s_iinc X (vs' := [(0, .ref b), (1, .ref (gB G + v1)), (2, .ref (gB G + v2)), (3, .int x705)]) 3 dL_law_1572 rfl (v := x705) e706.symm (Nat.le_of_ble_eq_true rfl) [1, 2, 3, 0] rfl ?_
          refine s_goto X (tgt := 18) dL_law_1575 rfl ?_
          exact ih _ _ _ _ hf
        · have hf := hs703.2 c704
          refine s_iconst X (v := (0 : Int32)) dL_law_1424 rfl ?_
          exact (pk_01 hf).elim
      have hf := hs687.2 c688
      have hs707 := pk_ite hf
      clear hf
      by_cases c708 : x4 = (44 : Int32)
      · have hf := hs707.1 c708
        refine s_swC X (v := (44 : Int32)) (tgt := 1426) dL_law_32 c708 (by decide) (by decide) rfl rfl ?_
        refine s_aload_n X 1 dL_law_1426 rfl rfl ?_
        refine s_aload_n X 0 dL_law_1427 rfl rfl ?_
        refine s_iload_n X 3 dL_law_1428 rfl rfl ?_
        refine s_iconst X (v := (1 : Int32)) dL_law_1429 rfl ?_
        refine s_iadd X dL_law_1430 ?_
        obtain ⟨h709, hf⟩ := pk_chk hf
        refine s_sld X hnm.1 hnm.2.1 hnm.2.2.1 h709 dL_law_1431 ?_
        refine s_aload_n X 0 dL_law_1432 rfl rfl ?_
        refine s_iload_n X 3 dL_law_1433 rfl rfl ?_
        refine s_iconst X (v := (2 : Int32)) dL_law_1434 rfl ?_
        refine s_iadd X dL_law_1435 ?_
        obtain ⟨h710, hf⟩ := pk_chk hf
        refine s_sld X hnm.1 hnm.2.1 hnm.2.2.1 h710 dL_law_1436 ?_
        refine s_aload_n X 0 dL_law_1437 rfl rfl ?_
        refine s_iload_n X 3 dL_law_1438 rfl rfl ?_
        refine s_iconst X (v := (3 : Int32)) dL_law_1439 rfl ?_
        refine s_iadd X dL_law_1440 ?_
        obtain ⟨h711, hf⟩ := pk_chk hf
        refine s_sld X hnm.1 hnm.2.1 hnm.2.2.1 h711 dL_law_1441 ?_
        obtain ⟨h712, hf⟩ := pk_chk hf
        obtain ⟨r714, M715, hc713, hf⟩ := pk_obd2 hf
        refine s_callV X (ci := 9) (k_X9_timed G hc713) rfl h712 wd1336 wd1337 wd1338 wd1339 wd126 cd_X9_timed ⟨Nat.le_of_ble_eq_true rfl, Nat.le_of_ble_eq_true rfl⟩ (Nat.le_of_ble_eq_true rfl) dL_law_1442 ?_
        refine s_aload_n X 2 dL_law_1445 rfl rfl ?_
        refine s_aload_n X 0 dL_law_1446 rfl rfl ?_
        refine s_iload_n X 3 dL_law_1447 rfl rfl ?_
        refine s_iconst X (v := (1 : Int32)) dL_law_1448 rfl ?_
        refine s_iadd X dL_law_1449 ?_
        obtain ⟨h716, hf⟩ := pk_chk hf
        refine s_sld X hnm.1 hnm.2.1 hnm.2.2.1 h716 dL_law_1450 ?_
        refine s_aload_n X 0 dL_law_1451 rfl rfl ?_
        refine s_iload_n X 3 dL_law_1452 rfl rfl ?_
        refine s_iconst X (v := (2 : Int32)) dL_law_1453 rfl ?_
        refine s_iadd X dL_law_1454 ?_
        obtain ⟨h717, hf⟩ := pk_chk hf
        refine s_sld X hnm.1 hnm.2.1 hnm.2.2.1 h717 dL_law_1455 ?_
        refine s_aload_n X 0 dL_law_1456 rfl rfl ?_
        refine s_iload_n X 3 dL_law_1457 rfl rfl ?_
        refine s_iconst X (v := (3 : Int32)) dL_law_1458 rfl ?_
        refine s_iadd X dL_law_1459 ?_
        obtain ⟨h718, hf⟩ := pk_chk hf
        refine s_sld X hnm.1 hnm.2.1 hnm.2.2.1 h718 dL_law_1460 ?_
        obtain ⟨h719, hf⟩ := pk_chk hf
        obtain ⟨r721, M722, hc720, hf⟩ := pk_obd2 hf
        refine s_callV X (ci := 10) (k_X10_timed G hc720) rfl h719 wd2027 wd2028 wd2029 wd2030 wd138 cd_X10_timed ⟨Nat.le_of_ble_eq_true rfl, Nat.le_of_ble_eq_true rfl⟩ (Nat.le_of_ble_eq_true rfl) dL_law_1461 ?_
        have hs723 := pk_ite hf
        clear hf
        refine s_icmp_eq X (tgt := 1572) dL_law_1464 rfl (fun c724 => ?_) (fun c724 => ?_)
        · have hf := hs723.1 c724
          obtain ⟨x725, e726, hf⟩ := pk_bnd hf
          refine s_iinc X (vs' := [(0, .ref b), (1, .ref (gB G + v1)), (2, .ref (gB G + v2)), (3, .int x725)]) 3 dL_law_1572 rfl (v := x725) e726.symm (Nat.le_of_ble_eq_true rfl) [1, 2, 3, 0] rfl ?_
          refine s_goto X (tgt := 18) dL_law_1575 rfl ?_
          exact ih _ _ _ _ hf
        · have hf := hs723.2 c724
          refine s_iconst X (v := (0 : Int32)) dL_law_1467 rfl ?_
          exact (pk_01 hf).elim
      have hf := hs707.2 c708
      have hs727 := pk_ite hf
      clear hf
      by_cases c728 : x4 = (45 : Int32)
      · have hf := hs727.1 c728
        refine s_swC X (v := (45 : Int32)) (tgt := 1469) dL_law_32 c728 (by decide) (by decide) rfl rfl ?_
        refine s_aload_n X 1 dL_law_1469 rfl rfl ?_
        refine s_aload_n X 0 dL_law_1470 rfl rfl ?_
        refine s_iload_n X 3 dL_law_1471 rfl rfl ?_
        refine s_iconst X (v := (1 : Int32)) dL_law_1472 rfl ?_
        refine s_iadd X dL_law_1473 ?_
        obtain ⟨h729, hf⟩ := pk_chk hf
        refine s_sld X hnm.1 hnm.2.1 hnm.2.2.1 h729 dL_law_1474 ?_
        refine s_aload_n X 0 dL_law_1475 rfl rfl ?_
        refine s_iload_n X 3 dL_law_1476 rfl rfl ?_
        refine s_iconst X (v := (2 : Int32)) dL_law_1477 rfl ?_
        refine s_iadd X dL_law_1478 ?_
        obtain ⟨h730, hf⟩ := pk_chk hf
        refine s_sld X hnm.1 hnm.2.1 hnm.2.2.1 h730 dL_law_1479 ?_
        obtain ⟨h731, hf⟩ := pk_chk hf
        obtain ⟨r733, M734, hc732, hf⟩ := pk_obd2 hf
        refine s_callV X (ci := 9) (k_X9_soonest G hc732) rfl h731 wd1365 wd1366 wd1367 wd1368 wd126 cd_X9_soonest ⟨Nat.le_of_ble_eq_true rfl, Nat.le_of_ble_eq_true rfl⟩ (Nat.le_of_ble_eq_true rfl) dL_law_1480 ?_
        refine s_aload_n X 2 dL_law_1483 rfl rfl ?_
        refine s_aload_n X 0 dL_law_1484 rfl rfl ?_
        refine s_iload_n X 3 dL_law_1485 rfl rfl ?_
        refine s_iconst X (v := (1 : Int32)) dL_law_1486 rfl ?_
        refine s_iadd X dL_law_1487 ?_
        obtain ⟨h735, hf⟩ := pk_chk hf
        refine s_sld X hnm.1 hnm.2.1 hnm.2.2.1 h735 dL_law_1488 ?_
        refine s_aload_n X 0 dL_law_1489 rfl rfl ?_
        refine s_iload_n X 3 dL_law_1490 rfl rfl ?_
        refine s_iconst X (v := (2 : Int32)) dL_law_1491 rfl ?_
        refine s_iadd X dL_law_1492 ?_
        obtain ⟨h736, hf⟩ := pk_chk hf
        refine s_sld X hnm.1 hnm.2.1 hnm.2.2.1 h736 dL_law_1493 ?_
        obtain ⟨h737, hf⟩ := pk_chk hf
        obtain ⟨r739, M740, hc738, hf⟩ := pk_obd2 hf
        refine s_callV X (ci := 10) (k_X10_soonest G hc738) rfl h737 wd2019 wd2020 wd2021 wd2022 wd138 cd_X10_soonest ⟨Nat.le_of_ble_eq_true rfl, Nat.le_of_ble_eq_true rfl⟩ (Nat.le_of_ble_eq_true rfl) dL_law_1494 ?_
        have hs741 := pk_ite hf
        clear hf
        refine s_icmp_eq X (tgt := 1572) dL_law_1497 rfl (fun c742 => ?_) (fun c742 => ?_)
        · have hf := hs741.1 c742
          obtain ⟨x743, e744, hf⟩ := pk_bnd hf
          refine s_iinc X (vs' := [(0, .ref b), (1, .ref (gB G + v1)), (2, .ref (gB G + v2)), (3, .int x743)]) 3 dL_law_1572 rfl (v := x743) e744.symm (Nat.le_of_ble_eq_true rfl) [1, 2, 3, 0] rfl ?_
          refine s_goto X (tgt := 18) dL_law_1575 rfl ?_
          exact ih _ _ _ _ hf
        · have hf := hs741.2 c742
          refine s_iconst X (v := (0 : Int32)) dL_law_1500 rfl ?_
          exact (pk_01 hf).elim
      have hf := hs727.2 c728
      have hs745 := pk_ite hf
      clear hf
      by_cases c746 : x4 = (46 : Int32)
      · have hf := hs745.1 c746
        refine s_swC X (v := (46 : Int32)) (tgt := 1502) dL_law_32 c746 (by decide) (by decide) rfl rfl ?_
        refine s_aload_n X 1 dL_law_1502 rfl rfl ?_
        refine s_aload_n X 0 dL_law_1503 rfl rfl ?_
        refine s_iload_n X 3 dL_law_1504 rfl rfl ?_
        refine s_iconst X (v := (1 : Int32)) dL_law_1505 rfl ?_
        refine s_iadd X dL_law_1506 ?_
        obtain ⟨h747, hf⟩ := pk_chk hf
        refine s_sld X hnm.1 hnm.2.1 hnm.2.2.1 h747 dL_law_1507 ?_
        refine s_aload_n X 0 dL_law_1508 rfl rfl ?_
        refine s_iload_n X 3 dL_law_1509 rfl rfl ?_
        refine s_iconst X (v := (2 : Int32)) dL_law_1510 rfl ?_
        refine s_iadd X dL_law_1511 ?_
        obtain ⟨h748, hf⟩ := pk_chk hf
        refine s_sld X hnm.1 hnm.2.1 hnm.2.2.1 h748 dL_law_1512 ?_
        refine s_aload_n X 0 dL_law_1513 rfl rfl ?_
        refine s_iload_n X 3 dL_law_1514 rfl rfl ?_
        refine s_iconst X (v := (3 : Int32)) dL_law_1515 rfl ?_
        refine s_iadd X dL_law_1516 ?_
        obtain ⟨h749, hf⟩ := pk_chk hf
        refine s_sld X hnm.1 hnm.2.1 hnm.2.2.1 h749 dL_law_1517 ?_
        obtain ⟨h750, hf⟩ := pk_chk hf
        obtain ⟨r752, M753, hc751, hf⟩ := pk_obd2 hf
        refine s_callV X (ci := 9) (k_X9_crowd G hc751) rfl h750 wd1373 wd1374 wd1375 wd1376 wd126 cd_X9_crowd ⟨Nat.le_of_ble_eq_true rfl, Nat.le_of_ble_eq_true rfl⟩ (Nat.le_of_ble_eq_true rfl) dL_law_1518 ?_
        refine s_aload_n X 2 dL_law_1521 rfl rfl ?_
        refine s_aload_n X 0 dL_law_1522 rfl rfl ?_
        refine s_iload_n X 3 dL_law_1523 rfl rfl ?_
        refine s_iconst X (v := (1 : Int32)) dL_law_1524 rfl ?_
        refine s_iadd X dL_law_1525 ?_
        obtain ⟨h754, hf⟩ := pk_chk hf
        refine s_sld X hnm.1 hnm.2.1 hnm.2.2.1 h754 dL_law_1526 ?_
        refine s_aload_n X 0 dL_law_1527 rfl rfl ?_
        refine s_iload_n X 3 dL_law_1528 rfl rfl ?_
        refine s_iconst X (v := (2 : Int32)) dL_law_1529 rfl ?_
        refine s_iadd X dL_law_1530 ?_
        obtain ⟨h755, hf⟩ := pk_chk hf
        refine s_sld X hnm.1 hnm.2.1 hnm.2.2.1 h755 dL_law_1531 ?_
        refine s_aload_n X 0 dL_law_1532 rfl rfl ?_
        refine s_iload_n X 3 dL_law_1533 rfl rfl ?_
        refine s_iconst X (v := (3 : Int32)) dL_law_1534 rfl ?_
        refine s_iadd X dL_law_1535 ?_
        obtain ⟨h756, hf⟩ := pk_chk hf
        refine s_sld X hnm.1 hnm.2.1 hnm.2.2.1 h756 dL_law_1536 ?_
        obtain ⟨h757, hf⟩ := pk_chk hf
        obtain ⟨r759, M760, hc758, hf⟩ := pk_obd2 hf
        refine s_callV X (ci := 10) (k_X10_crowd G hc758) rfl h757 wd1970 wd1971 wd1972 wd1973 wd138 cd_X10_crowd ⟨Nat.le_of_ble_eq_true rfl, Nat.le_of_ble_eq_true rfl⟩ (Nat.le_of_ble_eq_true rfl) dL_law_1537 ?_
        have hs761 := pk_ite hf
        clear hf
        refine s_icmp_eq X (tgt := 1572) dL_law_1540 rfl (fun c762 => ?_) (fun c762 => ?_)
        · have hf := hs761.1 c762
          obtain ⟨x763, e764, hf⟩ := pk_bnd hf
          refine s_iinc X (vs' := [(0, .ref b), (1, .ref (gB G + v1)), (2, .ref (gB G + v2)), (3, .int x763)]) 3 dL_law_1572 rfl (v := x763) e764.symm (Nat.le_of_ble_eq_true rfl) [1, 2, 3, 0] rfl ?_
          refine s_goto X (tgt := 18) dL_law_1575 rfl ?_
          exact ih _ _ _ _ hf
        · have hf := hs761.2 c762
          refine s_iconst X (v := (0 : Int32)) dL_law_1543 rfl ?_
          exact (pk_01 hf).elim
      have hf := hs745.2 c746
      have hs765 := pk_ite hf
      clear hf
      by_cases c766 : x4 = (47 : Int32)
      · have hf := hs765.1 c766
        refine s_swC X (v := (47 : Int32)) (tgt := 1545) dL_law_32 c766 (by decide) (by decide) rfl rfl ?_
        refine s_aload_n X 1 dL_law_1545 rfl rfl ?_
        obtain ⟨h767, hf⟩ := pk_chk hf
        obtain ⟨r769, hc768, hf⟩ := pk_obd hf
        refine s_callV X (ci := 9) (k_X9_mean G hc768) rfl h767 wd1394 wd1395 wd1396 wd1397 wd126 cd_X9_mean ⟨Nat.le_of_ble_eq_true rfl, Nat.le_of_ble_eq_true rfl⟩ (Nat.le_of_ble_eq_true rfl) dL_law_1546 ?_
        refine s_aload_n X 2 dL_law_1549 rfl rfl ?_
        obtain ⟨h770, hf⟩ := pk_chk hf
        obtain ⟨r772, hc771, hf⟩ := pk_obd hf
        refine s_callV X (ci := 10) (k_X10_mean G hc771) rfl h770 wd2043 wd2044 wd2045 wd2046 wd138 cd_X10_mean ⟨Nat.le_of_ble_eq_true rfl, Nat.le_of_ble_eq_true rfl⟩ (Nat.le_of_ble_eq_true rfl) dL_law_1550 ?_
        have hs773 := pk_ite hf
        clear hf
        refine s_icmp_eq X (tgt := 1572) dL_law_1553 rfl (fun c774 => ?_) (fun c774 => ?_)
        · have hf := hs773.1 c774
          obtain ⟨x775, e776, hf⟩ := pk_bnd hf
          refine s_iinc X (vs' := [(0, .ref b), (1, .ref (gB G + v1)), (2, .ref (gB G + v2)), (3, .int x775)]) 3 dL_law_1572 rfl (v := x775) e776.symm (Nat.le_of_ble_eq_true rfl) [1, 2, 3, 0] rfl ?_
          refine s_goto X (tgt := 18) dL_law_1575 rfl ?_
          exact ih _ _ _ _ hf
        · have hf := hs773.2 c774
          refine s_iconst X (v := (0 : Int32)) dL_law_1556 rfl ?_
          exact (pk_01 hf).elim
      have hf := hs765.2 c766
      have hs777 := pk_ite hf
      clear hf
      by_cases c778 : x4 = (48 : Int32)
      · have hf := hs777.1 c778
        refine s_swC X (v := (48 : Int32)) (tgt := 1558) dL_law_32 c778 (by decide) (by decide) rfl rfl ?_
        refine s_aload_n X 1 dL_law_1558 rfl rfl ?_
        obtain ⟨h779, hf⟩ := pk_chk hf
        obtain ⟨r781, hc780, hf⟩ := pk_obd hf
        refine s_callV X (ci := 9) (k_X9_byRoot G hc780) rfl h779 wd1402 wd1403 wd1404 wd1405 wd126 cd_X9_byRoot ⟨Nat.le_of_ble_eq_true rfl, Nat.le_of_ble_eq_true rfl⟩ (Nat.le_of_ble_eq_true rfl) dL_law_1559 ?_
        refine s_aload_n X 2 dL_law_1562 rfl rfl ?_
        obtain ⟨h782, hf⟩ := pk_chk hf
        obtain ⟨r784, hc783, hf⟩ := pk_obd hf
        refine s_callV X (ci := 10) (k_X10_byRoot G hc783) rfl h782 wd2057 wd2058 wd2059 wd2060 wd138 cd_X10_byRoot ⟨Nat.le_of_ble_eq_true rfl, Nat.le_of_ble_eq_true rfl⟩ (Nat.le_of_ble_eq_true rfl) dL_law_1563 ?_
        refine s_lcmp X dL_law_1566 ?_
        have hs785 := pk_ite hf
        clear hf
        refine s_if_eq X (tgt := 1572) dL_law_1567 rfl (fun c786 => ?_) (fun c786 => ?_)
        · have hf := hs785.1 c786
          obtain ⟨x787, e788, hf⟩ := pk_bnd hf
          refine s_iinc X (vs' := [(0, .ref b), (1, .ref (gB G + v1)), (2, .ref (gB G + v2)), (3, .int x787)]) 3 dL_law_1572 rfl (v := x787) e788.symm (Nat.le_of_ble_eq_true rfl) [1, 2, 3, 0] rfl ?_
          refine s_goto X (tgt := 18) dL_law_1575 rfl ?_
          exact ih _ _ _ _ hf
        · have hf := hs785.2 c786
          refine s_iconst X (v := (0 : Int32)) dL_law_1570 rfl ?_
          exact (pk_01 hf).elim
      have hf := hs777.2 c778
      refine s_swOut X (tgt := 1572) dL_law_32 (by have := sw_ne (v := (0 : Int32)) (z := 0) c7 (by decide); have := sw_ne (v := (1 : Int32)) (z := 1) c23 (by decide); have := sw_ne (v := (2 : Int32)) (z := 2) c39 (by decide); have := sw_ne (v := (3 : Int32)) (z := 3) c55 (by decide); have := sw_ne (v := (4 : Int32)) (z := 4) c71 (by decide); have := sw_ne (v := (5 : Int32)) (z := 5) c87 (by decide); have := sw_ne (v := (6 : Int32)) (z := 6) c103 (by decide); have := sw_ne (v := (7 : Int32)) (z := 7) c121 (by decide); have := sw_ne (v := (8 : Int32)) (z := 8) c139 (by decide); have := sw_ne (v := (9 : Int32)) (z := 9) c156 (by decide); have := sw_ne (v := (10 : Int32)) (z := 10) c172 (by decide); have := sw_ne (v := (11 : Int32)) (z := 11) c184 (by decide); have := sw_ne (v := (12 : Int32)) (z := 12) c198 (by decide); have := sw_ne (v := (13 : Int32)) (z := 13) c214 (by decide); have := sw_ne (v := (14 : Int32)) (z := 14) c230 (by decide); have := sw_ne (v := (15 : Int32)) (z := 15) c242 (by decide); have := sw_ne (v := (16 : Int32)) (z := 16) c258 (by decide); have := sw_ne (v := (17 : Int32)) (z := 17) c276 (by decide); have := sw_ne (v := (18 : Int32)) (z := 18) c290 (by decide); have := sw_ne (v := (19 : Int32)) (z := 19) c305 (by decide); have := sw_ne (v := (20 : Int32)) (z := 20) c317 (by decide); have := sw_ne (v := (21 : Int32)) (z := 21) c330 (by decide); have := sw_ne (v := (22 : Int32)) (z := 22) c346 (by decide); have := sw_ne (v := (23 : Int32)) (z := 23) c362 (by decide); have := sw_ne (v := (24 : Int32)) (z := 24) c380 (by decide); have := sw_ne (v := (25 : Int32)) (z := 25) c396 (by decide); have := sw_ne (v := (26 : Int32)) (z := 26) c412 (by decide); have := sw_ne (v := (27 : Int32)) (z := 27) c428 (by decide); have := sw_ne (v := (28 : Int32)) (z := 28) c444 (by decide); have := sw_ne (v := (29 : Int32)) (z := 29) c460 (by decide); have := sw_ne (v := (30 : Int32)) (z := 30) c478 (by decide); have := sw_ne (v := (31 : Int32)) (z := 31) c496 (by decide); have := sw_ne (v := (32 : Int32)) (z := 32) c512 (by decide); have := sw_ne (v := (33 : Int32)) (z := 33) c526 (by decide); have := sw_ne (v := (34 : Int32)) (z := 34) c540 (by decide); have := sw_ne (v := (35 : Int32)) (z := 35) c556 (by decide); have := sw_ne (v := (36 : Int32)) (z := 36) c570 (by decide); have := sw_ne (v := (37 : Int32)) (z := 37) c584 (by decide); have := sw_ne (v := (38 : Int32)) (z := 38) c598 (by decide); have := sw_ne (v := (39 : Int32)) (z := 39) c614 (by decide); have := sw_ne (v := (40 : Int32)) (z := 40) c632 (by decide); have := sw_ne (v := (41 : Int32)) (z := 41) c650 (by decide); have := sw_ne (v := (42 : Int32)) (z := 42) c668 (by decide); have := sw_ne (v := (43 : Int32)) (z := 43) c688 (by decide); have := sw_ne (v := (44 : Int32)) (z := 44) c708 (by decide); have := sw_ne (v := (45 : Int32)) (z := 45) c728 (by decide); have := sw_ne (v := (46 : Int32)) (z := 46) c746 (by decide); have := sw_ne (v := (47 : Int32)) (z := 47) c766 (by decide); have := sw_ne (v := (48 : Int32)) (z := 48) c778 (by decide); omega) rfl ?_
      obtain ⟨x789, e790, hf⟩ := pk_bnd hf
      refine s_iinc X (vs' := [(0, .ref b), (1, .ref (gB G + v1)), (2, .ref (gB G + v2)), (3, .int x789)]) 3 dL_law_1572 rfl (v := x789) e790.symm (Nat.le_of_ble_eq_true rfl) [1, 2, 3, 0] rfl ?_
      refine s_goto X (tgt := 18) dL_law_1575 rfl ?_
      exact ih _ _ _ _ hf
theorem law_walk {n : Nat} {rv : Mem} {M : Mem} (X : Cx p room_1 s m #[Value.ref b] c G M0 cL_law yL_law.cls 4 11 257) (hr : meth.sig.returnType = ret) (hlk : meth.locks = false) (hnm : LawB s0 d0 s b L xs G M0) (hf : f_L_law L xs n M = some ((1 : Int32), rv)) : Sg p l e room_1 s m #[Value.ref b] below meth c (lw_Z below #[Value.ref b] s0) G M0 4 0 [(0, .ref b)] [] M := by
  rw [f_L_law] at hf
  obtain ⟨h1, hf⟩ := pk_chk hf
  obtain ⟨o4, e5, hf⟩ := pk_bnd hf
  obtain ⟨M2, e3, hf⟩ := pk_bnd hf
  refine s_new X (ci := 9) rfl wd145 wd146 wd126 h1 e3 dL_law_0 (e5 ▸ ?_)
  have h6 := io_nwn e3 e5
  refine s_dup X dL_law_3 rfl ?_
  obtain ⟨M8, hc7, hf⟩ := pk_obd hf
  refine s_callI X (k_X9_init G hc7) wd147 wd148 wd149 wd126 rfl cd_X9_init ⟨Nat.le_of_ble_eq_true rfl, Nat.le_of_ble_eq_true rfl⟩ (Nat.le_of_ble_eq_true rfl) dL_law_4 ?_
  refine s_astore_n X (vs' := [(0, .ref b), (1, .ref (gB G + o4))]) dL_law_7 rfl (Nat.le_of_ble_eq_true rfl) [1, 0] rfl ?_
  obtain ⟨h9, hf⟩ := pk_chk hf
  obtain ⟨o12, e13, hf⟩ := pk_bnd hf
  obtain ⟨M10, e11, hf⟩ := pk_bnd hf
  refine s_new X (ci := 10) rfl wd1414 wd1415 wd138 h9 e11 dL_law_8 (e13 ▸ ?_)
  have h14 := io_nwn e11 e13
  refine s_dup X dL_law_11 rfl ?_
  obtain ⟨M16, hc15, hf⟩ := pk_obd hf
  refine s_callI X (k_X10_init G hc15) wd1416 wd1417 wd1418 wd138 rfl cd_X10_init ⟨Nat.le_of_ble_eq_true rfl, Nat.le_of_ble_eq_true rfl⟩ (Nat.le_of_ble_eq_true rfl) dL_law_12 ?_
  refine s_astore_n X (vs' := [(0, .ref b), (1, .ref (gB G + o4)), (2, .ref (gB G + o12))]) dL_law_15 rfl (Nat.le_of_ble_eq_true rfl) [1, 2, 0] rfl ?_
  refine s_iconst X (v := (0 : Int32)) dL_law_16 rfl ?_
  refine s_istore_n X (vs' := [(0, .ref b), (1, .ref (gB G + o4)), (2, .ref (gB G + o12)), (3, .int (0 : Int32))]) dL_law_17 rfl (Nat.le_of_ble_eq_true rfl) [1, 2, 3, 0] rfl ?_
  exact l_L_law_18 X hr hlk hnm _ _ _ _ hf
end
