theorem dX10_filled_0 : decode cX10_filled 0 = .ok (.iload_n 1, 1) := dk_27 (by decide +kernel)
theorem dX10_filled_1 : decode cX10_filled 1 = .ok (.iconst 2, 1) := dk_5 (by decide +kernel)
theorem dX10_filled_2 : decode cX10_filled 2 = .ok (.bipush 16, 2) := dk_16 (x := 16) (by decide +kernel) rfl
theorem dX10_filled_4 : decode cX10_filled 4 = .ok (.invokestatic 49, 3) := dk_184 (x := 0) (y := 49) (by decide +kernel) rfl
theorem dX10_filled_7 : decode cX10_filled 7 = .ok (.ifCond .eq 11, 3) := dk_153 (x := 0) (y := 11) (by decide +kernel) rfl
theorem dX10_filled_10 : decode cX10_filled 10 = .ok (.aload_n 0, 1) := dk_42 (by decide +kernel)
theorem dX10_filled_11 : decode cX10_filled 11 = .ok (.iload_n 1, 1) := dk_27 (by decide +kernel)
theorem dX10_filled_12 : decode cX10_filled 12 = .ok (.invokevirtual 57, 3) := dk_182 (x := 0) (y := 57) (by decide +kernel) rfl
theorem dX10_filled_15 : decode cX10_filled 15 = .ok (.goto 4, 3) := dk_167 (x := 0) (y := 4) (by decide +kernel) rfl
theorem dX10_filled_18 : decode cX10_filled 18 = .ok (.iconst (-1), 1) := dk_2 (by decide +kernel)
theorem dX10_filled_19 : decode cX10_filled 19 = .ok (.ireturn, 1) := dk_172 (by decide +kernel)
def f_X10_filled (n : Nat) (o : Nat) (a1 : Int32) (M : Mem) : Option (Int32 × Mem) :=
  obd (f_X10_isIn a1 (2 : Int32) (16 : Int32) M) fun r2 =>
  if r2 = 0 then (
    some ((-1 : Int32), M)
    ) else (
    chk (isO M 10 o) <|
    obd2 (f_X10_makeFilled n o a1 M) fun r7 M8 =>
    some (r7, M8)
    )
theorem cd_X10_filled : (yX10_filled.cls ≠ "java/lang/invoke/MethodHandle" ∧ yX10_filled.cls ≠ "java/lang/invoke/VarHandle") ∧ (parseMethodDescriptor yX10_filled.desc).map (fun d => d.parameters.length) = some 1 := ⟨⟨by decide +kernel, by decide +kernel⟩, by decide +kernel⟩
theorem k_X10_filled (G : Gam) {n : Nat} {o : Nat} {a1 : Int32} {M : Mem} {rv : (Int32 × Mem)} (hf : f_X10_filled n o a1 M = some rv) : Kt yX10_filled cX10_filled 2 (some .int) 3 69 G [.ref (gB G + o), .int a1] M rv.2 (some (.int rv.1)) := by
  refine Kt.of (by decide) (Nat.le_of_ble_eq_true rfl) ?_
  intro p l e R s m args below meth c X hr hlk hnm
  refine s_drop [0, 1] (vs' := [(0, .ref (gB G + o)), (1, .int a1)]) rfl ?_
  rw [f_X10_filled] at hf
  refine s_iload_n X 1 dX10_filled_0 rfl rfl ?_
  refine s_iconst X (v := (2 : Int32)) dX10_filled_1 rfl ?_
  refine s_bipush X (v := (16 : Int32)) dX10_filled_2 rfl ?_
  obtain ⟨r2, hc1, hf⟩ := pk_obd hf
  refine s_callS X (k_X10_isIn G hc1) wd1520 wd1521 wd1522 wd138 cd_X10_isIn ⟨Nat.le_of_ble_eq_true rfl, Nat.le_of_ble_eq_true rfl⟩ (Nat.le_of_ble_eq_true rfl) dX10_filled_4 ?_
  have hs3 := pk_ite hf
  clear hf
  refine s_if_eq X (tgt := 18) dX10_filled_7 rfl (fun c4 => ?_) (fun c4 => ?_)
  · have hf := hs3.1 c4
    refine s_iconst X (v := (-1 : Int32)) dX10_filled_18 rfl ?_
    cases hf
    exact s_iret X hr hlk dX10_filled_19
  · have hf := hs3.2 c4
    refine s_aload_n X 0 dX10_filled_10 rfl rfl ?_
    refine s_iload_n X 1 dX10_filled_11 rfl rfl ?_
    obtain ⟨h5, hf⟩ := pk_chk hf
    obtain ⟨r7, M8, hc6, hf⟩ := pk_obd2 hf
    refine s_callV X (ci := 10) (k_X10_makeFilled G hc6) rfl h5 wd1425 wd1427 wd49 wd1428 wd138 cd_X10_makeFilled ⟨Nat.le_of_ble_eq_true rfl, Nat.le_of_ble_eq_true rfl⟩ (Nat.le_of_ble_eq_true rfl) dX10_filled_12 ?_
    refine s_goto X (tgt := 19) dX10_filled_15 rfl ?_
    cases hf
    exact s_iret X hr hlk dX10_filled_19
theorem dX7_majorityFrom_0 : decode cX7_majorityFrom 0 = .ok (.iconst 0, 1) := dk_3 (by decide +kernel)
theorem dX7_majorityFrom_1 : decode cX7_majorityFrom 1 = .ok (.istore_n 2, 1) := dk_61 (by decide +kernel)
theorem dX7_majorityFrom_2 : decode cX7_majorityFrom 2 = .ok (.iconst 0, 1) := dk_3 (by decide +kernel)
theorem dX7_majorityFrom_3 : decode cX7_majorityFrom 3 = .ok (.istore_n 3, 1) := dk_62 (by decide +kernel)
theorem dX7_majorityFrom_4 : decode cX7_majorityFrom 4 = .ok (.iload_n 3, 1) := dk_29 (by decide +kernel)
theorem dX7_majorityFrom_5 : decode cX7_majorityFrom 5 = .ok (.iload_n 1, 1) := dk_27 (by decide +kernel)
theorem dX7_majorityFrom_6 : decode cX7_majorityFrom 6 = .ok (.iconst 2, 1) := dk_5 (by decide +kernel)
theorem dX7_majorityFrom_7 : decode cX7_majorityFrom 7 = .ok (.idiv, 1) := dk_108 (by decide +kernel)
theorem dX7_majorityFrom_8 : decode cX7_majorityFrom 8 = .ok (.if_icmp .gt 19, 3) := dk_163 (x := 0) (y := 19) (by decide +kernel) rfl
theorem dX7_majorityFrom_11 : decode cX7_majorityFrom 11 = .ok (.iload_n 2, 1) := dk_28 (by decide +kernel)
theorem dX7_majorityFrom_12 : decode cX7_majorityFrom 12 = .ok (.iconst 1, 1) := dk_4 (by decide +kernel)
theorem dX7_majorityFrom_13 : decode cX7_majorityFrom 13 = .ok (.iload_n 0, 1) := dk_26 (by decide +kernel)
theorem dX7_majorityFrom_14 : decode cX7_majorityFrom 14 = .ok (.iload_n 3, 1) := dk_29 (by decide +kernel)
theorem dX7_majorityFrom_15 : decode cX7_majorityFrom 15 = .ok (.iadd, 1) := dk_96 (by decide +kernel)
theorem dX7_majorityFrom_16 : decode cX7_majorityFrom 16 = .ok (.iload_n 1, 1) := dk_27 (by decide +kernel)
theorem dX7_majorityFrom_17 : decode cX7_majorityFrom 17 = .ok (.irem, 1) := dk_112 (by decide +kernel)
theorem dX7_majorityFrom_18 : decode cX7_majorityFrom 18 = .ok (.ishl, 1) := dk_120 (by decide +kernel)
theorem dX7_majorityFrom_19 : decode cX7_majorityFrom 19 = .ok (.ior, 1) := dk_128 (by decide +kernel)
theorem dX7_majorityFrom_20 : decode cX7_majorityFrom 20 = .ok (.istore_n 2, 1) := dk_61 (by decide +kernel)
theorem dX7_majorityFrom_21 : decode cX7_majorityFrom 21 = .ok (.iinc 3 1, 3) := dk_132 (x := 3) (y := 1) (by decide +kernel) rfl
theorem dX7_majorityFrom_24 : decode cX7_majorityFrom 24 = .ok (.goto (-20), 3) := dk_167 (x := 255) (y := 236) (by decide +kernel) rfl
theorem dX7_majorityFrom_27 : decode cX7_majorityFrom 27 = .ok (.iload_n 2, 1) := dk_28 (by decide +kernel)
theorem dX7_majorityFrom_28 : decode cX7_majorityFrom 28 = .ok (.ireturn, 1) := dk_172 (by decide +kernel)
def f_X7_majorityFrom_4 (M : Mem) : Nat → Int32 → Int32 → Int32 → Int32 → Option Int32
  | 0, _, _, _, _ => none
  | n + 1, v0, v1, v2, v3 =>
    chk (¬ (2 : Int32) = 0) <|
    if (v1 / (2 : Int32)) < v3 then (
      some v2
      ) else (
      chk (¬ v1 = 0) <|
      bnd (v2 ||| ((1 : Int32) <<< (((v0 + v3) - (v0 + v3) / v1 * v1) &&& 31))) fun x5 =>
      bnd (v3 + (1 : Int32)) fun x7 =>
      f_X7_majorityFrom_4 M n v0 v1 x5 x7
      )
def f_X7_majorityFrom (n : Nat) (a1 : Int32) (a2 : Int32) (M : Mem) : Option Int32 :=
  f_X7_majorityFrom_4 M n a1 a2 (0 : Int32) (0 : Int32)
theorem cd_X7_majorityFrom : (yX7_majorityFrom.cls ≠ "java/lang/invoke/MethodHandle" ∧ yX7_majorityFrom.cls ≠ "java/lang/invoke/VarHandle") ∧ (parseMethodDescriptor yX7_majorityFrom.desc).map (fun d => d.parameters.length) = some 2 := ⟨⟨by decide +kernel, by decide +kernel⟩, by decide +kernel⟩
section
variable {p : Program} {l : Launch} {e : Env} {R : Room} {s : State} {m : MethodId} {args : Array Value} {below : List Frame} {meth : Method} {c : Code} {G : Gam} {M0 : Mem}
theorem l_X7_majorityFrom_4 {M : Mem} {rv : Int32} (X : Cx p R s m args c G M0 cX7_majorityFrom yX7_majorityFrom.cls 4 0 0) (hr : meth.sig.returnType = (some .int)) (hlk : meth.locks = false) (hnm : meth.name = "majorityFrom") : ∀ {n : Nat} (v0 : Int32) (v1 : Int32) (v2 : Int32) (v3 : Int32), f_X7_majorityFrom_4 M n v0 v1 v2 v3 = some rv → Sg p l e R s m args below meth c (Qm below G args s (some (.int rv)) M0 M) G M0 4 4 [(0, .int v0), (1, .int v1), (2, .int v2), (3, .int v3)] [] M := by
  intro n
  induction n with
  | zero => intro v0 v1 v2 v3 hf; exact (pk_none hf).elim
  | succ n ih =>
    intro v0 v1 v2 v3 hf
    rw [f_X7_majorityFrom_4] at hf
    refine s_iload_n X 3 dX7_majorityFrom_4 rfl rfl ?_
    refine s_iload_n X 1 dX7_majorityFrom_5 rfl rfl ?_
    refine s_iconst X (v := (2 : Int32)) dX7_majorityFrom_6 rfl ?_
    obtain ⟨h1, hf⟩ := pk_chk hf
    refine s_idiv X dX7_majorityFrom_7 h1 ?_
    have hs2 := pk_ite hf
    clear hf
    refine s_icmp_gt X (tgt := 27) dX7_majorityFrom_8 rfl (fun c3 => ?_) (fun c3 => ?_)
    · have hf := hs2.1 c3
      refine s_iload_n X 2 dX7_majorityFrom_27 rfl rfl ?_
      cases hf
      exact s_iret X hr hlk dX7_majorityFrom_28
    · have hf := hs2.2 c3
      refine s_iload_n X 2 dX7_majorityFrom_11 rfl rfl ?_
      refine s_iconst X (v := (1 : Int32)) dX7_majorityFrom_12 rfl ?_
      refine s_iload_n X 0 dX7_majorityFrom_13 rfl rfl ?_
      refine s_iload_n X 3 dX7_majorityFrom_14 rfl rfl ?_
      refine s_iadd X dX7_majorityFrom_15 ?_
      refine s_iload_n X 1 dX7_majorityFrom_16 rfl rfl ?_
      obtain ⟨h4, hf⟩ := pk_chk hf
      refine s_irem X dX7_majorityFrom_17 h4 ?_
      refine s_ishl X dX7_majorityFrom_18 ?_
      refine s_ior X dX7_majorityFrom_19 ?_
      obtain ⟨x5, e6, hf⟩ := pk_bnd hf
      refine s_nmI e6 ?_
      refine s_istore_n X (vs' := [(0, .int v0), (1, .int v1), (2, .int x5), (3, .int v3)]) dX7_majorityFrom_20 rfl (Nat.le_of_ble_eq_true rfl) [1, 2, 0, 3] rfl ?_
      obtain ⟨x7, e8, hf⟩ := pk_bnd hf
      refine s_iinc X (vs' := [(0, .int v0), (1, .int v1), (2, .int x5), (3, .int x7)]) 3 dX7_majorityFrom_21 rfl (v := x7) e8.symm (Nat.le_of_ble_eq_true rfl) [1, 2, 3, 0] rfl ?_
      refine s_goto X (tgt := 4) dX7_majorityFrom_24 rfl ?_
      exact ih _ _ _ _ hf
end
theorem k_X7_majorityFrom (G : Gam) {n : Nat} {a1 : Int32} {a2 : Int32} {M : Mem} {rv : Int32} (hf : f_X7_majorityFrom n a1 a2 M = some rv) : Kt yX7_majorityFrom cX7_majorityFrom 4 (some .int) 0 0 G [.int a1, .int a2] M M (some (.int rv)) := by
  refine Kt.of (by decide) (Nat.le_of_ble_eq_true rfl) ?_
  intro p l e R s m args below meth c X hr hlk hnm
  refine s_drop [0, 1] (vs' := [(0, .int a1), (1, .int a2)]) rfl ?_
  rw [f_X7_majorityFrom] at hf
  refine s_iconst X (v := (0 : Int32)) dX7_majorityFrom_0 rfl ?_
  refine s_istore_n X (vs' := [(0, .int a1), (1, .int a2), (2, .int (0 : Int32))]) dX7_majorityFrom_1 rfl (Nat.le_of_ble_eq_true rfl) [1, 2, 0] rfl ?_
  refine s_iconst X (v := (0 : Int32)) dX7_majorityFrom_2 rfl ?_
  refine s_istore_n X (vs' := [(0, .int a1), (1, .int a2), (2, .int (0 : Int32)), (3, .int (0 : Int32))]) dX7_majorityFrom_3 rfl (Nat.le_of_ble_eq_true rfl) [1, 2, 3, 0] rfl ?_
  exact l_X7_majorityFrom_4 X hr hlk hnm _ _ _ _ hf
theorem dX7_makeMajority_0 : decode cX7_makeMajority 0 = .ok (.aload_n 0, 1) := dk_42 (by decide +kernel)
theorem dX7_makeMajority_1 : decode cX7_makeMajority 1 = .ok (.iload_n 1, 1) := dk_27 (by decide +kernel)
theorem dX7_makeMajority_2 : decode cX7_makeMajority 2 = .ok (.invokevirtual 21, 3) := dk_182 (x := 0) (y := 21) (by decide +kernel) rfl
theorem dX7_makeMajority_5 : decode cX7_makeMajority 5 = .ok (.iconst 0, 1) := dk_3 (by decide +kernel)
theorem dX7_makeMajority_6 : decode cX7_makeMajority 6 = .ok (.istore_n 2, 1) := dk_61 (by decide +kernel)
theorem dX7_makeMajority_7 : decode cX7_makeMajority 7 = .ok (.iload_n 2, 1) := dk_28 (by decide +kernel)
theorem dX7_makeMajority_8 : decode cX7_makeMajority 8 = .ok (.iload_n 1, 1) := dk_27 (by decide +kernel)
theorem dX7_makeMajority_9 : decode cX7_makeMajority 9 = .ok (.if_icmp .ge 20, 3) := dk_162 (x := 0) (y := 20) (by decide +kernel) rfl
theorem dX7_makeMajority_12 : decode cX7_makeMajority 12 = .ok (.aload_n 0, 1) := dk_42 (by decide +kernel)
theorem dX7_makeMajority_13 : decode cX7_makeMajority 13 = .ok (.getfield 9, 3) := dk_180 (x := 0) (y := 9) (by decide +kernel) rfl
theorem dX7_makeMajority_16 : decode cX7_makeMajority 16 = .ok (.iload_n 2, 1) := dk_28 (by decide +kernel)
theorem dX7_makeMajority_17 : decode cX7_makeMajority 17 = .ok (.iload_n 2, 1) := dk_28 (by decide +kernel)
theorem dX7_makeMajority_18 : decode cX7_makeMajority 18 = .ok (.iload_n 1, 1) := dk_27 (by decide +kernel)
theorem dX7_makeMajority_19 : decode cX7_makeMajority 19 = .ok (.invokestatic 28, 3) := dk_184 (x := 0) (y := 28) (by decide +kernel) rfl
theorem dX7_makeMajority_22 : decode cX7_makeMajority 22 = .ok (.iastore, 1) := dk_79 (by decide +kernel)
theorem dX7_makeMajority_23 : decode cX7_makeMajority 23 = .ok (.iinc 2 1, 3) := dk_132 (x := 2) (y := 1) (by decide +kernel) rfl
theorem dX7_makeMajority_26 : decode cX7_makeMajority 26 = .ok (.goto (-19), 3) := dk_167 (x := 255) (y := 237) (by decide +kernel) rfl
theorem dX7_makeMajority_29 : decode cX7_makeMajority 29 = .ok (.return_, 1) := dk_177 (by decide +kernel)
def f_X7_makeMajority_7 : Nat → Nat → Int32 → Int32 → Mem → Option Mem
  | 0, _, _, _, _ => none
  | n + 1, v0, v1, v2, M =>
    if v1 ≤ v2 then (
      some M
      ) else (
      chk (isO M 7 v0) <|
      bnd (mR M v0 0) fun o4 =>
      chk (isO M 100 o4) <|
      obd (f_X7_majorityFrom n v2 v1 M) fun r8 =>
      chk (inB v2 (mLn M o4)) <|
      bnd (sI M o4 (v2).toNatClampNeg r8) fun M10 =>
      bnd (v2 + (1 : Int32)) fun x14 =>
      f_X7_makeMajority_7 n v0 v1 x14 M10
      )
def f_X7_makeMajority (n : Nat) (o : Nat) (a1 : Int32) (M : Mem) : Option Mem :=
  chk (isO M 7 o) <|
  obd (f_X7_begin n o a1 M) fun M3 =>
  f_X7_makeMajority_7 n o a1 (0 : Int32) M3
theorem cd_X7_makeMajority : (yX7_makeMajority.cls ≠ "java/lang/invoke/MethodHandle" ∧ yX7_makeMajority.cls ≠ "java/lang/invoke/VarHandle") ∧ (parseMethodDescriptor yX7_makeMajority.desc).map (fun d => d.parameters.length) = some 1 := ⟨⟨by decide +kernel, by decide +kernel⟩, by decide +kernel⟩
section
variable {p : Program} {l : Launch} {e : Env} {R : Room} {s : State} {m : MethodId} {args : Array Value} {below : List Frame} {meth : Method} {c : Code} {G : Gam} {M0 : Mem}
theorem l_X7_makeMajority_7 {rv : Mem} (X : Cx p R s m args c G M0 cX7_makeMajority yX7_makeMajority.cls 3 2 44) (hr : meth.sig.returnType = none) (hlk : meth.locks = false) (hnm : meth.name = "makeMajority") : ∀ {n : Nat} (v0 : Nat) (v1 : Int32) (v2 : Int32) (M : Mem), f_X7_makeMajority_7 n v0 v1 v2 M = some rv → Sg p l e R s m args below meth c (Qm below G args s none M0 rv) G M0 3 7 [(0, .ref (gB G + v0)), (1, .int v1), (2, .int v2)] [] M := by
  intro n
  induction n with
  | zero => intro v0 v1 v2 M hf; exact (pk_none hf).elim
  | succ n ih =>
    intro v0 v1 v2 M hf
    rw [f_X7_makeMajority_7] at hf
    refine s_iload_n X 2 dX7_makeMajority_7 rfl rfl ?_
    refine s_iload_n X 1 dX7_makeMajority_8 rfl rfl ?_
    have hs1 := pk_ite hf
    clear hf
    refine s_icmp_ge X (tgt := 29) dX7_makeMajority_9 rfl (fun c2 => ?_) (fun c2 => ?_)
    · have hf := hs1.1 c2
      cases hf
      exact s_vret X hr hlk dX7_makeMajority_29
    · have hf := hs1.2 c2
      refine s_aload_n X 0 dX7_makeMajority_12 rfl rfl ?_
      obtain ⟨h3, hf⟩ := pk_chk hf
      obtain ⟨o4, e5, hf⟩ := pk_bnd hf
      obtain ⟨h6, hf⟩ := pk_chk hf
      refine s_getR X (ci := 7) (k := 0) rfl (Nat.le_of_ble_eq_true rfl) h3 wd159 (fun _ _ _ => rfl) (e5 ▸ h6) dX7_makeMajority_13 (e5 ▸ ?_)
      refine s_iload_n X 2 dX7_makeMajority_16 rfl rfl ?_
      refine s_iload_n X 2 dX7_makeMajority_17 rfl rfl ?_
      refine s_iload_n X 1 dX7_makeMajority_18 rfl rfl ?_
      obtain ⟨r8, hc7, hf⟩ := pk_obd hf
      refine s_callS X (k_X7_majorityFrom G hc7) wd672 wd673 wd674 wd127 cd_X7_majorityFrom ⟨Nat.le_of_ble_eq_true rfl, Nat.le_of_ble_eq_true rfl⟩ (Nat.le_of_ble_eq_true rfl) dX7_makeMajority_19 ?_
      obtain ⟨h9, hf⟩ := pk_chk hf
      obtain ⟨M10, e11, hf⟩ := pk_bnd hf
      refine s_iast X h6 h9 e11 dX7_makeMajority_22 ?_
      have h12 := io_sI e11 h3
      have h13 := io_sI e11 h6
      obtain ⟨x14, e15, hf⟩ := pk_bnd hf
      refine s_iinc X (vs' := [(0, .ref (gB G + v0)), (1, .int v1), (2, .int x14)]) 2 dX7_makeMajority_23 rfl (v := x14) e15.symm (Nat.le_of_ble_eq_true rfl) [1, 2, 0] rfl ?_
      refine s_goto X (tgt := 7) dX7_makeMajority_26 rfl ?_
      exact ih _ _ _ _ hf
end
theorem k_X7_makeMajority (G : Gam) {n : Nat} {o : Nat} {a1 : Int32} {M : Mem} {rv : Mem} (hf : f_X7_makeMajority n o a1 M = some rv) : Kt yX7_makeMajority cX7_makeMajority 3 none 2 44 G [.ref (gB G + o), .int a1] M rv none := by
  refine Kt.of (by decide) (Nat.le_of_ble_eq_true rfl) ?_
  intro p l e R s m args below meth c X hr hlk hnm
  refine s_drop [0, 1] (vs' := [(0, .ref (gB G + o)), (1, .int a1)]) rfl ?_
  rw [f_X7_makeMajority] at hf
  refine s_aload_n X 0 dX7_makeMajority_0 rfl rfl ?_
  refine s_iload_n X 1 dX7_makeMajority_1 rfl rfl ?_
  obtain ⟨h1, hf⟩ := pk_chk hf
  obtain ⟨M3, hc2, hf⟩ := pk_obd hf
  refine s_callV X (ci := 7) (k_X7_begin G hc2) rfl h1 wd575 wd577 wd0 wd578 wd127 cd_X7_begin ⟨Nat.le_of_ble_eq_true rfl, Nat.le_of_ble_eq_true rfl⟩ (Nat.le_of_ble_eq_true rfl) dX7_makeMajority_2 ?_
  refine s_iconst X (v := (0 : Int32)) dX7_makeMajority_5 rfl ?_
  refine s_istore_n X (vs' := [(0, .ref (gB G + o)), (1, .int a1), (2, .int (0 : Int32))]) dX7_makeMajority_6 rfl (Nat.le_of_ble_eq_true rfl) [1, 2, 0] rfl ?_
  exact l_X7_makeMajority_7 X hr hlk hnm _ _ _ _ hf
theorem dX9_majority_0 : decode cX9_majority 0 = .ok (.iload_n 1, 1) := dk_27 (by decide +kernel)
theorem dX9_majority_1 : decode cX9_majority 1 = .ok (.iconst 2, 1) := dk_5 (by decide +kernel)
theorem dX9_majority_2 : decode cX9_majority 2 = .ok (.if_icmp .lt 9, 3) := dk_161 (x := 0) (y := 9) (by decide +kernel) rfl
theorem dX9_majority_5 : decode cX9_majority 5 = .ok (.iload_n 1, 1) := dk_27 (by decide +kernel)
theorem dX9_majority_6 : decode cX9_majority 6 = .ok (.bipush 16, 2) := dk_16 (x := 16) (by decide +kernel) rfl
theorem dX9_majority_8 : decode cX9_majority 8 = .ok (.if_icmp .le 5, 3) := dk_164 (x := 0) (y := 5) (by decide +kernel) rfl
theorem dX9_majority_11 : decode cX9_majority 11 = .ok (.iconst (-1), 1) := dk_2 (by decide +kernel)
theorem dX9_majority_12 : decode cX9_majority 12 = .ok (.ireturn, 1) := dk_172 (by decide +kernel)
theorem dX9_majority_13 : decode cX9_majority 13 = .ok (.aload_n 0, 1) := dk_42 (by decide +kernel)
theorem dX9_majority_14 : decode cX9_majority 14 = .ok (.getfield 10, 3) := dk_180 (x := 0) (y := 10) (by decide +kernel) rfl
theorem dX9_majority_17 : decode cX9_majority 17 = .ok (.iload_n 1, 1) := dk_27 (by decide +kernel)
theorem dX9_majority_18 : decode cX9_majority 18 = .ok (.invokevirtual 62, 3) := dk_182 (x := 0) (y := 62) (by decide +kernel) rfl
theorem dX9_majority_21 : decode cX9_majority 21 = .ok (.aload_n 0, 1) := dk_42 (by decide +kernel)
theorem dX9_majority_22 : decode cX9_majority 22 = .ok (.invokevirtual 55, 3) := dk_182 (x := 0) (y := 55) (by decide +kernel) rfl
theorem dX9_majority_25 : decode cX9_majority 25 = .ok (.ireturn, 1) := dk_172 (by decide +kernel)
def f_X9_majority (n : Nat) (o : Nat) (a1 : Int32) (M : Mem) : Option (Int32 × Mem) :=
  if a1 < (2 : Int32) then (
    some ((-1 : Int32), M)
    ) else (
    if a1 ≤ (16 : Int32) then (
      chk (isO M 9 o) <|
      bnd (mR M o 0) fun o6 =>
      chk (isO M 7 o6) <|
      obd (f_X7_makeMajority n o6 a1 M) fun M10 =>
      chk (isO M10 9 o) <|
      obd2 (f_X9_startAnew n o M10) fun r13 M14 =>
      some (r13, M14)
      ) else (
      some ((-1 : Int32), M)
      )
    )
theorem cd_X9_majority : (yX9_majority.cls ≠ "java/lang/invoke/MethodHandle" ∧ yX9_majority.cls ≠ "java/lang/invoke/VarHandle") ∧ (parseMethodDescriptor yX9_majority.desc).map (fun d => d.parameters.length) = some 1 := ⟨⟨by decide +kernel, by decide +kernel⟩, by decide +kernel⟩
theorem k_X9_majority (G : Gam) {n : Nat} {o : Nat} {a1 : Int32} {M : Mem} {rv : (Int32 × Mem)} (hf : f_X9_majority n o a1 M = some rv) : Kt yX9_majority cX9_majority 2 (some .int) 5 104 G [.ref (gB G + o), .int a1] M rv.2 (some (.int rv.1)) := by
  refine Kt.of (by decide) (Nat.le_of_ble_eq_true rfl) ?_
  intro p l e R s m args below meth c X hr hlk hnm
  refine s_drop [0, 1] (vs' := [(0, .ref (gB G + o)), (1, .int a1)]) rfl ?_
  rw [f_X9_majority] at hf
  refine s_iload_n X 1 dX9_majority_0 rfl rfl ?_
  refine s_iconst X (v := (2 : Int32)) dX9_majority_1 rfl ?_
  have hs1 := pk_ite hf
  clear hf
  refine s_icmp_lt X (tgt := 11) dX9_majority_2 rfl (fun c2 => ?_) (fun c2 => ?_)
  · have hf := hs1.1 c2
    refine s_iconst X (v := (-1 : Int32)) dX9_majority_11 rfl ?_
    cases hf
    exact s_iret X hr hlk dX9_majority_12
  · have hf := hs1.2 c2
    refine s_iload_n X 1 dX9_majority_5 rfl rfl ?_
    refine s_bipush X (v := (16 : Int32)) dX9_majority_6 rfl ?_
    have hs3 := pk_ite hf
    clear hf
    refine s_icmp_le X (tgt := 13) dX9_majority_8 rfl (fun c4 => ?_) (fun c4 => ?_)
    · have hf := hs3.1 c4
      refine s_aload_n X 0 dX9_majority_13 rfl rfl ?_
      obtain ⟨h5, hf⟩ := pk_chk hf
      obtain ⟨o6, e7, hf⟩ := pk_bnd hf
      obtain ⟨h8, hf⟩ := pk_chk hf
      refine s_getR X (ci := 9) (k := 0) rfl (Nat.le_of_ble_eq_true rfl) h5 wd627 (fun _ _ _ => rfl) (e7 ▸ h8) dX9_majority_14 (e7 ▸ ?_)
      refine s_iload_n X 1 dX9_majority_17 rfl rfl ?_
      obtain ⟨M10, hc9, hf⟩ := pk_obd hf
      refine s_callV X (ci := 7) (k_X7_makeMajority G hc9) rfl h8 wd668 wd669 wd670 wd671 wd127 cd_X7_makeMajority ⟨Nat.le_of_ble_eq_true rfl, Nat.le_of_ble_eq_true rfl⟩ (Nat.le_of_ble_eq_true rfl) dX9_majority_18 ?_
      refine s_aload_n X 0 dX9_majority_21 rfl rfl ?_
      obtain ⟨h11, hf⟩ := pk_chk hf
      obtain ⟨r13, M14, hc12, hf⟩ := pk_obd2 hf
      refine s_callV X (ci := 9) (k_X9_startAnew G hc12) rfl h11 wd582 wd584 wd1 wd585 wd126 cd_X9_startAnew ⟨Nat.le_of_ble_eq_true rfl, Nat.le_of_ble_eq_true rfl⟩ (Nat.le_of_ble_eq_true rfl) dX9_majority_22 ?_
      cases hf
      exact s_iret X hr hlk dX9_majority_25
    · have hf := hs3.2 c4
      refine s_iconst X (v := (-1 : Int32)) dX9_majority_11 rfl ?_
      cases hf
      exact s_iret X hr hlk dX9_majority_12
theorem dX10_majorityOf_0 : decode cX10_majorityOf 0 = .ok (.iconst 0, 1) := dk_3 (by decide +kernel)
theorem dX10_majorityOf_1 : decode cX10_majorityOf 1 = .ok (.istore_n 2, 1) := dk_61 (by decide +kernel)
theorem dX10_majorityOf_2 : decode cX10_majorityOf 2 = .ok (.iconst 0, 1) := dk_3 (by decide +kernel)
theorem dX10_majorityOf_3 : decode cX10_majorityOf 3 = .ok (.istore_n 3, 1) := dk_62 (by decide +kernel)
theorem dX10_majorityOf_4 : decode cX10_majorityOf 4 = .ok (.iload_n 3, 1) := dk_29 (by decide +kernel)
theorem dX10_majorityOf_5 : decode cX10_majorityOf 5 = .ok (.iload_n 1, 1) := dk_27 (by decide +kernel)
theorem dX10_majorityOf_6 : decode cX10_majorityOf 6 = .ok (.iconst 2, 1) := dk_5 (by decide +kernel)
theorem dX10_majorityOf_7 : decode cX10_majorityOf 7 = .ok (.idiv, 1) := dk_108 (by decide +kernel)
theorem dX10_majorityOf_8 : decode cX10_majorityOf 8 = .ok (.if_icmp .gt 19, 3) := dk_163 (x := 0) (y := 19) (by decide +kernel) rfl
theorem dX10_majorityOf_11 : decode cX10_majorityOf 11 = .ok (.iload_n 2, 1) := dk_28 (by decide +kernel)
theorem dX10_majorityOf_12 : decode cX10_majorityOf 12 = .ok (.iconst 1, 1) := dk_4 (by decide +kernel)
theorem dX10_majorityOf_13 : decode cX10_majorityOf 13 = .ok (.iload_n 0, 1) := dk_26 (by decide +kernel)
theorem dX10_majorityOf_14 : decode cX10_majorityOf 14 = .ok (.iload_n 3, 1) := dk_29 (by decide +kernel)
theorem dX10_majorityOf_15 : decode cX10_majorityOf 15 = .ok (.iadd, 1) := dk_96 (by decide +kernel)
theorem dX10_majorityOf_16 : decode cX10_majorityOf 16 = .ok (.iload_n 1, 1) := dk_27 (by decide +kernel)
theorem dX10_majorityOf_17 : decode cX10_majorityOf 17 = .ok (.irem, 1) := dk_112 (by decide +kernel)
theorem dX10_majorityOf_18 : decode cX10_majorityOf 18 = .ok (.ishl, 1) := dk_120 (by decide +kernel)
theorem dX10_majorityOf_19 : decode cX10_majorityOf 19 = .ok (.ior, 1) := dk_128 (by decide +kernel)
theorem dX10_majorityOf_20 : decode cX10_majorityOf 20 = .ok (.istore_n 2, 1) := dk_61 (by decide +kernel)
theorem dX10_majorityOf_21 : decode cX10_majorityOf 21 = .ok (.iinc 3 1, 3) := dk_132 (x := 3) (y := 1) (by decide +kernel) rfl
theorem dX10_majorityOf_24 : decode cX10_majorityOf 24 = .ok (.goto (-20), 3) := dk_167 (x := 255) (y := 236) (by decide +kernel) rfl
theorem dX10_majorityOf_27 : decode cX10_majorityOf 27 = .ok (.iload_n 2, 1) := dk_28 (by decide +kernel)
theorem dX10_majorityOf_28 : decode cX10_majorityOf 28 = .ok (.ireturn, 1) := dk_172 (by decide +kernel)
def f_X10_majorityOf_4 (M : Mem) : Nat → Int32 → Int32 → Int32 → Int32 → Option Int32
  | 0, _, _, _, _ => none
  | n + 1, v0, v1, v2, v3 =>
    chk (¬ (2 : Int32) = 0) <|
    if (v1 / (2 : Int32)) < v3 then (
      some v2
      ) else (
      chk (¬ v1 = 0) <|
      bnd (v2 ||| ((1 : Int32) <<< (((v0 + v3) - (v0 + v3) / v1 * v1) &&& 31))) fun x5 =>
      bnd (v3 + (1 : Int32)) fun x7 =>
      f_X10_majorityOf_4 M n v0 v1 x5 x7
      )
def f_X10_majorityOf (n : Nat) (a1 : Int32) (a2 : Int32) (M : Mem) : Option Int32 :=
  f_X10_majorityOf_4 M n a1 a2 (0 : Int32) (0 : Int32)
theorem cd_X10_majorityOf : (yX10_majorityOf.cls ≠ "java/lang/invoke/MethodHandle" ∧ yX10_majorityOf.cls ≠ "java/lang/invoke/VarHandle") ∧ (parseMethodDescriptor yX10_majorityOf.desc).map (fun d => d.parameters.length) = some 2 := ⟨⟨by decide +kernel, by decide +kernel⟩, by decide +kernel⟩
section
variable {p : Program} {l : Launch} {e : Env} {R : Room} {s : State} {m : MethodId} {args : Array Value} {below : List Frame} {meth : Method} {c : Code} {G : Gam} {M0 : Mem}
theorem l_X10_majorityOf_4 {M : Mem} {rv : Int32} (X : Cx p R s m args c G M0 cX10_majorityOf yX10_majorityOf.cls 4 0 0) (hr : meth.sig.returnType = (some .int)) (hlk : meth.locks = false) (hnm : meth.name = "majorityOf") : ∀ {n : Nat} (v0 : Int32) (v1 : Int32) (v2 : Int32) (v3 : Int32), f_X10_majorityOf_4 M n v0 v1 v2 v3 = some rv → Sg p l e R s m args below meth c (Qm below G args s (some (.int rv)) M0 M) G M0 4 4 [(0, .int v0), (1, .int v1), (2, .int v2), (3, .int v3)] [] M := by
  intro n
  induction n with
  | zero => intro v0 v1 v2 v3 hf; exact (pk_none hf).elim
  | succ n ih =>
    intro v0 v1 v2 v3 hf
    rw [f_X10_majorityOf_4] at hf
    refine s_iload_n X 3 dX10_majorityOf_4 rfl rfl ?_
    refine s_iload_n X 1 dX10_majorityOf_5 rfl rfl ?_
    refine s_iconst X (v := (2 : Int32)) dX10_majorityOf_6 rfl ?_
    obtain ⟨h1, hf⟩ := pk_chk hf
    refine s_idiv X dX10_majorityOf_7 h1 ?_
    have hs2 := pk_ite hf
    clear hf
    refine s_icmp_gt X (tgt := 27) dX10_majorityOf_8 rfl (fun c3 => ?_) (fun c3 => ?_)
    · have hf := hs2.1 c3
      refine s_iload_n X 2 dX10_majorityOf_27 rfl rfl ?_
      cases hf
      exact s_iret X hr hlk dX10_majorityOf_28
    · have hf := hs2.2 c3
      refine s_iload_n X 2 dX10_majorityOf_11 rfl rfl ?_
      refine s_iconst X (v := (1 : Int32)) dX10_majorityOf_12 rfl ?_
      refine s_iload_n X 0 dX10_majorityOf_13 rfl rfl ?_
      refine s_iload_n X 3 dX10_majorityOf_14 rfl rfl ?_
      refine s_iadd X dX10_majorityOf_15 ?_
      refine s_iload_n X 1 dX10_majorityOf_16 rfl rfl ?_
      obtain ⟨h4, hf⟩ := pk_chk hf
      refine s_irem X dX10_majorityOf_17 h4 ?_
      refine s_ishl X dX10_majorityOf_18 ?_
      refine s_ior X dX10_majorityOf_19 ?_
      obtain ⟨x5, e6, hf⟩ := pk_bnd hf
      refine s_nmI e6 ?_
      refine s_istore_n X (vs' := [(0, .int v0), (1, .int v1), (2, .int x5), (3, .int v3)]) dX10_majorityOf_20 rfl (Nat.le_of_ble_eq_true rfl) [1, 2, 0, 3] rfl ?_
      obtain ⟨x7, e8, hf⟩ := pk_bnd hf
      refine s_iinc X (vs' := [(0, .int v0), (1, .int v1), (2, .int x5), (3, .int x7)]) 3 dX10_majorityOf_21 rfl (v := x7) e8.symm (Nat.le_of_ble_eq_true rfl) [1, 2, 3, 0] rfl ?_
      refine s_goto X (tgt := 4) dX10_majorityOf_24 rfl ?_
      exact ih _ _ _ _ hf
end
theorem k_X10_majorityOf (G : Gam) {n : Nat} {a1 : Int32} {a2 : Int32} {M : Mem} {rv : Int32} (hf : f_X10_majorityOf n a1 a2 M = some rv) : Kt yX10_majorityOf cX10_majorityOf 4 (some .int) 0 0 G [.int a1, .int a2] M M (some (.int rv)) := by
  refine Kt.of (by decide) (Nat.le_of_ble_eq_true rfl) ?_
  intro p l e R s m args below meth c X hr hlk hnm
  refine s_drop [0, 1] (vs' := [(0, .int a1), (1, .int a2)]) rfl ?_
  rw [f_X10_majorityOf] at hf
  refine s_iconst X (v := (0 : Int32)) dX10_majorityOf_0 rfl ?_
  refine s_istore_n X (vs' := [(0, .int a1), (1, .int a2), (2, .int (0 : Int32))]) dX10_majorityOf_1 rfl (Nat.le_of_ble_eq_true rfl) [1, 2, 0] rfl ?_
  refine s_iconst X (v := (0 : Int32)) dX10_majorityOf_2 rfl ?_
  refine s_istore_n X (vs' := [(0, .int a1), (1, .int a2), (2, .int (0 : Int32)), (3, .int (0 : Int32))]) dX10_majorityOf_3 rfl (Nat.le_of_ble_eq_true rfl) [1, 2, 3, 0] rfl ?_
  exact l_X10_majorityOf_4 X hr hlk hnm _ _ _ _ hf
theorem dX10_majority_0 : decode cX10_majority 0 = .ok (.iload_n 1, 1) := dk_27 (by decide +kernel)
theorem dX10_majority_1 : decode cX10_majority 1 = .ok (.iconst 2, 1) := dk_5 (by decide +kernel)
theorem dX10_majority_2 : decode cX10_majority 2 = .ok (.bipush 16, 2) := dk_16 (x := 16) (by decide +kernel) rfl
theorem dX10_majority_4 : decode cX10_majority 4 = .ok (.invokestatic 49, 3) := dk_184 (x := 0) (y := 49) (by decide +kernel) rfl
theorem dX10_majority_7 : decode cX10_majority 7 = .ok (.ifCond .ne 5, 3) := dk_154 (x := 0) (y := 5) (by decide +kernel) rfl
theorem dX10_majority_10 : decode cX10_majority 10 = .ok (.iconst (-1), 1) := dk_2 (by decide +kernel)
theorem dX10_majority_11 : decode cX10_majority 11 = .ok (.ireturn, 1) := dk_172 (by decide +kernel)
theorem dX10_majority_12 : decode cX10_majority 12 = .ok (.aload_n 0, 1) := dk_42 (by decide +kernel)
theorem dX10_majority_13 : decode cX10_majority 13 = .ok (.iload_n 1, 1) := dk_27 (by decide +kernel)
theorem dX10_majority_14 : decode cX10_majority 14 = .ok (.iconst 0, 1) := dk_3 (by decide +kernel)
theorem dX10_majority_15 : decode cX10_majority 15 = .ok (.invokevirtual 60, 3) := dk_182 (x := 0) (y := 60) (by decide +kernel) rfl
theorem dX10_majority_18 : decode cX10_majority 18 = .ok (.iconst 0, 1) := dk_3 (by decide +kernel)
theorem dX10_majority_19 : decode cX10_majority 19 = .ok (.istore_n 2, 1) := dk_61 (by decide +kernel)
theorem dX10_majority_20 : decode cX10_majority 20 = .ok (.iload_n 2, 1) := dk_28 (by decide +kernel)
theorem dX10_majority_21 : decode cX10_majority 21 = .ok (.iload_n 1, 1) := dk_27 (by decide +kernel)
theorem dX10_majority_22 : decode cX10_majority 22 = .ok (.if_icmp .ge 22, 3) := dk_162 (x := 0) (y := 22) (by decide +kernel) rfl
theorem dX10_majority_25 : decode cX10_majority 25 = .ok (.aload_n 0, 1) := dk_42 (by decide +kernel)
theorem dX10_majority_26 : decode cX10_majority 26 = .ok (.getfield 7, 3) := dk_180 (x := 0) (y := 7) (by decide +kernel) rfl
theorem dX10_majority_29 : decode cX10_majority 29 = .ok (.iconst 2, 1) := dk_5 (by decide +kernel)
theorem dX10_majority_30 : decode cX10_majority 30 = .ok (.iload_n 2, 1) := dk_28 (by decide +kernel)
theorem dX10_majority_31 : decode cX10_majority 31 = .ok (.iadd, 1) := dk_96 (by decide +kernel)
theorem dX10_majority_32 : decode cX10_majority 32 = .ok (.iload_n 2, 1) := dk_28 (by decide +kernel)
theorem dX10_majority_33 : decode cX10_majority 33 = .ok (.iload_n 1, 1) := dk_27 (by decide +kernel)
theorem dX10_majority_34 : decode cX10_majority 34 = .ok (.invokestatic 68, 3) := dk_184 (x := 0) (y := 68) (by decide +kernel) rfl
theorem dX10_majority_37 : decode cX10_majority 37 = .ok (.iastore, 1) := dk_79 (by decide +kernel)
theorem dX10_majority_38 : decode cX10_majority 38 = .ok (.iinc 2 1, 3) := dk_132 (x := 2) (y := 1) (by decide +kernel) rfl
theorem dX10_majority_41 : decode cX10_majority 41 = .ok (.goto (-21), 3) := dk_167 (x := 255) (y := 235) (by decide +kernel) rfl
theorem dX10_majority_44 : decode cX10_majority 44 = .ok (.iload_n 1, 1) := dk_27 (by decide +kernel)
theorem dX10_majority_45 : decode cX10_majority 45 = .ok (.ireturn, 1) := dk_172 (by decide +kernel)
def f_X10_majority_20 : Nat → Nat → Int32 → Int32 → Mem → Option (Int32 × Mem)
  | 0, _, _, _, _ => none
  | n + 1, v0, v1, v2, M =>
    if v1 ≤ v2 then (
      some (v1, M)
      ) else (
      chk (isO M 10 v0) <|
      bnd (mR M v0 0) fun o4 =>
      chk (isO M 100 o4) <|
      obd (f_X10_majorityOf n v2 v1 M) fun r8 =>
      chk (inB ((2 : Int32) + v2) (mLn M o4)) <|
      bnd (sI M o4 (((2 : Int32) + v2)).toNatClampNeg r8) fun M10 =>
      bnd (v2 + (1 : Int32)) fun x14 =>
      f_X10_majority_20 n v0 v1 x14 M10
      )
def f_X10_majority (n : Nat) (o : Nat) (a1 : Int32) (M : Mem) : Option (Int32 × Mem) :=
  obd (f_X10_isIn a1 (2 : Int32) (16 : Int32) M) fun r2 =>
  if r2 = 0 then (
    some ((-1 : Int32), M)
    ) else (
    chk (isO M 10 o) <|
    obd (f_X10_begin n o a1 (0 : Int32) M) fun M7 =>
    f_X10_majority_20 n o a1 (0 : Int32) M7
    )
theorem cd_X10_majority : (yX10_majority.cls ≠ "java/lang/invoke/MethodHandle" ∧ yX10_majority.cls ≠ "java/lang/invoke/VarHandle") ∧ (parseMethodDescriptor yX10_majority.desc).map (fun d => d.parameters.length) = some 1 := ⟨⟨by decide +kernel, by decide +kernel⟩, by decide +kernel⟩
section
variable {p : Program} {l : Launch} {e : Env} {R : Room} {s : State} {m : MethodId} {args : Array Value} {below : List Frame} {meth : Method} {c : Code} {G : Gam} {M0 : Mem}
theorem l_X10_majority_20 {rv : (Int32 × Mem)} (X : Cx p R s m args c G M0 cX10_majority yX10_majority.cls 3 2 46) (hr : meth.sig.returnType = (some .int)) (hlk : meth.locks = false) (hnm : meth.name = "majority") : ∀ {n : Nat} (v0 : Nat) (v1 : Int32) (v2 : Int32) (M : Mem), f_X10_majority_20 n v0 v1 v2 M = some rv → Sg p l e R s m args below meth c (Qm below G args s (some (.int rv.1)) M0 rv.2) G M0 3 20 [(0, .ref (gB G + v0)), (1, .int v1), (2, .int v2)] [] M := by
  intro n
  induction n with
  | zero => intro v0 v1 v2 M hf; exact (pk_none hf).elim
  | succ n ih =>
    intro v0 v1 v2 M hf
    rw [f_X10_majority_20] at hf
    refine s_iload_n X 2 dX10_majority_20 rfl rfl ?_
    refine s_iload_n X 1 dX10_majority_21 rfl rfl ?_
    have hs1 := pk_ite hf
    clear hf
    refine s_icmp_ge X (tgt := 44) dX10_majority_22 rfl (fun c2 => ?_) (fun c2 => ?_)
    · have hf := hs1.1 c2
      refine s_iload_n X 1 dX10_majority_44 rfl rfl ?_
      cases hf
      exact s_iret X hr hlk dX10_majority_45
    · have hf := hs1.2 c2
      refine s_aload_n X 0 dX10_majority_25 rfl rfl ?_
      obtain ⟨h3, hf⟩ := pk_chk hf
      obtain ⟨o4, e5, hf⟩ := pk_bnd hf
      obtain ⟨h6, hf⟩ := pk_chk hf
      refine s_getR X (ci := 10) (k := 0) rfl (Nat.le_of_ble_eq_true rfl) h3 wd1440 (fun _ _ _ => rfl) (e5 ▸ h6) dX10_majority_26 (e5 ▸ ?_)
      refine s_iconst X (v := (2 : Int32)) dX10_majority_29 rfl ?_
      refine s_iload_n X 2 dX10_majority_30 rfl rfl ?_
      refine s_iadd X dX10_majority_31 ?_
      refine s_iload_n X 2 dX10_majority_32 rfl rfl ?_
      refine s_iload_n X 1 dX10_majority_33 rfl rfl ?_
      obtain ⟨r8, hc7, hf⟩ := pk_obd hf
      refine s_callS X (k_X10_majorityOf G hc7) wd1535 wd1536 wd1537 wd138 cd_X10_majorityOf ⟨Nat.le_of_ble_eq_true rfl, Nat.le_of_ble_eq_true rfl⟩ (Nat.le_of_ble_eq_true rfl) dX10_majority_34 ?_
      obtain ⟨h9, hf⟩ := pk_chk hf
      obtain ⟨M10, e11, hf⟩ := pk_bnd hf
      refine s_iast X h6 h9 e11 dX10_majority_37 ?_
      have h12 := io_sI e11 h3
      have h13 := io_sI e11 h6
      obtain ⟨x14, e15, hf⟩ := pk_bnd hf
      refine s_iinc X (vs' := [(0, .ref (gB G + v0)), (1, .int v1), (2, .int x14)]) 2 dX10_majority_38 rfl (v := x14) e15.symm (Nat.le_of_ble_eq_true rfl) [1, 2, 0] rfl ?_
      refine s_goto X (tgt := 20) dX10_majority_41 rfl ?_
      exact ih _ _ _ _ hf
end
theorem k_X10_majority (G : Gam) {n : Nat} {o : Nat} {a1 : Int32} {M : Mem} {rv : (Int32 × Mem)} (hf : f_X10_majority n o a1 M = some rv) : Kt yX10_majority cX10_majority 3 (some .int) 2 46 G [.ref (gB G + o), .int a1] M rv.2 (some (.int rv.1)) := by
  refine Kt.of (by decide) (Nat.le_of_ble_eq_true rfl) ?_
  intro p l e R s m args below meth c X hr hlk hnm
  refine s_drop [0, 1] (vs' := [(0, .ref (gB G + o)), (1, .int a1)]) rfl ?_
  rw [f_X10_majority] at hf
  refine s_iload_n X 1 dX10_majority_0 rfl rfl ?_
  refine s_iconst X (v := (2 : Int32)) dX10_majority_1 rfl ?_
  refine s_bipush X (v := (16 : Int32)) dX10_majority_2 rfl ?_
  obtain ⟨r2, hc1, hf⟩ := pk_obd hf
  refine s_callS X (k_X10_isIn G hc1) wd1520 wd1521 wd1522 wd138 cd_X10_isIn ⟨Nat.le_of_ble_eq_true rfl, Nat.le_of_ble_eq_true rfl⟩ (Nat.le_of_ble_eq_true rfl) dX10_majority_4 ?_
  have hs3 := pk_ite hf
  clear hf
  refine s_if_ne X (tgt := 12) dX10_majority_7 rfl (fun c4 => ?_) (fun c4 => ?_)
  · have hf := hs3.2 c4
    refine s_aload_n X 0 dX10_majority_12 rfl rfl ?_
    refine s_iload_n X 1 dX10_majority_13 rfl rfl ?_
    refine s_iconst X (v := (0 : Int32)) dX10_majority_14 rfl ?_
    obtain ⟨h5, hf⟩ := pk_chk hf
    obtain ⟨M7, hc6, hf⟩ := pk_obd hf
    refine s_callV X (ci := 10) (k_X10_begin G hc6) rfl h5 wd1429 wd1431 wd50 wd1432 wd138 cd_X10_begin ⟨Nat.le_of_ble_eq_true rfl, Nat.le_of_ble_eq_true rfl⟩ (Nat.le_of_ble_eq_true rfl) dX10_majority_15 ?_
    refine s_iconst X (v := (0 : Int32)) dX10_majority_18 rfl ?_
    refine s_istore_n X (vs' := [(0, .ref (gB G + o)), (1, .int a1), (2, .int (0 : Int32))]) dX10_majority_19 rfl (Nat.le_of_ble_eq_true rfl) [1, 2, 0] rfl ?_
    exact l_X10_majority_20 X hr hlk hnm _ _ _ _ hf
  · have hf := hs3.1 c4
    refine s_iconst X (v := (-1 : Int32)) dX10_majority_10 rfl ?_
    cases hf
    exact s_iret X hr hlk dX10_majority_11
theorem dX7_allNodes_0 : decode cX7_allNodes 0 = .ok (.iconst 1, 1) := dk_4 (by decide +kernel)
theorem dX7_allNodes_1 : decode cX7_allNodes 1 = .ok (.aload_n 0, 1) := dk_42 (by decide +kernel)
theorem dX7_allNodes_2 : decode cX7_allNodes 2 = .ok (.getfield 40, 3) := dk_180 (x := 0) (y := 40) (by decide +kernel) rfl
theorem dX7_allNodes_5 : decode cX7_allNodes 5 = .ok (.ishl, 1) := dk_120 (by decide +kernel)
theorem dX7_allNodes_6 : decode cX7_allNodes 6 = .ok (.iconst 1, 1) := dk_4 (by decide +kernel)
theorem dX7_allNodes_7 : decode cX7_allNodes 7 = .ok (.isub, 1) := dk_100 (by decide +kernel)
theorem dX7_allNodes_8 : decode cX7_allNodes 8 = .ok (.ireturn, 1) := dk_172 (by decide +kernel)
def f_X7_allNodes (o : Nat) (M : Mem) : Option Int32 :=
  chk (isO M 7 o) <|
  some (((1 : Int32) <<< ((mI M o 3) &&& 31)) - (1 : Int32))
theorem cd_X7_allNodes : (yX7_allNodes.cls ≠ "java/lang/invoke/MethodHandle" ∧ yX7_allNodes.cls ≠ "java/lang/invoke/VarHandle") ∧ (parseMethodDescriptor yX7_allNodes.desc).map (fun d => d.parameters.length) = some 0 := ⟨⟨by decide +kernel, by decide +kernel⟩, by decide +kernel⟩
theorem k_X7_allNodes (G : Gam) {o : Nat} {M : Mem} {rv : Int32} (hf : f_X7_allNodes o M = some rv) : Kt yX7_allNodes cX7_allNodes 1 (some .int) 0 0 G [.ref (gB G + o)] M M (some (.int rv)) := by
  refine Kt.of (by decide) (Nat.le_of_ble_eq_true rfl) ?_
  intro p l e R s m args below meth c X hr hlk hnm
  refine s_drop [0] (vs' := [(0, .ref (gB G + o))]) rfl ?_
  rw [f_X7_allNodes] at hf
  refine s_iconst X (v := (1 : Int32)) dX7_allNodes_0 rfl ?_
  refine s_aload_n X 0 dX7_allNodes_1 rfl rfl ?_
  obtain ⟨h1, hf⟩ := pk_chk hf
  refine s_getI X (ci := 7) (k := 3) rfl (Nat.le_of_ble_eq_true rfl) h1 wd169 (fun _ _ _ => rfl) dX7_allNodes_2 ?_
  refine s_ishl X dX7_allNodes_5 ?_
  refine s_iconst X (v := (1 : Int32)) dX7_allNodes_6 rfl ?_
  refine s_isub X dX7_allNodes_7 ?_
  cases hf
  exact s_iret X hr hlk dX7_allNodes_8
theorem dX7_makeWheel_0 : decode cX7_makeWheel 0 = .ok (.aload_n 0, 1) := dk_42 (by decide +kernel)
theorem dX7_makeWheel_1 : decode cX7_makeWheel 1 = .ok (.iload_n 1, 1) := dk_27 (by decide +kernel)
theorem dX7_makeWheel_2 : decode cX7_makeWheel 2 = .ok (.invokevirtual 21, 3) := dk_182 (x := 0) (y := 21) (by decide +kernel) rfl
theorem dX7_makeWheel_5 : decode cX7_makeWheel 5 = .ok (.aload_n 0, 1) := dk_42 (by decide +kernel)
theorem dX7_makeWheel_6 : decode cX7_makeWheel 6 = .ok (.getfield 9, 3) := dk_180 (x := 0) (y := 9) (by decide +kernel) rfl
theorem dX7_makeWheel_9 : decode cX7_makeWheel 9 = .ok (.iconst 0, 1) := dk_3 (by decide +kernel)
theorem dX7_makeWheel_10 : decode cX7_makeWheel 10 = .ok (.aload_n 0, 1) := dk_42 (by decide +kernel)
theorem dX7_makeWheel_11 : decode cX7_makeWheel 11 = .ok (.invokevirtual 32, 3) := dk_182 (x := 0) (y := 32) (by decide +kernel) rfl
theorem dX7_makeWheel_14 : decode cX7_makeWheel 14 = .ok (.bipush (-2), 2) := dk_16 (x := 254) (by decide +kernel) rfl
theorem dX7_makeWheel_16 : decode cX7_makeWheel 16 = .ok (.iand, 1) := dk_126 (by decide +kernel)
theorem dX7_makeWheel_17 : decode cX7_makeWheel 17 = .ok (.iastore, 1) := dk_79 (by decide +kernel)
theorem dX7_makeWheel_18 : decode cX7_makeWheel 18 = .ok (.iconst 1, 1) := dk_4 (by decide +kernel)
theorem dX7_makeWheel_19 : decode cX7_makeWheel 19 = .ok (.istore_n 2, 1) := dk_61 (by decide +kernel)
theorem dX7_makeWheel_20 : decode cX7_makeWheel 20 = .ok (.iload_n 2, 1) := dk_28 (by decide +kernel)
theorem dX7_makeWheel_21 : decode cX7_makeWheel 21 = .ok (.iload_n 1, 1) := dk_27 (by decide +kernel)
theorem dX7_makeWheel_22 : decode cX7_makeWheel 22 = .ok (.if_icmp .ge 20, 3) := dk_162 (x := 0) (y := 20) (by decide +kernel) rfl
theorem dX7_makeWheel_25 : decode cX7_makeWheel 25 = .ok (.aload_n 0, 1) := dk_42 (by decide +kernel)
theorem dX7_makeWheel_26 : decode cX7_makeWheel 26 = .ok (.getfield 9, 3) := dk_180 (x := 0) (y := 9) (by decide +kernel) rfl
theorem dX7_makeWheel_29 : decode cX7_makeWheel 29 = .ok (.iload_n 2, 1) := dk_28 (by decide +kernel)
theorem dX7_makeWheel_30 : decode cX7_makeWheel 30 = .ok (.iconst 1, 1) := dk_4 (by decide +kernel)
theorem dX7_makeWheel_31 : decode cX7_makeWheel 31 = .ok (.iconst 1, 1) := dk_4 (by decide +kernel)
theorem dX7_makeWheel_32 : decode cX7_makeWheel 32 = .ok (.iload_n 2, 1) := dk_28 (by decide +kernel)
theorem dX7_makeWheel_33 : decode cX7_makeWheel 33 = .ok (.ishl, 1) := dk_120 (by decide +kernel)
theorem dX7_makeWheel_34 : decode cX7_makeWheel 34 = .ok (.ior, 1) := dk_128 (by decide +kernel)
theorem dX7_makeWheel_35 : decode cX7_makeWheel 35 = .ok (.iastore, 1) := dk_79 (by decide +kernel)
theorem dX7_makeWheel_36 : decode cX7_makeWheel 36 = .ok (.iinc 2 1, 3) := dk_132 (x := 2) (y := 1) (by decide +kernel) rfl
theorem dX7_makeWheel_39 : decode cX7_makeWheel 39 = .ok (.goto (-19), 3) := dk_167 (x := 255) (y := 237) (by decide +kernel) rfl
theorem dX7_makeWheel_42 : decode cX7_makeWheel 42 = .ok (.return_, 1) := dk_177 (by decide +kernel)
def f_X7_makeWheel_20 : Nat → Nat → Int32 → Int32 → Mem → Option Mem
  | 0, _, _, _, _ => none
  | n + 1, v0, v1, v2, M =>
    if v1 ≤ v2 then (
      some M
      ) else (
      chk (isO M 7 v0) <|
      bnd (mR M v0 0) fun o4 =>
      chk (isO M 100 o4) <|
      chk (inB v2 (mLn M o4)) <|
      bnd (sI M o4 (v2).toNatClampNeg ((1 : Int32) ||| ((1 : Int32) <<< (v2 &&& 31)))) fun M8 =>
      bnd (v2 + (1 : Int32)) fun x12 =>
      f_X7_makeWheel_20 n v0 v1 x12 M8
      )
def f_X7_makeWheel (n : Nat) (o : Nat) (a1 : Int32) (M : Mem) : Option Mem :=
  chk (isO M 7 o) <|
  obd (f_X7_begin n o a1 M) fun M3 =>
  chk (isO M3 7 o) <|
  bnd (mR M3 o 0) fun o5 =>
  chk (isO M3 100 o5) <|
  obd (f_X7_allNodes o M3) fun r9 =>
  chk (inB (0 : Int32) (mLn M3 o5)) <|
  bnd (sI M3 o5 ((0 : Int32)).toNatClampNeg (r9 &&& (-2 : Int32))) fun M11 =>
  f_X7_makeWheel_20 n o a1 (1 : Int32) M11
theorem cd_X7_makeWheel : (yX7_makeWheel.cls ≠ "java/lang/invoke/MethodHandle" ∧ yX7_makeWheel.cls ≠ "java/lang/invoke/VarHandle") ∧ (parseMethodDescriptor yX7_makeWheel.desc).map (fun d => d.parameters.length) = some 1 := ⟨⟨by decide +kernel, by decide +kernel⟩, by decide +kernel⟩
section
variable {p : Program} {l : Launch} {e : Env} {R : Room} {s : State} {m : MethodId} {args : Array Value} {below : List Frame} {meth : Method} {c : Code} {G : Gam} {M0 : Mem}
theorem l_X7_makeWheel_20 {rv : Mem} (X : Cx p R s m args c G M0 cX7_makeWheel yX7_makeWheel.cls 3 2 44) (hr : meth.sig.returnType = none) (hlk : meth.locks = false) (hnm : meth.name = "makeWheel") : ∀ {n : Nat} (v0 : Nat) (v1 : Int32) (v2 : Int32) (M : Mem), f_X7_makeWheel_20 n v0 v1 v2 M = some rv → Sg p l e R s m args below meth c (Qm below G args s none M0 rv) G M0 3 20 [(0, .ref (gB G + v0)), (1, .int v1), (2, .int v2)] [] M := by
  intro n
  induction n with
  | zero => intro v0 v1 v2 M hf; exact (pk_none hf).elim
  | succ n ih =>
    intro v0 v1 v2 M hf
    rw [f_X7_makeWheel_20] at hf
    refine s_iload_n X 2 dX7_makeWheel_20 rfl rfl ?_
    refine s_iload_n X 1 dX7_makeWheel_21 rfl rfl ?_
    have hs1 := pk_ite hf
    clear hf
    refine s_icmp_ge X (tgt := 42) dX7_makeWheel_22 rfl (fun c2 => ?_) (fun c2 => ?_)
    · have hf := hs1.1 c2
      cases hf
      exact s_vret X hr hlk dX7_makeWheel_42
    · have hf := hs1.2 c2
      refine s_aload_n X 0 dX7_makeWheel_25 rfl rfl ?_
      obtain ⟨h3, hf⟩ := pk_chk hf
      obtain ⟨o4, e5, hf⟩ := pk_bnd hf
      obtain ⟨h6, hf⟩ := pk_chk hf
      refine s_getR X (ci := 7) (k := 0) rfl (Nat.le_of_ble_eq_true rfl) h3 wd159 (fun _ _ _ => rfl) (e5 ▸ h6) dX7_makeWheel_26 (e5 ▸ ?_)
      refine s_iload_n X 2 dX7_makeWheel_29 rfl rfl ?_
      refine s_iconst X (v := (1 : Int32)) dX7_makeWheel_30 rfl ?_
      refine s_iconst X (v := (1 : Int32)) dX7_makeWheel_31 rfl ?_
      refine s_iload_n X 2 dX7_makeWheel_32 rfl rfl ?_
      refine s_ishl X dX7_makeWheel_33 ?_
      refine s_ior X dX7_makeWheel_34 ?_
      obtain ⟨h7, hf⟩ := pk_chk hf
      obtain ⟨M8, e9, hf⟩ := pk_bnd hf
      refine s_iast X h6 h7 e9 dX7_makeWheel_35 ?_
      have h10 := io_sI e9 h3
      have h11 := io_sI e9 h6
      obtain ⟨x12, e13, hf⟩ := pk_bnd hf
      refine s_iinc X (vs' := [(0, .ref (gB G + v0)), (1, .int v1), (2, .int x12)]) 2 dX7_makeWheel_36 rfl (v := x12) e13.symm (Nat.le_of_ble_eq_true rfl) [1, 2, 0] rfl ?_
      refine s_goto X (tgt := 20) dX7_makeWheel_39 rfl ?_
      exact ih _ _ _ _ hf
end
theorem k_X7_makeWheel (G : Gam) {n : Nat} {o : Nat} {a1 : Int32} {M : Mem} {rv : Mem} (hf : f_X7_makeWheel n o a1 M = some rv) : Kt yX7_makeWheel cX7_makeWheel 3 none 2 44 G [.ref (gB G + o), .int a1] M rv none := by
  refine Kt.of (by decide) (Nat.le_of_ble_eq_true rfl) ?_
  intro p l e R s m args below meth c X hr hlk hnm
  refine s_drop [0, 1] (vs' := [(0, .ref (gB G + o)), (1, .int a1)]) rfl ?_
  rw [f_X7_makeWheel] at hf
  refine s_aload_n X 0 dX7_makeWheel_0 rfl rfl ?_
  refine s_iload_n X 1 dX7_makeWheel_1 rfl rfl ?_
  obtain ⟨h1, hf⟩ := pk_chk hf
  obtain ⟨M3, hc2, hf⟩ := pk_obd hf
  refine s_callV X (ci := 7) (k_X7_begin G hc2) rfl h1 wd575 wd577 wd0 wd578 wd127 cd_X7_begin ⟨Nat.le_of_ble_eq_true rfl, Nat.le_of_ble_eq_true rfl⟩ (Nat.le_of_ble_eq_true rfl) dX7_makeWheel_2 ?_
  refine s_aload_n X 0 dX7_makeWheel_5 rfl rfl ?_
  obtain ⟨h4, hf⟩ := pk_chk hf
  obtain ⟨o5, e6, hf⟩ := pk_bnd hf
  obtain ⟨h7, hf⟩ := pk_chk hf
  refine s_getR X (ci := 7) (k := 0) rfl (Nat.le_of_ble_eq_true rfl) h4 wd159 (fun _ _ _ => rfl) (e6 ▸ h7) dX7_makeWheel_6 (e6 ▸ ?_)
  refine s_iconst X (v := (0 : Int32)) dX7_makeWheel_9 rfl ?_
  refine s_aload_n X 0 dX7_makeWheel_10 rfl rfl ?_
  obtain ⟨r9, hc8, hf⟩ := pk_obd hf
  refine s_callV X (ci := 7) (k_X7_allNodes G hc8) rfl h4 wd683 wd684 wd685 wd686 wd127 cd_X7_allNodes ⟨Nat.le_of_ble_eq_true rfl, Nat.le_of_ble_eq_true rfl⟩ (Nat.le_of_ble_eq_true rfl) dX7_makeWheel_11 ?_
  refine s_bipush X (v := (-2 : Int32)) dX7_makeWheel_14 rfl ?_
  refine s_iand X dX7_makeWheel_16 ?_
  obtain ⟨h10, hf⟩ := pk_chk hf
  obtain ⟨M11, e12, hf⟩ := pk_bnd hf
  refine s_iast X h7 h10 e12 dX7_makeWheel_17 ?_
  have h13 := io_sI e12 h4
  have h14 := io_sI e12 h7
  refine s_iconst X (v := (1 : Int32)) dX7_makeWheel_18 rfl ?_
  refine s_istore_n X (vs' := [(0, .ref (gB G + o)), (1, .int a1), (2, .int (1 : Int32))]) dX7_makeWheel_19 rfl (Nat.le_of_ble_eq_true rfl) [1, 2, 0] rfl ?_
  exact l_X7_makeWheel_20 X hr hlk hnm _ _ _ _ hf
theorem dX9_wheel_0 : decode cX9_wheel 0 = .ok (.iload_n 1, 1) := dk_27 (by decide +kernel)
theorem dX9_wheel_1 : decode cX9_wheel 1 = .ok (.iconst 3, 1) := dk_6 (by decide +kernel)
theorem dX9_wheel_2 : decode cX9_wheel 2 = .ok (.if_icmp .lt 9, 3) := dk_161 (x := 0) (y := 9) (by decide +kernel) rfl
theorem dX9_wheel_5 : decode cX9_wheel 5 = .ok (.iload_n 1, 1) := dk_27 (by decide +kernel)
theorem dX9_wheel_6 : decode cX9_wheel 6 = .ok (.bipush 16, 2) := dk_16 (x := 16) (by decide +kernel) rfl
theorem dX9_wheel_8 : decode cX9_wheel 8 = .ok (.if_icmp .le 5, 3) := dk_164 (x := 0) (y := 5) (by decide +kernel) rfl
theorem dX9_wheel_11 : decode cX9_wheel 11 = .ok (.iconst (-1), 1) := dk_2 (by decide +kernel)
theorem dX9_wheel_12 : decode cX9_wheel 12 = .ok (.ireturn, 1) := dk_172 (by decide +kernel)
theorem dX9_wheel_13 : decode cX9_wheel 13 = .ok (.aload_n 0, 1) := dk_42 (by decide +kernel)
theorem dX9_wheel_14 : decode cX9_wheel 14 = .ok (.getfield 10, 3) := dk_180 (x := 0) (y := 10) (by decide +kernel) rfl
theorem dX9_wheel_17 : decode cX9_wheel 17 = .ok (.iload_n 1, 1) := dk_27 (by decide +kernel)
theorem dX9_wheel_18 : decode cX9_wheel 18 = .ok (.invokevirtual 65, 3) := dk_182 (x := 0) (y := 65) (by decide +kernel) rfl
theorem dX9_wheel_21 : decode cX9_wheel 21 = .ok (.aload_n 0, 1) := dk_42 (by decide +kernel)
theorem dX9_wheel_22 : decode cX9_wheel 22 = .ok (.invokevirtual 55, 3) := dk_182 (x := 0) (y := 55) (by decide +kernel) rfl
theorem dX9_wheel_25 : decode cX9_wheel 25 = .ok (.ireturn, 1) := dk_172 (by decide +kernel)
def f_X9_wheel (n : Nat) (o : Nat) (a1 : Int32) (M : Mem) : Option (Int32 × Mem) :=
  if a1 < (3 : Int32) then (
    some ((-1 : Int32), M)
    ) else (
    if a1 ≤ (16 : Int32) then (
      chk (isO M 9 o) <|
      bnd (mR M o 0) fun o6 =>
      chk (isO M 7 o6) <|
      obd (f_X7_makeWheel n o6 a1 M) fun M10 =>
      chk (isO M10 9 o) <|
      obd2 (f_X9_startAnew n o M10) fun r13 M14 =>
      some (r13, M14)
      ) else (
      some ((-1 : Int32), M)
      )
    )
theorem cd_X9_wheel : (yX9_wheel.cls ≠ "java/lang/invoke/MethodHandle" ∧ yX9_wheel.cls ≠ "java/lang/invoke/VarHandle") ∧ (parseMethodDescriptor yX9_wheel.desc).map (fun d => d.parameters.length) = some 1 := ⟨⟨by decide +kernel, by decide +kernel⟩, by decide +kernel⟩
theorem k_X9_wheel (G : Gam) {n : Nat} {o : Nat} {a1 : Int32} {M : Mem} {rv : (Int32 × Mem)} (hf : f_X9_wheel n o a1 M = some rv) : Kt yX9_wheel cX9_wheel 2 (some .int) 5 104 G [.ref (gB G + o), .int a1] M rv.2 (some (.int rv.1)) := by
  refine Kt.of (by decide) (Nat.le_of_ble_eq_true rfl) ?_
  intro p l e R s m args below meth c X hr hlk hnm
  refine s_drop [0, 1] (vs' := [(0, .ref (gB G + o)), (1, .int a1)]) rfl ?_
  rw [f_X9_wheel] at hf
  refine s_iload_n X 1 dX9_wheel_0 rfl rfl ?_
  refine s_iconst X (v := (3 : Int32)) dX9_wheel_1 rfl ?_
  have hs1 := pk_ite hf
  clear hf
  refine s_icmp_lt X (tgt := 11) dX9_wheel_2 rfl (fun c2 => ?_) (fun c2 => ?_)
  · have hf := hs1.1 c2
    refine s_iconst X (v := (-1 : Int32)) dX9_wheel_11 rfl ?_
    cases hf
    exact s_iret X hr hlk dX9_wheel_12
  · have hf := hs1.2 c2
    refine s_iload_n X 1 dX9_wheel_5 rfl rfl ?_
    refine s_bipush X (v := (16 : Int32)) dX9_wheel_6 rfl ?_
    have hs3 := pk_ite hf
    clear hf
    refine s_icmp_le X (tgt := 13) dX9_wheel_8 rfl (fun c4 => ?_) (fun c4 => ?_)
    · have hf := hs3.1 c4
      refine s_aload_n X 0 dX9_wheel_13 rfl rfl ?_
      obtain ⟨h5, hf⟩ := pk_chk hf
      obtain ⟨o6, e7, hf⟩ := pk_bnd hf
      obtain ⟨h8, hf⟩ := pk_chk hf
      refine s_getR X (ci := 9) (k := 0) rfl (Nat.le_of_ble_eq_true rfl) h5 wd627 (fun _ _ _ => rfl) (e7 ▸ h8) dX9_wheel_14 (e7 ▸ ?_)
      refine s_iload_n X 1 dX9_wheel_17 rfl rfl ?_
      obtain ⟨M10, hc9, hf⟩ := pk_obd hf
      refine s_callV X (ci := 7) (k_X7_makeWheel G hc9) rfl h8 wd679 wd680 wd681 wd682 wd127 cd_X7_makeWheel ⟨Nat.le_of_ble_eq_true rfl, Nat.le_of_ble_eq_true rfl⟩ (Nat.le_of_ble_eq_true rfl) dX9_wheel_18 ?_
      refine s_aload_n X 0 dX9_wheel_21 rfl rfl ?_
      obtain ⟨h11, hf⟩ := pk_chk hf
      obtain ⟨r13, M14, hc12, hf⟩ := pk_obd2 hf
      refine s_callV X (ci := 9) (k_X9_startAnew G hc12) rfl h11 wd582 wd584 wd1 wd585 wd126 cd_X9_startAnew ⟨Nat.le_of_ble_eq_true rfl, Nat.le_of_ble_eq_true rfl⟩ (Nat.le_of_ble_eq_true rfl) dX9_wheel_22 ?_
      cases hf
      exact s_iret X hr hlk dX9_wheel_25
    · have hf := hs3.2 c4
      refine s_iconst X (v := (-1 : Int32)) dX9_wheel_11 rfl ?_
      cases hf
      exact s_iret X hr hlk dX9_wheel_12
theorem dX10_all_0 : decode cX10_all 0 = .ok (.iconst 1, 1) := dk_4 (by decide +kernel)
theorem dX10_all_1 : decode cX10_all 1 = .ok (.aload_n 0, 1) := dk_42 (by decide +kernel)
theorem dX10_all_2 : decode cX10_all 2 = .ok (.getfield 7, 3) := dk_180 (x := 0) (y := 7) (by decide +kernel) rfl
theorem dX10_all_5 : decode cX10_all 5 = .ok (.iconst 0, 1) := dk_3 (by decide +kernel)
theorem dX10_all_6 : decode cX10_all 6 = .ok (.iaload, 1) := dk_46 (by decide +kernel)
theorem dX10_all_7 : decode cX10_all 7 = .ok (.ishl, 1) := dk_120 (by decide +kernel)
theorem dX10_all_8 : decode cX10_all 8 = .ok (.iconst 1, 1) := dk_4 (by decide +kernel)
theorem dX10_all_9 : decode cX10_all 9 = .ok (.isub, 1) := dk_100 (by decide +kernel)
theorem dX10_all_10 : decode cX10_all 10 = .ok (.ireturn, 1) := dk_172 (by decide +kernel)
def f_X10_all (o : Nat) (M : Mem) : Option Int32 :=
  chk (isO M 10 o) <|
  bnd (mR M o 0) fun o2 =>
  chk (isO M 100 o2) <|
  chk (inB (0 : Int32) (mLn M o2)) <|
  some (((1 : Int32) <<< ((mI M o2 ((0 : Int32)).toNatClampNeg) &&& 31)) - (1 : Int32))
theorem cd_X10_all : (yX10_all.cls ≠ "java/lang/invoke/MethodHandle" ∧ yX10_all.cls ≠ "java/lang/invoke/VarHandle") ∧ (parseMethodDescriptor yX10_all.desc).map (fun d => d.parameters.length) = some 0 := ⟨⟨by decide +kernel, by decide +kernel⟩, by decide +kernel⟩
theorem k_X10_all (G : Gam) {o : Nat} {M : Mem} {rv : Int32} (hf : f_X10_all o M = some rv) : Kt yX10_all cX10_all 1 (some .int) 0 0 G [.ref (gB G + o)] M M (some (.int rv)) := by
  refine Kt.of (by decide) (Nat.le_of_ble_eq_true rfl) ?_
  intro p l e R s m args below meth c X hr hlk hnm
  refine s_drop [0] (vs' := [(0, .ref (gB G + o))]) rfl ?_
  rw [f_X10_all] at hf
  refine s_iconst X (v := (1 : Int32)) dX10_all_0 rfl ?_
  refine s_aload_n X 0 dX10_all_1 rfl rfl ?_
  obtain ⟨h1, hf⟩ := pk_chk hf
  obtain ⟨o2, e3, hf⟩ := pk_bnd hf
  obtain ⟨h4, hf⟩ := pk_chk hf
  refine s_getR X (ci := 10) (k := 0) rfl (Nat.le_of_ble_eq_true rfl) h1 wd1440 (fun _ _ _ => rfl) (e3 ▸ h4) dX10_all_2 (e3 ▸ ?_)
  refine s_iconst X (v := (0 : Int32)) dX10_all_5 rfl ?_
  obtain ⟨h5, hf⟩ := pk_chk hf
  refine s_iald X h4 h5 dX10_all_6 ?_
  refine s_ishl X dX10_all_7 ?_
  refine s_iconst X (v := (1 : Int32)) dX10_all_8 rfl ?_
  refine s_isub X dX10_all_9 ?_
  cases hf
  exact s_iret X hr hlk dX10_all_10
theorem dX10_wheel_0 : decode cX10_wheel 0 = .ok (.iload_n 1, 1) := dk_27 (by decide +kernel)
theorem dX10_wheel_1 : decode cX10_wheel 1 = .ok (.iconst 3, 1) := dk_6 (by decide +kernel)
theorem dX10_wheel_2 : decode cX10_wheel 2 = .ok (.bipush 16, 2) := dk_16 (x := 16) (by decide +kernel) rfl
theorem dX10_wheel_4 : decode cX10_wheel 4 = .ok (.invokestatic 49, 3) := dk_184 (x := 0) (y := 49) (by decide +kernel) rfl
theorem dX10_wheel_7 : decode cX10_wheel 7 = .ok (.ifCond .ne 5, 3) := dk_154 (x := 0) (y := 5) (by decide +kernel) rfl
theorem dX10_wheel_10 : decode cX10_wheel 10 = .ok (.iconst (-1), 1) := dk_2 (by decide +kernel)
theorem dX10_wheel_11 : decode cX10_wheel 11 = .ok (.ireturn, 1) := dk_172 (by decide +kernel)
theorem dX10_wheel_12 : decode cX10_wheel 12 = .ok (.aload_n 0, 1) := dk_42 (by decide +kernel)
theorem dX10_wheel_13 : decode cX10_wheel 13 = .ok (.iload_n 1, 1) := dk_27 (by decide +kernel)
theorem dX10_wheel_14 : decode cX10_wheel 14 = .ok (.iconst 0, 1) := dk_3 (by decide +kernel)
theorem dX10_wheel_15 : decode cX10_wheel 15 = .ok (.invokevirtual 60, 3) := dk_182 (x := 0) (y := 60) (by decide +kernel) rfl
theorem dX10_wheel_18 : decode cX10_wheel 18 = .ok (.aload_n 0, 1) := dk_42 (by decide +kernel)
theorem dX10_wheel_19 : decode cX10_wheel 19 = .ok (.getfield 7, 3) := dk_180 (x := 0) (y := 7) (by decide +kernel) rfl
theorem dX10_wheel_22 : decode cX10_wheel 22 = .ok (.iconst 2, 1) := dk_5 (by decide +kernel)
theorem dX10_wheel_23 : decode cX10_wheel 23 = .ok (.aload_n 0, 1) := dk_42 (by decide +kernel)
theorem dX10_wheel_24 : decode cX10_wheel 24 = .ok (.invokevirtual 72, 3) := dk_182 (x := 0) (y := 72) (by decide +kernel) rfl
theorem dX10_wheel_27 : decode cX10_wheel 27 = .ok (.iconst 1, 1) := dk_4 (by decide +kernel)
theorem dX10_wheel_28 : decode cX10_wheel 28 = .ok (.isub, 1) := dk_100 (by decide +kernel)
theorem dX10_wheel_29 : decode cX10_wheel 29 = .ok (.iastore, 1) := dk_79 (by decide +kernel)
theorem dX10_wheel_30 : decode cX10_wheel 30 = .ok (.iconst 1, 1) := dk_4 (by decide +kernel)
theorem dX10_wheel_31 : decode cX10_wheel 31 = .ok (.istore_n 2, 1) := dk_61 (by decide +kernel)
theorem dX10_wheel_32 : decode cX10_wheel 32 = .ok (.iload_n 2, 1) := dk_28 (by decide +kernel)
theorem dX10_wheel_33 : decode cX10_wheel 33 = .ok (.iload_n 1, 1) := dk_27 (by decide +kernel)
theorem dX10_wheel_34 : decode cX10_wheel 34 = .ok (.if_icmp .ge 22, 3) := dk_162 (x := 0) (y := 22) (by decide +kernel) rfl
theorem dX10_wheel_37 : decode cX10_wheel 37 = .ok (.aload_n 0, 1) := dk_42 (by decide +kernel)
theorem dX10_wheel_38 : decode cX10_wheel 38 = .ok (.getfield 7, 3) := dk_180 (x := 0) (y := 7) (by decide +kernel) rfl
theorem dX10_wheel_41 : decode cX10_wheel 41 = .ok (.iconst 2, 1) := dk_5 (by decide +kernel)
theorem dX10_wheel_42 : decode cX10_wheel 42 = .ok (.iload_n 2, 1) := dk_28 (by decide +kernel)
theorem dX10_wheel_43 : decode cX10_wheel 43 = .ok (.iadd, 1) := dk_96 (by decide +kernel)
theorem dX10_wheel_44 : decode cX10_wheel 44 = .ok (.iconst 1, 1) := dk_4 (by decide +kernel)
theorem dX10_wheel_45 : decode cX10_wheel 45 = .ok (.iload_n 2, 1) := dk_28 (by decide +kernel)
theorem dX10_wheel_46 : decode cX10_wheel 46 = .ok (.ishl, 1) := dk_120 (by decide +kernel)
theorem dX10_wheel_47 : decode cX10_wheel 47 = .ok (.iconst 1, 1) := dk_4 (by decide +kernel)
theorem dX10_wheel_48 : decode cX10_wheel 48 = .ok (.ior, 1) := dk_128 (by decide +kernel)
theorem dX10_wheel_49 : decode cX10_wheel 49 = .ok (.iastore, 1) := dk_79 (by decide +kernel)
theorem dX10_wheel_50 : decode cX10_wheel 50 = .ok (.iinc 2 1, 3) := dk_132 (x := 2) (y := 1) (by decide +kernel) rfl
theorem dX10_wheel_53 : decode cX10_wheel 53 = .ok (.goto (-21), 3) := dk_167 (x := 255) (y := 235) (by decide +kernel) rfl
theorem dX10_wheel_56 : decode cX10_wheel 56 = .ok (.iload_n 1, 1) := dk_27 (by decide +kernel)
theorem dX10_wheel_57 : decode cX10_wheel 57 = .ok (.ireturn, 1) := dk_172 (by decide +kernel)
def f_X10_wheel_32 : Nat → Nat → Int32 → Int32 → Mem → Option (Int32 × Mem)
  | 0, _, _, _, _ => none
  | n + 1, v0, v1, v2, M =>
    if v1 ≤ v2 then (
      some (v1, M)
      ) else (
      chk (isO M 10 v0) <|
      bnd (mR M v0 0) fun o4 =>
      chk (isO M 100 o4) <|
      chk (inB ((2 : Int32) + v2) (mLn M o4)) <|
      bnd (sI M o4 (((2 : Int32) + v2)).toNatClampNeg (((1 : Int32) <<< (v2 &&& 31)) ||| (1 : Int32))) fun M8 =>
      bnd (v2 + (1 : Int32)) fun x12 =>
      f_X10_wheel_32 n v0 v1 x12 M8
      )
def f_X10_wheel (n : Nat) (o : Nat) (a1 : Int32) (M : Mem) : Option (Int32 × Mem) :=
  obd (f_X10_isIn a1 (3 : Int32) (16 : Int32) M) fun r2 =>
  if r2 = 0 then (
    some ((-1 : Int32), M)
    ) else (
    chk (isO M 10 o) <|
    obd (f_X10_begin n o a1 (0 : Int32) M) fun M7 =>
    chk (isO M7 10 o) <|
    bnd (mR M7 o 0) fun o9 =>
    chk (isO M7 100 o9) <|
    obd (f_X10_all o M7) fun r13 =>
    chk (inB (2 : Int32) (mLn M7 o9)) <|
    bnd (sI M7 o9 ((2 : Int32)).toNatClampNeg (r13 - (1 : Int32))) fun M15 =>
    f_X10_wheel_32 n o a1 (1 : Int32) M15
    )
theorem cd_X10_wheel : (yX10_wheel.cls ≠ "java/lang/invoke/MethodHandle" ∧ yX10_wheel.cls ≠ "java/lang/invoke/VarHandle") ∧ (parseMethodDescriptor yX10_wheel.desc).map (fun d => d.parameters.length) = some 1 := ⟨⟨by decide +kernel, by decide +kernel⟩, by decide +kernel⟩
section
variable {p : Program} {l : Launch} {e : Env} {R : Room} {s : State} {m : MethodId} {args : Array Value} {below : List Frame} {meth : Method} {c : Code} {G : Gam} {M0 : Mem}
theorem l_X10_wheel_32 {rv : (Int32 × Mem)} (X : Cx p R s m args c G M0 cX10_wheel yX10_wheel.cls 3 2 46) (hr : meth.sig.returnType = (some .int)) (hlk : meth.locks = false) (hnm : meth.name = "wheel") : ∀ {n : Nat} (v0 : Nat) (v1 : Int32) (v2 : Int32) (M : Mem), f_X10_wheel_32 n v0 v1 v2 M = some rv → Sg p l e R s m args below meth c (Qm below G args s (some (.int rv.1)) M0 rv.2) G M0 3 32 [(0, .ref (gB G + v0)), (1, .int v1), (2, .int v2)] [] M := by
  intro n
  induction n with
  | zero => intro v0 v1 v2 M hf; exact (pk_none hf).elim
  | succ n ih =>
    intro v0 v1 v2 M hf
    rw [f_X10_wheel_32] at hf
    refine s_iload_n X 2 dX10_wheel_32 rfl rfl ?_
    refine s_iload_n X 1 dX10_wheel_33 rfl rfl ?_
    have hs1 := pk_ite hf
    clear hf
    refine s_icmp_ge X (tgt := 56) dX10_wheel_34 rfl (fun c2 => ?_) (fun c2 => ?_)
    · have hf := hs1.1 c2
      refine s_iload_n X 1 dX10_wheel_56 rfl rfl ?_
      cases hf
      exact s_iret X hr hlk dX10_wheel_57
    · have hf := hs1.2 c2
      refine s_aload_n X 0 dX10_wheel_37 rfl rfl ?_
      obtain ⟨h3, hf⟩ := pk_chk hf
      obtain ⟨o4, e5, hf⟩ := pk_bnd hf
      obtain ⟨h6, hf⟩ := pk_chk hf
      refine s_getR X (ci := 10) (k := 0) rfl (Nat.le_of_ble_eq_true rfl) h3 wd1440 (fun _ _ _ => rfl) (e5 ▸ h6) dX10_wheel_38 (e5 ▸ ?_)
      refine s_iconst X (v := (2 : Int32)) dX10_wheel_41 rfl ?_
      refine s_iload_n X 2 dX10_wheel_42 rfl rfl ?_
      refine s_iadd X dX10_wheel_43 ?_
      refine s_iconst X (v := (1 : Int32)) dX10_wheel_44 rfl ?_
      refine s_iload_n X 2 dX10_wheel_45 rfl rfl ?_
      refine s_ishl X dX10_wheel_46 ?_
      refine s_iconst X (v := (1 : Int32)) dX10_wheel_47 rfl ?_
      refine s_ior X dX10_wheel_48 ?_
      obtain ⟨h7, hf⟩ := pk_chk hf
      obtain ⟨M8, e9, hf⟩ := pk_bnd hf
      refine s_iast X h6 h7 e9 dX10_wheel_49 ?_
      have h10 := io_sI e9 h3
      have h11 := io_sI e9 h6
      obtain ⟨x12, e13, hf⟩ := pk_bnd hf
      refine s_iinc X (vs' := [(0, .ref (gB G + v0)), (1, .int v1), (2, .int x12)]) 2 dX10_wheel_50 rfl (v := x12) e13.symm (Nat.le_of_ble_eq_true rfl) [1, 2, 0] rfl ?_
      refine s_goto X (tgt := 32) dX10_wheel_53 rfl ?_
      exact ih _ _ _ _ hf
end
theorem k_X10_wheel (G : Gam) {n : Nat} {o : Nat} {a1 : Int32} {M : Mem} {rv : (Int32 × Mem)} (hf : f_X10_wheel n o a1 M = some rv) : Kt yX10_wheel cX10_wheel 3 (some .int) 2 46 G [.ref (gB G + o), .int a1] M rv.2 (some (.int rv.1)) := by
  refine Kt.of (by decide) (Nat.le_of_ble_eq_true rfl) ?_
  intro p l e R s m args below meth c X hr hlk hnm
  refine s_drop [0, 1] (vs' := [(0, .ref (gB G + o)), (1, .int a1)]) rfl ?_
  rw [f_X10_wheel] at hf
  refine s_iload_n X 1 dX10_wheel_0 rfl rfl ?_
  refine s_iconst X (v := (3 : Int32)) dX10_wheel_1 rfl ?_
  refine s_bipush X (v := (16 : Int32)) dX10_wheel_2 rfl ?_
  obtain ⟨r2, hc1, hf⟩ := pk_obd hf
  refine s_callS X (k_X10_isIn G hc1) wd1520 wd1521 wd1522 wd138 cd_X10_isIn ⟨Nat.le_of_ble_eq_true rfl, Nat.le_of_ble_eq_true rfl⟩ (Nat.le_of_ble_eq_true rfl) dX10_wheel_4 ?_
  have hs3 := pk_ite hf
  clear hf
  refine s_if_ne X (tgt := 12) dX10_wheel_7 rfl (fun c4 => ?_) (fun c4 => ?_)
  · have hf := hs3.2 c4
    refine s_aload_n X 0 dX10_wheel_12 rfl rfl ?_
    refine s_iload_n X 1 dX10_wheel_13 rfl rfl ?_
    refine s_iconst X (v := (0 : Int32)) dX10_wheel_14 rfl ?_
    obtain ⟨h5, hf⟩ := pk_chk hf
    obtain ⟨M7, hc6, hf⟩ := pk_obd hf
    refine s_callV X (ci := 10) (k_X10_begin G hc6) rfl h5 wd1429 wd1431 wd50 wd1432 wd138 cd_X10_begin ⟨Nat.le_of_ble_eq_true rfl, Nat.le_of_ble_eq_true rfl⟩ (Nat.le_of_ble_eq_true rfl) dX10_wheel_15 ?_
    refine s_aload_n X 0 dX10_wheel_18 rfl rfl ?_
    obtain ⟨h8, hf⟩ := pk_chk hf
    obtain ⟨o9, e10, hf⟩ := pk_bnd hf
    obtain ⟨h11, hf⟩ := pk_chk hf
    refine s_getR X (ci := 10) (k := 0) rfl (Nat.le_of_ble_eq_true rfl) h8 wd1440 (fun _ _ _ => rfl) (e10 ▸ h11) dX10_wheel_19 (e10 ▸ ?_)
    refine s_iconst X (v := (2 : Int32)) dX10_wheel_22 rfl ?_
    refine s_aload_n X 0 dX10_wheel_23 rfl rfl ?_
    obtain ⟨r13, hc12, hf⟩ := pk_obd hf
    refine s_callV X (ci := 10) (k_X10_all G hc12) rfl h8 wd1542 wd1544 wd52 wd1545 wd138 cd_X10_all ⟨Nat.le_of_ble_eq_true rfl, Nat.le_of_ble_eq_true rfl⟩ (Nat.le_of_ble_eq_true rfl) dX10_wheel_24 ?_
    refine s_iconst X (v := (1 : Int32)) dX10_wheel_27 rfl ?_
    refine s_isub X dX10_wheel_28 ?_
    obtain ⟨h14, hf⟩ := pk_chk hf
    obtain ⟨M15, e16, hf⟩ := pk_bnd hf
    refine s_iast X h11 h14 e16 dX10_wheel_29 ?_
    have h17 := io_sI e16 h8
    have h18 := io_sI e16 h11
    refine s_iconst X (v := (1 : Int32)) dX10_wheel_30 rfl ?_
    refine s_istore_n X (vs' := [(0, .ref (gB G + o)), (1, .int a1), (2, .int (1 : Int32))]) dX10_wheel_31 rfl (Nat.le_of_ble_eq_true rfl) [1, 2, 0] rfl ?_
    exact l_X10_wheel_32 X hr hlk hnm _ _ _ _ hf
  · have hf := hs3.1 c4
    refine s_iconst X (v := (-1 : Int32)) dX10_wheel_10 rfl ?_
    cases hf
    exact s_iret X hr hlk dX10_wheel_11
theorem dX7_makeTree_0 : decode cX7_makeTree 0 = .ok (.iconst 1, 1) := dk_4 (by decide +kernel)
theorem dX7_makeTree_1 : decode cX7_makeTree 1 = .ok (.iload_n 1, 1) := dk_27 (by decide +kernel)
theorem dX7_makeTree_2 : decode cX7_makeTree 2 = .ok (.ishl, 1) := dk_120 (by decide +kernel)
theorem dX7_makeTree_3 : decode cX7_makeTree 3 = .ok (.iconst 1, 1) := dk_4 (by decide +kernel)
theorem dX7_makeTree_4 : decode cX7_makeTree 4 = .ok (.isub, 1) := dk_100 (by decide +kernel)
theorem dX7_makeTree_5 : decode cX7_makeTree 5 = .ok (.istore_n 2, 1) := dk_61 (by decide +kernel)
theorem dX7_makeTree_6 : decode cX7_makeTree 6 = .ok (.aload_n 0, 1) := dk_42 (by decide +kernel)
theorem dX7_makeTree_7 : decode cX7_makeTree 7 = .ok (.iload_n 2, 1) := dk_28 (by decide +kernel)
theorem dX7_makeTree_8 : decode cX7_makeTree 8 = .ok (.invokevirtual 21, 3) := dk_182 (x := 0) (y := 21) (by decide +kernel) rfl
theorem dX7_makeTree_11 : decode cX7_makeTree 11 = .ok (.aload_n 0, 1) := dk_42 (by decide +kernel)
theorem dX7_makeTree_12 : decode cX7_makeTree 12 = .ok (.iconst 1, 1) := dk_4 (by decide +kernel)
theorem dX7_makeTree_13 : decode cX7_makeTree 13 = .ok (.putfield 36, 3) := dk_181 (x := 0) (y := 36) (by decide +kernel) rfl
theorem dX7_makeTree_16 : decode cX7_makeTree 16 = .ok (.iconst 0, 1) := dk_3 (by decide +kernel)
theorem dX7_makeTree_17 : decode cX7_makeTree 17 = .ok (.istore_n 3, 1) := dk_62 (by decide +kernel)
theorem dX7_makeTree_18 : decode cX7_makeTree 18 = .ok (.iload_n 3, 1) := dk_29 (by decide +kernel)
theorem dX7_makeTree_19 : decode cX7_makeTree 19 = .ok (.iload_n 2, 1) := dk_28 (by decide +kernel)
theorem dX7_makeTree_20 : decode cX7_makeTree 20 = .ok (.if_icmp .ge 85, 3) := dk_162 (x := 0) (y := 85) (by decide +kernel) rfl
theorem dX7_makeTree_23 : decode cX7_makeTree 23 = .ok (.aload_n 0, 1) := dk_42 (by decide +kernel)
theorem dX7_makeTree_24 : decode cX7_makeTree 24 = .ok (.getfield 9, 3) := dk_180 (x := 0) (y := 9) (by decide +kernel) rfl
theorem dX7_makeTree_27 : decode cX7_makeTree 27 = .ok (.iload_n 3, 1) := dk_29 (by decide +kernel)
theorem dX7_makeTree_28 : decode cX7_makeTree 28 = .ok (.iconst 1, 1) := dk_4 (by decide +kernel)
theorem dX7_makeTree_29 : decode cX7_makeTree 29 = .ok (.iastore, 1) := dk_79 (by decide +kernel)
theorem dX7_makeTree_30 : decode cX7_makeTree 30 = .ok (.iload_n 3, 1) := dk_29 (by decide +kernel)
theorem dX7_makeTree_31 : decode cX7_makeTree 31 = .ok (.istore 4, 2) := dk_54 (x := 4) (by decide +kernel)
theorem dX7_makeTree_33 : decode cX7_makeTree 33 = .ok (.iload 4, 2) := dk_21 (x := 4) (by decide +kernel)
theorem dX7_makeTree_35 : decode cX7_makeTree 35 = .ok (.ifCond .le 27, 3) := dk_158 (x := 0) (y := 27) (by decide +kernel) rfl
theorem dX7_makeTree_38 : decode cX7_makeTree 38 = .ok (.aload_n 0, 1) := dk_42 (by decide +kernel)
theorem dX7_makeTree_39 : decode cX7_makeTree 39 = .ok (.getfield 9, 3) := dk_180 (x := 0) (y := 9) (by decide +kernel) rfl
theorem dX7_makeTree_42 : decode cX7_makeTree 42 = .ok (.iload_n 3, 1) := dk_29 (by decide +kernel)
theorem dX7_makeTree_43 : decode cX7_makeTree 43 = .ok (.dup2, 1) := dk_92 (by decide +kernel)
theorem dX7_makeTree_44 : decode cX7_makeTree 44 = .ok (.iaload, 1) := dk_46 (by decide +kernel)
theorem dX7_makeTree_45 : decode cX7_makeTree 45 = .ok (.iconst 1, 1) := dk_4 (by decide +kernel)
theorem dX7_makeTree_46 : decode cX7_makeTree 46 = .ok (.iload 4, 2) := dk_21 (x := 4) (by decide +kernel)
theorem dX7_makeTree_48 : decode cX7_makeTree 48 = .ok (.ishl, 1) := dk_120 (by decide +kernel)
theorem dX7_makeTree_49 : decode cX7_makeTree 49 = .ok (.ior, 1) := dk_128 (by decide +kernel)
theorem dX7_makeTree_50 : decode cX7_makeTree 50 = .ok (.iastore, 1) := dk_79 (by decide +kernel)
theorem dX7_makeTree_51 : decode cX7_makeTree 51 = .ok (.iload 4, 2) := dk_21 (x := 4) (by decide +kernel)
theorem dX7_makeTree_53 : decode cX7_makeTree 53 = .ok (.iconst 1, 1) := dk_4 (by decide +kernel)
theorem dX7_makeTree_54 : decode cX7_makeTree 54 = .ok (.isub, 1) := dk_100 (by decide +kernel)
theorem dX7_makeTree_55 : decode cX7_makeTree 55 = .ok (.iconst 2, 1) := dk_5 (by decide +kernel)
theorem dX7_makeTree_56 : decode cX7_makeTree 56 = .ok (.idiv, 1) := dk_108 (by decide +kernel)
theorem dX7_makeTree_57 : decode cX7_makeTree 57 = .ok (.istore 4, 2) := dk_54 (x := 4) (by decide +kernel)
theorem dX7_makeTree_59 : decode cX7_makeTree 59 = .ok (.goto (-26), 3) := dk_167 (x := 255) (y := 230) (by decide +kernel) rfl
theorem dX7_makeTree_62 : decode cX7_makeTree 62 = .ok (.iconst 2, 1) := dk_5 (by decide +kernel)
theorem dX7_makeTree_63 : decode cX7_makeTree 63 = .ok (.iload_n 3, 1) := dk_29 (by decide +kernel)
theorem dX7_makeTree_64 : decode cX7_makeTree 64 = .ok (.imul, 1) := dk_104 (by decide +kernel)
theorem dX7_makeTree_65 : decode cX7_makeTree 65 = .ok (.iconst 1, 1) := dk_4 (by decide +kernel)
theorem dX7_makeTree_66 : decode cX7_makeTree 66 = .ok (.iadd, 1) := dk_96 (by decide +kernel)
theorem dX7_makeTree_67 : decode cX7_makeTree 67 = .ok (.istore 4, 2) := dk_54 (x := 4) (by decide +kernel)
theorem dX7_makeTree_69 : decode cX7_makeTree 69 = .ok (.iload 4, 2) := dk_21 (x := 4) (by decide +kernel)
theorem dX7_makeTree_71 : decode cX7_makeTree 71 = .ok (.iload_n 2, 1) := dk_28 (by decide +kernel)
theorem dX7_makeTree_72 : decode cX7_makeTree 72 = .ok (.if_icmp .ge 27, 3) := dk_162 (x := 0) (y := 27) (by decide +kernel) rfl
theorem dX7_makeTree_75 : decode cX7_makeTree 75 = .ok (.aload_n 0, 1) := dk_42 (by decide +kernel)
theorem dX7_makeTree_76 : decode cX7_makeTree 76 = .ok (.getfield 9, 3) := dk_180 (x := 0) (y := 9) (by decide +kernel) rfl
theorem dX7_makeTree_79 : decode cX7_makeTree 79 = .ok (.iload_n 3, 1) := dk_29 (by decide +kernel)
theorem dX7_makeTree_80 : decode cX7_makeTree 80 = .ok (.dup2, 1) := dk_92 (by decide +kernel)
theorem dX7_makeTree_81 : decode cX7_makeTree 81 = .ok (.iaload, 1) := dk_46 (by decide +kernel)
theorem dX7_makeTree_82 : decode cX7_makeTree 82 = .ok (.iconst 1, 1) := dk_4 (by decide +kernel)
theorem dX7_makeTree_83 : decode cX7_makeTree 83 = .ok (.iload 4, 2) := dk_21 (x := 4) (by decide +kernel)
theorem dX7_makeTree_85 : decode cX7_makeTree 85 = .ok (.ishl, 1) := dk_120 (by decide +kernel)
theorem dX7_makeTree_86 : decode cX7_makeTree 86 = .ok (.ior, 1) := dk_128 (by decide +kernel)
theorem dX7_makeTree_87 : decode cX7_makeTree 87 = .ok (.iastore, 1) := dk_79 (by decide +kernel)
theorem dX7_makeTree_88 : decode cX7_makeTree 88 = .ok (.iconst 2, 1) := dk_5 (by decide +kernel)
theorem dX7_makeTree_89 : decode cX7_makeTree 89 = .ok (.iload 4, 2) := dk_21 (x := 4) (by decide +kernel)
theorem dX7_makeTree_91 : decode cX7_makeTree 91 = .ok (.imul, 1) := dk_104 (by decide +kernel)
theorem dX7_makeTree_92 : decode cX7_makeTree 92 = .ok (.iconst 1, 1) := dk_4 (by decide +kernel)
theorem dX7_makeTree_93 : decode cX7_makeTree 93 = .ok (.iadd, 1) := dk_96 (by decide +kernel)
theorem dX7_makeTree_94 : decode cX7_makeTree 94 = .ok (.istore 4, 2) := dk_54 (x := 4) (by decide +kernel)
theorem dX7_makeTree_96 : decode cX7_makeTree 96 = .ok (.goto (-27), 3) := dk_167 (x := 255) (y := 229) (by decide +kernel) rfl
theorem dX7_makeTree_99 : decode cX7_makeTree 99 = .ok (.iinc 3 1, 3) := dk_132 (x := 3) (y := 1) (by decide +kernel) rfl
theorem dX7_makeTree_102 : decode cX7_makeTree 102 = .ok (.goto (-84), 3) := dk_167 (x := 255) (y := 172) (by decide +kernel) rfl
theorem dX7_makeTree_105 : decode cX7_makeTree 105 = .ok (.return_, 1) := dk_177 (by decide +kernel)
def f_X7_makeTree_69 (k_18 : Nat → Int32 → Int32 → Mem → Option Mem) : Nat → Nat → Int32 → Int32 → Int32 → Mem → Option Mem
  | 0, _, _, _, _, _ => none
  | n + 1, v0, v2, v3, v4, M =>
    if v2 ≤ v4 then (
      bnd (v3 + (1 : Int32)) fun x3 =>
      k_18 v0 v2 x3 M
      ) else (
      chk (isO M 7 v0) <|
      bnd (mR M v0 0) fun o6 =>
      chk (isO M 100 o6) <|
      chk (inB v3 (mLn M o6)) <|
      chk (inB v3 (mLn M o6)) <|
      bnd (sI M o6 (v3).toNatClampNeg ((mI M o6 (v3).toNatClampNeg) ||| ((1 : Int32) <<< (v4 &&& 31)))) fun M11 =>
      bnd (((2 : Int32) * v4) + (1 : Int32)) fun x15 =>
      f_X7_makeTree_69 k_18 n v0 v2 v3 x15 M11
      )
def f_X7_makeTree_33 (k_18 : Nat → Int32 → Int32 → Mem → Option Mem) : Nat → Nat → Int32 → Int32 → Int32 → Mem → Option Mem
  | 0, _, _, _, _, _ => none
  | n + 1, v0, v2, v3, v4, M =>
    if v4 ≤ 0 then (
      bnd (((2 : Int32) * v3) + (1 : Int32)) fun x3 =>
      f_X7_makeTree_69 k_18 n v0 v2 v3 x3 M
      ) else (
      chk (isO M 7 v0) <|
      bnd (mR M v0 0) fun o6 =>
      chk (isO M 100 o6) <|
      chk (inB v3 (mLn M o6)) <|
      chk (inB v3 (mLn M o6)) <|
      bnd (sI M o6 (v3).toNatClampNeg ((mI M o6 (v3).toNatClampNeg) ||| ((1 : Int32) <<< (v4 &&& 31)))) fun M11 =>
      chk (¬ (2 : Int32) = 0) <|
      bnd ((v4 - (1 : Int32)) / (2 : Int32)) fun x16 =>
      f_X7_makeTree_33 k_18 n v0 v2 v3 x16 M11
      )
def f_X7_makeTree_18 : Nat → Nat → Int32 → Int32 → Mem → Option Mem
  | 0, _, _, _, _ => none
  | n + 1, v0, v2, v3, M =>
    if v2 ≤ v3 then (
      some M
      ) else (
      chk (isO M 7 v0) <|
      bnd (mR M v0 0) fun o4 =>
      chk (isO M 100 o4) <|
      chk (inB v3 (mLn M o4)) <|
      bnd (sI M o4 (v3).toNatClampNeg (1 : Int32)) fun M8 =>
      f_X7_makeTree_33 (f_X7_makeTree_18 n) n v0 v2 v3 v3 M8
      )
def f_X7_makeTree (n : Nat) (o : Nat) (a1 : Int32) (M : Mem) : Option Mem :=
  bnd (((1 : Int32) <<< (a1 &&& 31)) - (1 : Int32)) fun x1 =>
  chk (isO M 7 o) <|
  obd (f_X7_begin n o x1 M) fun M5 =>
  chk (isO M5 7 o) <|
  chk (bz (1 : Int32)) <|
  bnd (sI M5 o 4 (1 : Int32)) fun M7 =>
  f_X7_makeTree_18 n o x1 (0 : Int32) M7
theorem cd_X7_makeTree : (yX7_makeTree.cls ≠ "java/lang/invoke/MethodHandle" ∧ yX7_makeTree.cls ≠ "java/lang/invoke/VarHandle") ∧ (parseMethodDescriptor yX7_makeTree.desc).map (fun d => d.parameters.length) = some 1 := ⟨⟨by decide +kernel, by decide +kernel⟩, by decide +kernel⟩
section
variable {p : Program} {l : Launch} {e : Env} {R : Room} {s : State} {m : MethodId} {args : Array Value} {below : List Frame} {meth : Method} {c : Code} {G : Gam} {M0 : Mem}
theorem l_X7_makeTree_69 {k_18 : Nat → Int32 → Int32 → Mem → Option Mem} {rv : Mem} (X : Cx p R s m args c G M0 cX7_makeTree yX7_makeTree.cls 5 2 44) (hr : meth.sig.returnType = none) (hlk : meth.locks = false) (hnm : meth.name = "makeTree") (hk_18 : ∀ (v0 : Nat), ∀ (v2 : Int32), ∀ (v3 : Int32), ∀ M : Mem, k_18 v0 v2 v3 M = some rv → Sg p l e R s m args below meth c (Qm below G args s none M0 rv) G M0 5 18 [(0, .ref (gB G + v0)), (2, .int v2), (3, .int v3)] [] M) : ∀ {n : Nat} (v0 : Nat) (v2 : Int32) (v3 : Int32) (v4 : Int32) (M : Mem), f_X7_makeTree_69 k_18 n v0 v2 v3 v4 M = some rv → Sg p l e R s m args below meth c (Qm below G args s none M0 rv) G M0 5 69 [(0, .ref (gB G + v0)), (2, .int v2), (3, .int v3), (4, .int v4)] [] M := by
  intro n
  induction n with
  | zero => intro v0 v2 v3 v4 M hf; exact (pk_none hf).elim
  | succ n ih =>
    intro v0 v2 v3 v4 M hf
    rw [f_X7_makeTree_69] at hf
    refine s_iload X 3 dX7_makeTree_69 rfl ?_
    refine s_iload_n X 1 dX7_makeTree_71 rfl rfl ?_
    have hs1 := pk_ite hf
    clear hf
    refine s_icmp_ge X (tgt := 99) dX7_makeTree_72 rfl (fun c2 => ?_) (fun c2 => ?_)
    · have hf := hs1.1 c2
      obtain ⟨x3, e4, hf⟩ := pk_bnd hf
      refine s_iinc X (vs' := [(0, .ref (gB G + v0)), (2, .int v2), (3, .int x3), (4, .int v4)]) 2 dX7_makeTree_99 rfl (v := x3) e4.symm (Nat.le_of_ble_eq_true rfl) [1, 2, 0, 3] rfl ?_
      refine s_goto X (tgt := 18) dX7_makeTree_102 rfl ?_
      refine s_drop [0, 1, 2] (vs' := [(0, .ref (gB G + v0)), (2, .int v2), (3, .int x3)]) rfl ?_
      exact hk_18 _ _ _ _ hf
    · have hf := hs1.2 c2
      refine s_aload_n X 0 dX7_makeTree_75 rfl rfl ?_
      obtain ⟨h5, hf⟩ := pk_chk hf
      obtain ⟨o6, e7, hf⟩ := pk_bnd hf
      obtain ⟨h8, hf⟩ := pk_chk hf
      refine s_getR X (ci := 7) (k := 0) rfl (Nat.le_of_ble_eq_true rfl) h5 wd159 (fun _ _ _ => rfl) (e7 ▸ h8) dX7_makeTree_76 (e7 ▸ ?_)
      refine s_iload_n X 2 dX7_makeTree_79 rfl rfl ?_
      refine s_dup2 X dX7_makeTree_80 rfl rfl ?_
      obtain ⟨h9, hf⟩ := pk_chk hf
      refine s_iald X h8 h9 dX7_makeTree_81 ?_
      refine s_iconst X (v := (1 : Int32)) dX7_makeTree_82 rfl ?_
      refine s_iload X 3 dX7_makeTree_83 rfl ?_
      refine s_ishl X dX7_makeTree_85 ?_
      refine s_ior X dX7_makeTree_86 ?_
      obtain ⟨h10, hf⟩ := pk_chk hf
      obtain ⟨M11, e12, hf⟩ := pk_bnd hf
      refine s_iast X h8 h10 e12 dX7_makeTree_87 ?_
      have h13 := io_sI e12 h5
      have h14 := io_sI e12 h8
      refine s_iconst X (v := (2 : Int32)) dX7_makeTree_88 rfl ?_
      refine s_iload X 3 dX7_makeTree_89 rfl ?_
      refine s_imul X dX7_makeTree_91 ?_
      refine s_iconst X (v := (1 : Int32)) dX7_makeTree_92 rfl ?_
      refine s_iadd X dX7_makeTree_93 ?_
      obtain ⟨x15, e16, hf⟩ := pk_bnd hf
      refine s_nmI e16 ?_
      refine s_istore X (vs' := [(0, .ref (gB G + v0)), (2, .int v2), (3, .int v3), (4, .int x15)]) dX7_makeTree_94 (Nat.le_of_ble_eq_true rfl) [1, 2, 3, 0] rfl ?_
      refine s_goto X (tgt := 69) dX7_makeTree_96 rfl ?_
      exact ih _ _ _ _ _ hf
theorem l_X7_makeTree_33 {k_18 : Nat → Int32 → Int32 → Mem → Option Mem} {rv : Mem} (X : Cx p R s m args c G M0 cX7_makeTree yX7_makeTree.cls 5 2 44) (hr : meth.sig.returnType = none) (hlk : meth.locks = false) (hnm : meth.name = "makeTree") (hk_18 : ∀ (v0 : Nat), ∀ (v2 : Int32), ∀ (v3 : Int32), ∀ M : Mem, k_18 v0 v2 v3 M = some rv → Sg p l e R s m args below meth c (Qm below G args s none M0 rv) G M0 5 18 [(0, .ref (gB G + v0)), (2, .int v2), (3, .int v3)] [] M) : ∀ {n : Nat} (v0 : Nat) (v2 : Int32) (v3 : Int32) (v4 : Int32) (M : Mem), f_X7_makeTree_33 k_18 n v0 v2 v3 v4 M = some rv → Sg p l e R s m args below meth c (Qm below G args s none M0 rv) G M0 5 33 [(0, .ref (gB G + v0)), (2, .int v2), (3, .int v3), (4, .int v4)] [] M := by
  intro n
  induction n with
  | zero => intro v0 v2 v3 v4 M hf; exact (pk_none hf).elim
  | succ n ih =>
    intro v0 v2 v3 v4 M hf
    rw [f_X7_makeTree_33] at hf
    refine s_iload X 3 dX7_makeTree_33 rfl ?_
    have hs1 := pk_ite hf
    clear hf
    refine s_if_le X (tgt := 62) dX7_makeTree_35 rfl (fun c2 => ?_) (fun c2 => ?_)
    · have hf := hs1.1 c2
      refine s_iconst X (v := (2 : Int32)) dX7_makeTree_62 rfl ?_
      refine s_iload_n X 2 dX7_makeTree_63 rfl rfl ?_
      refine s_imul X dX7_makeTree_64 ?_
      refine s_iconst X (v := (1 : Int32)) dX7_makeTree_65 rfl ?_
      refine s_iadd X dX7_makeTree_66 ?_
      obtain ⟨x3, e4, hf⟩ := pk_bnd hf
      refine s_nmI e4 ?_
      refine s_istore X (vs' := [(0, .ref (gB G + v0)), (2, .int v2), (3, .int v3), (4, .int x3)]) dX7_makeTree_67 (Nat.le_of_ble_eq_true rfl) [1, 2, 3, 0] rfl ?_
      exact l_X7_makeTree_69 X hr hlk hnm hk_18 _ _ _ _ _ hf
    · have hf := hs1.2 c2
      refine s_aload_n X 0 dX7_makeTree_38 rfl rfl ?_
      obtain ⟨h5, hf⟩ := pk_chk hf
      obtain ⟨o6, e7, hf⟩ := pk_bnd hf
      obtain ⟨h8, hf⟩ := pk_chk hf
      refine s_getR X (ci := 7) (k := 0) rfl (Nat.le_of_ble_eq_true rfl) h5 wd159 (fun _ _ _ => rfl) (e7 ▸ h8) dX7_makeTree_39 (e7 ▸ ?_)
      refine s_iload_n X 2 dX7_makeTree_42 rfl rfl ?_
      refine s_dup2 X dX7_makeTree_43 rfl rfl ?_
      obtain ⟨h9, hf⟩ := pk_chk hf
      refine s_iald X h8 h9 dX7_makeTree_44 ?_
      refine s_iconst X (v := (1 : Int32)) dX7_makeTree_45 rfl ?_
      refine s_iload X 3 dX7_makeTree_46 rfl ?_
      refine s_ishl X dX7_makeTree_48 ?_
      refine s_ior X dX7_makeTree_49 ?_
      obtain ⟨h10, hf⟩ := pk_chk hf
      obtain ⟨M11, e12, hf⟩ := pk_bnd hf
      refine s_iast X h8 h10 e12 dX7_makeTree_50 ?_
      have h13 := io_sI e12 h5
      have h14 := io_sI e12 h8
      refine s_iload X 3 dX7_makeTree_51 rfl ?_
      refine s_iconst X (v := (1 : Int32)) dX7_makeTree_53 rfl ?_
      refine s_isub X dX7_makeTree_54 ?_
      refine s_iconst X (v := (2 : Int32)) dX7_makeTree_55 rfl ?_
      obtain ⟨h15, hf⟩ := pk_chk hf
      refine s_idiv X dX7_makeTree_56 h15 ?_
      obtain ⟨x16, e17, hf⟩ := pk_bnd hf
      refine s_nmI e17 ?_
      refine s_istore X (vs' := [(0, .ref (gB G + v0)), (2, .int v2), (3, .int v3), (4, .int x16)]) dX7_makeTree_57 (Nat.le_of_ble_eq_true rfl) [1, 2, 3, 0] rfl ?_
      refine s_goto X (tgt := 33) dX7_makeTree_59 rfl ?_
      exact ih _ _ _ _ _ hf
theorem l_X7_makeTree_18 {rv : Mem} (X : Cx p R s m args c G M0 cX7_makeTree yX7_makeTree.cls 5 2 44) (hr : meth.sig.returnType = none) (hlk : meth.locks = false) (hnm : meth.name = "makeTree") : ∀ {n : Nat} (v0 : Nat) (v2 : Int32) (v3 : Int32) (M : Mem), f_X7_makeTree_18 n v0 v2 v3 M = some rv → Sg p l e R s m args below meth c (Qm below G args s none M0 rv) G M0 5 18 [(0, .ref (gB G + v0)), (2, .int v2), (3, .int v3)] [] M := by
  intro n
  induction n with
  | zero => intro v0 v2 v3 M hf; exact (pk_none hf).elim
  | succ n ih =>
    intro v0 v2 v3 M hf
    rw [f_X7_makeTree_18] at hf
    refine s_iload_n X 2 dX7_makeTree_18 rfl rfl ?_
    refine s_iload_n X 1 dX7_makeTree_19 rfl rfl ?_
    have hs1 := pk_ite hf
    clear hf
    refine s_icmp_ge X (tgt := 105) dX7_makeTree_20 rfl (fun c2 => ?_) (fun c2 => ?_)
    · have hf := hs1.1 c2
      cases hf
      exact s_vret X hr hlk dX7_makeTree_105
    · have hf := hs1.2 c2
      refine s_aload_n X 0 dX7_makeTree_23 rfl rfl ?_
      obtain ⟨h3, hf⟩ := pk_chk hf
      obtain ⟨o4, e5, hf⟩ := pk_bnd hf
      obtain ⟨h6, hf⟩ := pk_chk hf
      refine s_getR X (ci := 7) (k := 0) rfl (Nat.le_of_ble_eq_true rfl) h3 wd159 (fun _ _ _ => rfl) (e5 ▸ h6) dX7_makeTree_24 (e5 ▸ ?_)
      refine s_iload_n X 2 dX7_makeTree_27 rfl rfl ?_
      refine s_iconst X (v := (1 : Int32)) dX7_makeTree_28 rfl ?_
      obtain ⟨h7, hf⟩ := pk_chk hf
      obtain ⟨M8, e9, hf⟩ := pk_bnd hf
      refine s_iast X h6 h7 e9 dX7_makeTree_29 ?_
      have h10 := io_sI e9 h3
      have h11 := io_sI e9 h6
      refine s_iload_n X 2 dX7_makeTree_30 rfl rfl ?_
      refine s_istore X (vs' := [(0, .ref (gB G + v0)), (2, .int v2), (3, .int v3), (4, .int v3)]) dX7_makeTree_31 (Nat.le_of_ble_eq_true rfl) [1, 2, 3, 0] rfl ?_
      exact l_X7_makeTree_33 X hr hlk hnm ih _ _ _ _ _ hf
end
theorem k_X7_makeTree (G : Gam) {n : Nat} {o : Nat} {a1 : Int32} {M : Mem} {rv : Mem} (hf : f_X7_makeTree n o a1 M = some rv) : Kt yX7_makeTree cX7_makeTree 5 none 2 44 G [.ref (gB G + o), .int a1] M rv none := by
  refine Kt.of (by decide) (Nat.le_of_ble_eq_true rfl) ?_
  intro p l e R s m args below meth c X hr hlk hnm
  refine s_drop [0, 1] (vs' := [(0, .ref (gB G + o)), (1, .int a1)]) rfl ?_
  rw [f_X7_makeTree] at hf
  refine s_iconst X (v := (1 : Int32)) dX7_makeTree_0 rfl ?_
  refine s_iload_n X 1 dX7_makeTree_1 rfl rfl ?_
  refine s_ishl X dX7_makeTree_2 ?_
  refine s_iconst X (v := (1 : Int32)) dX7_makeTree_3 rfl ?_
  refine s_isub X dX7_makeTree_4 ?_
  obtain ⟨x1, e2, hf⟩ := pk_bnd hf
  refine s_nmI e2 ?_
  refine s_istore_n X (vs' := [(0, .ref (gB G + o)), (1, .int a1), (2, .int x1)]) dX7_makeTree_5 rfl (Nat.le_of_ble_eq_true rfl) [1, 2, 0] rfl ?_
  refine s_aload_n X 0 dX7_makeTree_6 rfl rfl ?_
  refine s_iload_n X 2 dX7_makeTree_7 rfl rfl ?_
  obtain ⟨h3, hf⟩ := pk_chk hf
  obtain ⟨M5, hc4, hf⟩ := pk_obd hf
  refine s_callV X (ci := 7) (k_X7_begin G hc4) rfl h3 wd575 wd577 wd0 wd578 wd127 cd_X7_begin ⟨Nat.le_of_ble_eq_true rfl, Nat.le_of_ble_eq_true rfl⟩ (Nat.le_of_ble_eq_true rfl) dX7_makeTree_8 ?_
  refine s_aload_n X 0 dX7_makeTree_11 rfl rfl ?_
  refine s_iconst X (v := (1 : Int32)) dX7_makeTree_12 rfl ?_
  obtain ⟨h6, hf⟩ := pk_chk hf
  obtain ⟨h9, hf⟩ := pk_chk hf
  obtain ⟨M7, e8, hf⟩ := pk_bnd hf
  refine s_putZ X (ci := 7) (k := 4) rfl (Nat.le_of_ble_eq_true rfl) h6 wd172 (fun _ _ _ => rfl) rfl (bz_n h9) (bz_f h9) rfl e8 dX7_makeTree_13 ?_
  have h10 := io_sI e8 h6
  refine s_iconst X (v := (0 : Int32)) dX7_makeTree_16 rfl ?_
  refine s_istore_n X (vs' := [(0, .ref (gB G + o)), (1, .int a1), (2, .int x1), (3, .int (0 : Int32))]) dX7_makeTree_17 rfl (Nat.le_of_ble_eq_true rfl) [1, 2, 3, 0] rfl ?_
  refine s_drop [0, 2, 3] (vs' := [(0, .ref (gB G + o)), (2, .int x1), (3, .int (0 : Int32))]) rfl ?_
  exact l_X7_makeTree_18 X hr hlk hnm _ _ _ _ hf
theorem dX9_tree_0 : decode cX9_tree 0 = .ok (.iload_n 1, 1) := dk_27 (by decide +kernel)
theorem dX9_tree_1 : decode cX9_tree 1 = .ok (.iconst 2, 1) := dk_5 (by decide +kernel)
theorem dX9_tree_2 : decode cX9_tree 2 = .ok (.if_icmp .lt 8, 3) := dk_161 (x := 0) (y := 8) (by decide +kernel) rfl
theorem dX9_tree_5 : decode cX9_tree 5 = .ok (.iload_n 1, 1) := dk_27 (by decide +kernel)
theorem dX9_tree_6 : decode cX9_tree 6 = .ok (.iconst 4, 1) := dk_7 (by decide +kernel)
theorem dX9_tree_7 : decode cX9_tree 7 = .ok (.if_icmp .le 5, 3) := dk_164 (x := 0) (y := 5) (by decide +kernel) rfl
theorem dX9_tree_10 : decode cX9_tree 10 = .ok (.iconst (-1), 1) := dk_2 (by decide +kernel)
theorem dX9_tree_11 : decode cX9_tree 11 = .ok (.ireturn, 1) := dk_172 (by decide +kernel)
theorem dX9_tree_12 : decode cX9_tree 12 = .ok (.aload_n 0, 1) := dk_42 (by decide +kernel)
theorem dX9_tree_13 : decode cX9_tree 13 = .ok (.getfield 10, 3) := dk_180 (x := 0) (y := 10) (by decide +kernel) rfl
theorem dX9_tree_16 : decode cX9_tree 16 = .ok (.iload_n 1, 1) := dk_27 (by decide +kernel)
theorem dX9_tree_17 : decode cX9_tree 17 = .ok (.invokevirtual 68, 3) := dk_182 (x := 0) (y := 68) (by decide +kernel) rfl
theorem dX9_tree_20 : decode cX9_tree 20 = .ok (.aload_n 0, 1) := dk_42 (by decide +kernel)
theorem dX9_tree_21 : decode cX9_tree 21 = .ok (.invokevirtual 55, 3) := dk_182 (x := 0) (y := 55) (by decide +kernel) rfl
theorem dX9_tree_24 : decode cX9_tree 24 = .ok (.ireturn, 1) := dk_172 (by decide +kernel)
def f_X9_tree (n : Nat) (o : Nat) (a1 : Int32) (M : Mem) : Option (Int32 × Mem) :=
  if a1 < (2 : Int32) then (
    some ((-1 : Int32), M)
    ) else (
    if a1 ≤ (4 : Int32) then (
      chk (isO M 9 o) <|
      bnd (mR M o 0) fun o6 =>
      chk (isO M 7 o6) <|
      obd (f_X7_makeTree n o6 a1 M) fun M10 =>
      chk (isO M10 9 o) <|
      obd2 (f_X9_startAnew n o M10) fun r13 M14 =>
      some (r13, M14)
      ) else (
      some ((-1 : Int32), M)
      )
    )
theorem cd_X9_tree : (yX9_tree.cls ≠ "java/lang/invoke/MethodHandle" ∧ yX9_tree.cls ≠ "java/lang/invoke/VarHandle") ∧ (parseMethodDescriptor yX9_tree.desc).map (fun d => d.parameters.length) = some 1 := ⟨⟨by decide +kernel, by decide +kernel⟩, by decide +kernel⟩
theorem k_X9_tree (G : Gam) {n : Nat} {o : Nat} {a1 : Int32} {M : Mem} {rv : (Int32 × Mem)} (hf : f_X9_tree n o a1 M = some rv) : Kt yX9_tree cX9_tree 2 (some .int) 5 104 G [.ref (gB G + o), .int a1] M rv.2 (some (.int rv.1)) := by
  refine Kt.of (by decide) (Nat.le_of_ble_eq_true rfl) ?_
  intro p l e R s m args below meth c X hr hlk hnm
  refine s_drop [0, 1] (vs' := [(0, .ref (gB G + o)), (1, .int a1)]) rfl ?_
  rw [f_X9_tree] at hf
  refine s_iload_n X 1 dX9_tree_0 rfl rfl ?_
  refine s_iconst X (v := (2 : Int32)) dX9_tree_1 rfl ?_
  have hs1 := pk_ite hf
  clear hf
  refine s_icmp_lt X (tgt := 10) dX9_tree_2 rfl (fun c2 => ?_) (fun c2 => ?_)
  · have hf := hs1.1 c2
    refine s_iconst X (v := (-1 : Int32)) dX9_tree_10 rfl ?_
    cases hf
    exact s_iret X hr hlk dX9_tree_11
  · have hf := hs1.2 c2
    refine s_iload_n X 1 dX9_tree_5 rfl rfl ?_
    refine s_iconst X (v := (4 : Int32)) dX9_tree_6 rfl ?_
    have hs3 := pk_ite hf
    clear hf
    refine s_icmp_le X (tgt := 12) dX9_tree_7 rfl (fun c4 => ?_) (fun c4 => ?_)
    · have hf := hs3.1 c4
      refine s_aload_n X 0 dX9_tree_12 rfl rfl ?_
      obtain ⟨h5, hf⟩ := pk_chk hf
      obtain ⟨o6, e7, hf⟩ := pk_bnd hf
      obtain ⟨h8, hf⟩ := pk_chk hf
      refine s_getR X (ci := 9) (k := 0) rfl (Nat.le_of_ble_eq_true rfl) h5 wd627 (fun _ _ _ => rfl) (e7 ▸ h8) dX9_tree_13 (e7 ▸ ?_)
      refine s_iload_n X 1 dX9_tree_16 rfl rfl ?_
      obtain ⟨M10, hc9, hf⟩ := pk_obd hf
      refine s_callV X (ci := 7) (k_X7_makeTree G hc9) rfl h8 wd691 wd692 wd693 wd694 wd127 cd_X7_makeTree ⟨Nat.le_of_ble_eq_true rfl, Nat.le_of_ble_eq_true rfl⟩ (Nat.le_of_ble_eq_true rfl) dX9_tree_17 ?_
      refine s_aload_n X 0 dX9_tree_20 rfl rfl ?_
      obtain ⟨h11, hf⟩ := pk_chk hf
      obtain ⟨r13, M14, hc12, hf⟩ := pk_obd2 hf
      refine s_callV X (ci := 9) (k_X9_startAnew G hc12) rfl h11 wd582 wd584 wd1 wd585 wd126 cd_X9_startAnew ⟨Nat.le_of_ble_eq_true rfl, Nat.le_of_ble_eq_true rfl⟩ (Nat.le_of_ble_eq_true rfl) dX9_tree_21 ?_
      cases hf
      exact s_iret X hr hlk dX9_tree_24
    · have hf := hs3.2 c4
      refine s_iconst X (v := (-1 : Int32)) dX9_tree_10 rfl ?_
      cases hf
      exact s_iret X hr hlk dX9_tree_11
theorem dX10_tree_0 : decode cX10_tree 0 = .ok (.iload_n 1, 1) := dk_27 (by decide +kernel)
theorem dX10_tree_1 : decode cX10_tree 1 = .ok (.iconst 2, 1) := dk_5 (by decide +kernel)
theorem dX10_tree_2 : decode cX10_tree 2 = .ok (.iconst 4, 1) := dk_7 (by decide +kernel)
theorem dX10_tree_3 : decode cX10_tree 3 = .ok (.invokestatic 49, 3) := dk_184 (x := 0) (y := 49) (by decide +kernel) rfl
theorem dX10_tree_6 : decode cX10_tree 6 = .ok (.ifCond .ne 5, 3) := dk_154 (x := 0) (y := 5) (by decide +kernel) rfl
theorem dX10_tree_9 : decode cX10_tree 9 = .ok (.iconst (-1), 1) := dk_2 (by decide +kernel)
theorem dX10_tree_10 : decode cX10_tree 10 = .ok (.ireturn, 1) := dk_172 (by decide +kernel)
theorem dX10_tree_11 : decode cX10_tree 11 = .ok (.iconst 1, 1) := dk_4 (by decide +kernel)
theorem dX10_tree_12 : decode cX10_tree 12 = .ok (.iload_n 1, 1) := dk_27 (by decide +kernel)
theorem dX10_tree_13 : decode cX10_tree 13 = .ok (.ishl, 1) := dk_120 (by decide +kernel)
theorem dX10_tree_14 : decode cX10_tree 14 = .ok (.iconst 1, 1) := dk_4 (by decide +kernel)
theorem dX10_tree_15 : decode cX10_tree 15 = .ok (.isub, 1) := dk_100 (by decide +kernel)
theorem dX10_tree_16 : decode cX10_tree 16 = .ok (.istore_n 2, 1) := dk_61 (by decide +kernel)
theorem dX10_tree_17 : decode cX10_tree 17 = .ok (.aload_n 0, 1) := dk_42 (by decide +kernel)
theorem dX10_tree_18 : decode cX10_tree 18 = .ok (.iload_n 2, 1) := dk_28 (by decide +kernel)
theorem dX10_tree_19 : decode cX10_tree 19 = .ok (.iconst 1, 1) := dk_4 (by decide +kernel)
theorem dX10_tree_20 : decode cX10_tree 20 = .ok (.invokevirtual 60, 3) := dk_182 (x := 0) (y := 60) (by decide +kernel) rfl
theorem dX10_tree_23 : decode cX10_tree 23 = .ok (.iconst 0, 1) := dk_3 (by decide +kernel)
theorem dX10_tree_24 : decode cX10_tree 24 = .ok (.istore_n 3, 1) := dk_62 (by decide +kernel)
theorem dX10_tree_25 : decode cX10_tree 25 = .ok (.iload_n 3, 1) := dk_29 (by decide +kernel)
theorem dX10_tree_26 : decode cX10_tree 26 = .ok (.iload_n 2, 1) := dk_28 (by decide +kernel)
theorem dX10_tree_27 : decode cX10_tree 27 = .ok (.if_icmp .ge 87, 3) := dk_162 (x := 0) (y := 87) (by decide +kernel) rfl
theorem dX10_tree_30 : decode cX10_tree 30 = .ok (.aload_n 0, 1) := dk_42 (by decide +kernel)
theorem dX10_tree_31 : decode cX10_tree 31 = .ok (.getfield 7, 3) := dk_180 (x := 0) (y := 7) (by decide +kernel) rfl
theorem dX10_tree_34 : decode cX10_tree 34 = .ok (.iconst 2, 1) := dk_5 (by decide +kernel)
theorem dX10_tree_35 : decode cX10_tree 35 = .ok (.iload_n 3, 1) := dk_29 (by decide +kernel)
theorem dX10_tree_36 : decode cX10_tree 36 = .ok (.iadd, 1) := dk_96 (by decide +kernel)
theorem dX10_tree_37 : decode cX10_tree 37 = .ok (.iconst 1, 1) := dk_4 (by decide +kernel)
theorem dX10_tree_38 : decode cX10_tree 38 = .ok (.iastore, 1) := dk_79 (by decide +kernel)
theorem dX10_tree_39 : decode cX10_tree 39 = .ok (.iload_n 3, 1) := dk_29 (by decide +kernel)
theorem dX10_tree_40 : decode cX10_tree 40 = .ok (.istore 4, 2) := dk_54 (x := 4) (by decide +kernel)
theorem dX10_tree_42 : decode cX10_tree 42 = .ok (.iload 4, 2) := dk_21 (x := 4) (by decide +kernel)
theorem dX10_tree_44 : decode cX10_tree 44 = .ok (.ifCond .le 29, 3) := dk_158 (x := 0) (y := 29) (by decide +kernel) rfl
theorem dX10_tree_47 : decode cX10_tree 47 = .ok (.aload_n 0, 1) := dk_42 (by decide +kernel)
theorem dX10_tree_48 : decode cX10_tree 48 = .ok (.getfield 7, 3) := dk_180 (x := 0) (y := 7) (by decide +kernel) rfl
theorem dX10_tree_51 : decode cX10_tree 51 = .ok (.iconst 2, 1) := dk_5 (by decide +kernel)
theorem dX10_tree_52 : decode cX10_tree 52 = .ok (.iload_n 3, 1) := dk_29 (by decide +kernel)
theorem dX10_tree_53 : decode cX10_tree 53 = .ok (.iadd, 1) := dk_96 (by decide +kernel)
theorem dX10_tree_54 : decode cX10_tree 54 = .ok (.dup2, 1) := dk_92 (by decide +kernel)
theorem dX10_tree_55 : decode cX10_tree 55 = .ok (.iaload, 1) := dk_46 (by decide +kernel)
theorem dX10_tree_56 : decode cX10_tree 56 = .ok (.iconst 1, 1) := dk_4 (by decide +kernel)
theorem dX10_tree_57 : decode cX10_tree 57 = .ok (.iload 4, 2) := dk_21 (x := 4) (by decide +kernel)
theorem dX10_tree_59 : decode cX10_tree 59 = .ok (.ishl, 1) := dk_120 (by decide +kernel)
theorem dX10_tree_60 : decode cX10_tree 60 = .ok (.ior, 1) := dk_128 (by decide +kernel)
theorem dX10_tree_61 : decode cX10_tree 61 = .ok (.iastore, 1) := dk_79 (by decide +kernel)
theorem dX10_tree_62 : decode cX10_tree 62 = .ok (.iload 4, 2) := dk_21 (x := 4) (by decide +kernel)
theorem dX10_tree_64 : decode cX10_tree 64 = .ok (.iconst 1, 1) := dk_4 (by decide +kernel)
theorem dX10_tree_65 : decode cX10_tree 65 = .ok (.isub, 1) := dk_100 (by decide +kernel)
theorem dX10_tree_66 : decode cX10_tree 66 = .ok (.iconst 2, 1) := dk_5 (by decide +kernel)
theorem dX10_tree_67 : decode cX10_tree 67 = .ok (.idiv, 1) := dk_108 (by decide +kernel)
theorem dX10_tree_68 : decode cX10_tree 68 = .ok (.istore 4, 2) := dk_54 (x := 4) (by decide +kernel)
theorem dX10_tree_70 : decode cX10_tree 70 = .ok (.goto (-28), 3) := dk_167 (x := 255) (y := 228) (by decide +kernel) rfl
theorem dX10_tree_73 : decode cX10_tree 73 = .ok (.iload_n 3, 1) := dk_29 (by decide +kernel)
theorem dX10_tree_74 : decode cX10_tree 74 = .ok (.istore 4, 2) := dk_54 (x := 4) (by decide +kernel)
theorem dX10_tree_76 : decode cX10_tree 76 = .ok (.iload 4, 2) := dk_21 (x := 4) (by decide +kernel)
theorem dX10_tree_78 : decode cX10_tree 78 = .ok (.iload_n 2, 1) := dk_28 (by decide +kernel)
theorem dX10_tree_79 : decode cX10_tree 79 = .ok (.if_icmp .ge 29, 3) := dk_162 (x := 0) (y := 29) (by decide +kernel) rfl
theorem dX10_tree_82 : decode cX10_tree 82 = .ok (.aload_n 0, 1) := dk_42 (by decide +kernel)
theorem dX10_tree_83 : decode cX10_tree 83 = .ok (.getfield 7, 3) := dk_180 (x := 0) (y := 7) (by decide +kernel) rfl
theorem dX10_tree_86 : decode cX10_tree 86 = .ok (.iconst 2, 1) := dk_5 (by decide +kernel)
theorem dX10_tree_87 : decode cX10_tree 87 = .ok (.iload_n 3, 1) := dk_29 (by decide +kernel)
theorem dX10_tree_88 : decode cX10_tree 88 = .ok (.iadd, 1) := dk_96 (by decide +kernel)
theorem dX10_tree_89 : decode cX10_tree 89 = .ok (.dup2, 1) := dk_92 (by decide +kernel)
theorem dX10_tree_90 : decode cX10_tree 90 = .ok (.iaload, 1) := dk_46 (by decide +kernel)
theorem dX10_tree_91 : decode cX10_tree 91 = .ok (.iconst 1, 1) := dk_4 (by decide +kernel)
theorem dX10_tree_92 : decode cX10_tree 92 = .ok (.iload 4, 2) := dk_21 (x := 4) (by decide +kernel)
theorem dX10_tree_94 : decode cX10_tree 94 = .ok (.ishl, 1) := dk_120 (by decide +kernel)
theorem dX10_tree_95 : decode cX10_tree 95 = .ok (.ior, 1) := dk_128 (by decide +kernel)
theorem dX10_tree_96 : decode cX10_tree 96 = .ok (.iastore, 1) := dk_79 (by decide +kernel)
theorem dX10_tree_97 : decode cX10_tree 97 = .ok (.iconst 2, 1) := dk_5 (by decide +kernel)
theorem dX10_tree_98 : decode cX10_tree 98 = .ok (.iload 4, 2) := dk_21 (x := 4) (by decide +kernel)
theorem dX10_tree_100 : decode cX10_tree 100 = .ok (.imul, 1) := dk_104 (by decide +kernel)
theorem dX10_tree_101 : decode cX10_tree 101 = .ok (.iconst 1, 1) := dk_4 (by decide +kernel)
theorem dX10_tree_102 : decode cX10_tree 102 = .ok (.iadd, 1) := dk_96 (by decide +kernel)
theorem dX10_tree_103 : decode cX10_tree 103 = .ok (.istore 4, 2) := dk_54 (x := 4) (by decide +kernel)
theorem dX10_tree_105 : decode cX10_tree 105 = .ok (.goto (-29), 3) := dk_167 (x := 255) (y := 227) (by decide +kernel) rfl
theorem dX10_tree_108 : decode cX10_tree 108 = .ok (.iinc 3 1, 3) := dk_132 (x := 3) (y := 1) (by decide +kernel) rfl
theorem dX10_tree_111 : decode cX10_tree 111 = .ok (.goto (-86), 3) := dk_167 (x := 255) (y := 170) (by decide +kernel) rfl
theorem dX10_tree_114 : decode cX10_tree 114 = .ok (.iload_n 2, 1) := dk_28 (by decide +kernel)
theorem dX10_tree_115 : decode cX10_tree 115 = .ok (.ireturn, 1) := dk_172 (by decide +kernel)
def f_X10_tree_76 (k_25 : Nat → Int32 → Int32 → Mem → Option (Int32 × Mem)) : Nat → Nat → Int32 → Int32 → Int32 → Mem → Option (Int32 × Mem)
  | 0, _, _, _, _, _ => none
  | n + 1, v0, v2, v3, v4, M =>
    if v2 ≤ v4 then (
      bnd (v3 + (1 : Int32)) fun x3 =>
      k_25 v0 v2 x3 M
      ) else (
      chk (isO M 10 v0) <|
      bnd (mR M v0 0) fun o6 =>
      chk (isO M 100 o6) <|
      bnd ((2 : Int32) + v3) fun x9 =>
      chk (inB x9 (mLn M o6)) <|
      chk (inB x9 (mLn M o6)) <|
      bnd (sI M o6 (x9).toNatClampNeg ((mI M o6 (x9).toNatClampNeg) ||| ((1 : Int32) <<< (v4 &&& 31)))) fun M13 =>
      bnd (((2 : Int32) * v4) + (1 : Int32)) fun x17 =>
      f_X10_tree_76 k_25 n v0 v2 v3 x17 M13
      )
def f_X10_tree_42 (k_25 : Nat → Int32 → Int32 → Mem → Option (Int32 × Mem)) : Nat → Nat → Int32 → Int32 → Int32 → Mem → Option (Int32 × Mem)
  | 0, _, _, _, _, _ => none
  | n + 1, v0, v2, v3, v4, M =>
    if v4 ≤ 0 then (
      f_X10_tree_76 k_25 n v0 v2 v3 v3 M
      ) else (
      chk (isO M 10 v0) <|
      bnd (mR M v0 0) fun o4 =>
      chk (isO M 100 o4) <|
      bnd ((2 : Int32) + v3) fun x7 =>
      chk (inB x7 (mLn M o4)) <|
      chk (inB x7 (mLn M o4)) <|
      bnd (sI M o4 (x7).toNatClampNeg ((mI M o4 (x7).toNatClampNeg) ||| ((1 : Int32) <<< (v4 &&& 31)))) fun M11 =>
      chk (¬ (2 : Int32) = 0) <|
      bnd ((v4 - (1 : Int32)) / (2 : Int32)) fun x16 =>
      f_X10_tree_42 k_25 n v0 v2 v3 x16 M11
      )
def f_X10_tree_25 : Nat → Nat → Int32 → Int32 → Mem → Option (Int32 × Mem)
  | 0, _, _, _, _ => none
  | n + 1, v0, v2, v3, M =>
    if v2 ≤ v3 then (
      some (v2, M)
      ) else (
      chk (isO M 10 v0) <|
      bnd (mR M v0 0) fun o4 =>
      chk (isO M 100 o4) <|
      chk (inB ((2 : Int32) + v3) (mLn M o4)) <|
      bnd (sI M o4 (((2 : Int32) + v3)).toNatClampNeg (1 : Int32)) fun M8 =>
      f_X10_tree_42 (f_X10_tree_25 n) n v0 v2 v3 v3 M8
      )
def f_X10_tree (n : Nat) (o : Nat) (a1 : Int32) (M : Mem) : Option (Int32 × Mem) :=
  obd (f_X10_isIn a1 (2 : Int32) (4 : Int32) M) fun r2 =>
  if r2 = 0 then (
    some ((-1 : Int32), M)
    ) else (
    bnd (((1 : Int32) <<< (a1 &&& 31)) - (1 : Int32)) fun x5 =>
    chk (isO M 10 o) <|
    obd (f_X10_begin n o x5 (1 : Int32) M) fun M9 =>
    f_X10_tree_25 n o x5 (0 : Int32) M9
    )
theorem cd_X10_tree : (yX10_tree.cls ≠ "java/lang/invoke/MethodHandle" ∧ yX10_tree.cls ≠ "java/lang/invoke/VarHandle") ∧ (parseMethodDescriptor yX10_tree.desc).map (fun d => d.parameters.length) = some 1 := ⟨⟨by decide +kernel, by decide +kernel⟩, by decide +kernel⟩
section
variable {p : Program} {l : Launch} {e : Env} {R : Room} {s : State} {m : MethodId} {args : Array Value} {below : List Frame} {meth : Method} {c : Code} {G : Gam} {M0 : Mem}
theorem l_X10_tree_76 {k_25 : Nat → Int32 → Int32 → Mem → Option (Int32 × Mem)} {rv : (Int32 × Mem)} (X : Cx p R s m args c G M0 cX10_tree yX10_tree.cls 5 2 46) (hr : meth.sig.returnType = (some .int)) (hlk : meth.locks = false) (hnm : meth.name = "tree") (hk_25 : ∀ (v0 : Nat), ∀ (v2 : Int32), ∀ (v3 : Int32), ∀ M : Mem, k_25 v0 v2 v3 M = some rv → Sg p l e R s m args below meth c (Qm below G args s (some (.int rv.1)) M0 rv.2) G M0 5 25 [(0, .ref (gB G + v0)), (2, .int v2), (3, .int v3)] [] M) : ∀ {n : Nat} (v0 : Nat) (v2 : Int32) (v3 : Int32) (v4 : Int32) (M : Mem), f_X10_tree_76 k_25 n v0 v2 v3 v4 M = some rv → Sg p l e R s m args below meth c (Qm below G args s (some (.int rv.1)) M0 rv.2) G M0 5 76 [(0, .ref (gB G + v0)), (2, .int v2), (3, .int v3), (4, .int v4)] [] M := by
  intro n
  induction n with
  | zero => intro v0 v2 v3 v4 M hf; exact (pk_none hf).elim
  | succ n ih =>
    intro v0 v2 v3 v4 M hf
    rw [f_X10_tree_76] at hf
    refine s_iload X 3 dX10_tree_76 rfl ?_
    refine s_iload_n X 1 dX10_tree_78 rfl rfl ?_
    have hs1 := pk_ite hf
    clear hf
    refine s_icmp_ge X (tgt := 108) dX10_tree_79 rfl (fun c2 => ?_) (fun c2 => ?_)
    · have hf := hs1.1 c2
      obtain ⟨x3, e4, hf⟩ := pk_bnd hf
      refine s_iinc X (vs' := [(0, .ref (gB G + v0)), (2, .int v2), (3, .int x3), (4, .int v4)]) 2 dX10_tree_108 rfl (v := x3) e4.symm (Nat.le_of_ble_eq_true rfl) [1, 2, 0, 3] rfl ?_
      refine s_goto X (tgt := 25) dX10_tree_111 rfl ?_
      refine s_drop [0, 1, 2] (vs' := [(0, .ref (gB G + v0)), (2, .int v2), (3, .int x3)]) rfl ?_
      exact hk_25 _ _ _ _ hf
    · have hf := hs1.2 c2
      refine s_aload_n X 0 dX10_tree_82 rfl rfl ?_
      obtain ⟨h5, hf⟩ := pk_chk hf
      obtain ⟨o6, e7, hf⟩ := pk_bnd hf
      obtain ⟨h8, hf⟩ := pk_chk hf
      refine s_getR X (ci := 10) (k := 0) rfl (Nat.le_of_ble_eq_true rfl) h5 wd1440 (fun _ _ _ => rfl) (e7 ▸ h8) dX10_tree_83 (e7 ▸ ?_)
      refine s_iconst X (v := (2 : Int32)) dX10_tree_86 rfl ?_
      refine s_iload_n X 2 dX10_tree_87 rfl rfl ?_
      refine s_iadd X dX10_tree_88 ?_
      obtain ⟨x9, e10, hf⟩ := pk_bnd hf
      refine s_nmI e10 ?_
      refine s_dup2 X dX10_tree_89 rfl rfl ?_
      obtain ⟨h11, hf⟩ := pk_chk hf
      refine s_iald X h8 h11 dX10_tree_90 ?_
      refine s_iconst X (v := (1 : Int32)) dX10_tree_91 rfl ?_
      refine s_iload X 3 dX10_tree_92 rfl ?_
      refine s_ishl X dX10_tree_94 ?_
      refine s_ior X dX10_tree_95 ?_
      obtain ⟨h12, hf⟩ := pk_chk hf
      obtain ⟨M13, e14, hf⟩ := pk_bnd hf
      refine s_iast X h8 h12 e14 dX10_tree_96 ?_
      have h15 := io_sI e14 h5
      have h16 := io_sI e14 h8
      refine s_iconst X (v := (2 : Int32)) dX10_tree_97 rfl ?_
      refine s_iload X 3 dX10_tree_98 rfl ?_
      refine s_imul X dX10_tree_100 ?_
      refine s_iconst X (v := (1 : Int32)) dX10_tree_101 rfl ?_
      refine s_iadd X dX10_tree_102 ?_
      obtain ⟨x17, e18, hf⟩ := pk_bnd hf
      refine s_nmI e18 ?_
      refine s_istore X (vs' := [(0, .ref (gB G + v0)), (2, .int v2), (3, .int v3), (4, .int x17)]) dX10_tree_103 (Nat.le_of_ble_eq_true rfl) [1, 2, 3, 0] rfl ?_
      refine s_goto X (tgt := 76) dX10_tree_105 rfl ?_
      exact ih _ _ _ _ _ hf
theorem l_X10_tree_42 {k_25 : Nat → Int32 → Int32 → Mem → Option (Int32 × Mem)} {rv : (Int32 × Mem)} (X : Cx p R s m args c G M0 cX10_tree yX10_tree.cls 5 2 46) (hr : meth.sig.returnType = (some .int)) (hlk : meth.locks = false) (hnm : meth.name = "tree") (hk_25 : ∀ (v0 : Nat), ∀ (v2 : Int32), ∀ (v3 : Int32), ∀ M : Mem, k_25 v0 v2 v3 M = some rv → Sg p l e R s m args below meth c (Qm below G args s (some (.int rv.1)) M0 rv.2) G M0 5 25 [(0, .ref (gB G + v0)), (2, .int v2), (3, .int v3)] [] M) : ∀ {n : Nat} (v0 : Nat) (v2 : Int32) (v3 : Int32) (v4 : Int32) (M : Mem), f_X10_tree_42 k_25 n v0 v2 v3 v4 M = some rv → Sg p l e R s m args below meth c (Qm below G args s (some (.int rv.1)) M0 rv.2) G M0 5 42 [(0, .ref (gB G + v0)), (2, .int v2), (3, .int v3), (4, .int v4)] [] M := by
  intro n
  induction n with
  | zero => intro v0 v2 v3 v4 M hf; exact (pk_none hf).elim
  | succ n ih =>
    intro v0 v2 v3 v4 M hf
    rw [f_X10_tree_42] at hf
    refine s_iload X 3 dX10_tree_42 rfl ?_
    have hs1 := pk_ite hf
    clear hf
    refine s_if_le X (tgt := 73) dX10_tree_44 rfl (fun c2 => ?_) (fun c2 => ?_)
    · have hf := hs1.1 c2
      refine s_iload_n X 2 dX10_tree_73 rfl rfl ?_
      refine s_istore X (vs' := [(0, .ref (gB G + v0)), (2, .int v2), (3, .int v3), (4, .int v3)]) dX10_tree_74 (Nat.le_of_ble_eq_true rfl) [1, 2, 3, 0] rfl ?_
      exact l_X10_tree_76 X hr hlk hnm hk_25 _ _ _ _ _ hf
    · have hf := hs1.2 c2
      refine s_aload_n X 0 dX10_tree_47 rfl rfl ?_
      obtain ⟨h3, hf⟩ := pk_chk hf
      obtain ⟨o4, e5, hf⟩ := pk_bnd hf
      obtain ⟨h6, hf⟩ := pk_chk hf
      refine s_getR X (ci := 10) (k := 0) rfl (Nat.le_of_ble_eq_true rfl) h3 wd1440 (fun _ _ _ => rfl) (e5 ▸ h6) dX10_tree_48 (e5 ▸ ?_)
      refine s_iconst X (v := (2 : Int32)) dX10_tree_51 rfl ?_
      refine s_iload_n X 2 dX10_tree_52 rfl rfl ?_
      refine s_iadd X dX10_tree_53 ?_
      obtain ⟨x7, e8, hf⟩ := pk_bnd hf
      refine s_nmI e8 ?_
      refine s_dup2 X dX10_tree_54 rfl rfl ?_
      obtain ⟨h9, hf⟩ := pk_chk hf
      refine s_iald X h6 h9 dX10_tree_55 ?_
      refine s_iconst X (v := (1 : Int32)) dX10_tree_56 rfl ?_
      refine s_iload X 3 dX10_tree_57 rfl ?_
      refine s_ishl X dX10_tree_59 ?_
      refine s_ior X dX10_tree_60 ?_
      obtain ⟨h10, hf⟩ := pk_chk hf
      obtain ⟨M11, e12, hf⟩ := pk_bnd hf
      refine s_iast X h6 h10 e12 dX10_tree_61 ?_
      have h13 := io_sI e12 h3
      have h14 := io_sI e12 h6
      refine s_iload X 3 dX10_tree_62 rfl ?_
      refine s_iconst X (v := (1 : Int32)) dX10_tree_64 rfl ?_
      refine s_isub X dX10_tree_65 ?_
      refine s_iconst X (v := (2 : Int32)) dX10_tree_66 rfl ?_
      obtain ⟨h15, hf⟩ := pk_chk hf
      refine s_idiv X dX10_tree_67 h15 ?_
      obtain ⟨x16, e17, hf⟩ := pk_bnd hf
      refine s_nmI e17 ?_
      refine s_istore X (vs' := [(0, .ref (gB G + v0)), (2, .int v2), (3, .int v3), (4, .int x16)]) dX10_tree_68 (Nat.le_of_ble_eq_true rfl) [1, 2, 3, 0] rfl ?_
      refine s_goto X (tgt := 42) dX10_tree_70 rfl ?_
      exact ih _ _ _ _ _ hf
theorem l_X10_tree_25 {rv : (Int32 × Mem)} (X : Cx p R s m args c G M0 cX10_tree yX10_tree.cls 5 2 46) (hr : meth.sig.returnType = (some .int)) (hlk : meth.locks = false) (hnm : meth.name = "tree") : ∀ {n : Nat} (v0 : Nat) (v2 : Int32) (v3 : Int32) (M : Mem), f_X10_tree_25 n v0 v2 v3 M = some rv → Sg p l e R s m args below meth c (Qm below G args s (some (.int rv.1)) M0 rv.2) G M0 5 25 [(0, .ref (gB G + v0)), (2, .int v2), (3, .int v3)] [] M := by
  intro n
  induction n with
  | zero => intro v0 v2 v3 M hf; exact (pk_none hf).elim
  | succ n ih =>
    intro v0 v2 v3 M hf
    rw [f_X10_tree_25] at hf
    refine s_iload_n X 2 dX10_tree_25 rfl rfl ?_
    refine s_iload_n X 1 dX10_tree_26 rfl rfl ?_
    have hs1 := pk_ite hf
    clear hf
    refine s_icmp_ge X (tgt := 114) dX10_tree_27 rfl (fun c2 => ?_) (fun c2 => ?_)
    · have hf := hs1.1 c2
      refine s_iload_n X 1 dX10_tree_114 rfl rfl ?_
      cases hf
      exact s_iret X hr hlk dX10_tree_115
    · have hf := hs1.2 c2
      refine s_aload_n X 0 dX10_tree_30 rfl rfl ?_
      obtain ⟨h3, hf⟩ := pk_chk hf
      obtain ⟨o4, e5, hf⟩ := pk_bnd hf
      obtain ⟨h6, hf⟩ := pk_chk hf
      refine s_getR X (ci := 10) (k := 0) rfl (Nat.le_of_ble_eq_true rfl) h3 wd1440 (fun _ _ _ => rfl) (e5 ▸ h6) dX10_tree_31 (e5 ▸ ?_)
      refine s_iconst X (v := (2 : Int32)) dX10_tree_34 rfl ?_
      refine s_iload_n X 2 dX10_tree_35 rfl rfl ?_
      refine s_iadd X dX10_tree_36 ?_
      refine s_iconst X (v := (1 : Int32)) dX10_tree_37 rfl ?_
      obtain ⟨h7, hf⟩ := pk_chk hf
      obtain ⟨M8, e9, hf⟩ := pk_bnd hf
      refine s_iast X h6 h7 e9 dX10_tree_38 ?_
      have h10 := io_sI e9 h3
      have h11 := io_sI e9 h6
      refine s_iload_n X 2 dX10_tree_39 rfl rfl ?_
      refine s_istore X (vs' := [(0, .ref (gB G + v0)), (2, .int v2), (3, .int v3), (4, .int v3)]) dX10_tree_40 (Nat.le_of_ble_eq_true rfl) [1, 2, 3, 0] rfl ?_
      exact l_X10_tree_42 X hr hlk hnm ih _ _ _ _ _ hf
end
theorem k_X10_tree (G : Gam) {n : Nat} {o : Nat} {a1 : Int32} {M : Mem} {rv : (Int32 × Mem)} (hf : f_X10_tree n o a1 M = some rv) : Kt yX10_tree cX10_tree 5 (some .int) 2 46 G [.ref (gB G + o), .int a1] M rv.2 (some (.int rv.1)) := by
  refine Kt.of (by decide) (Nat.le_of_ble_eq_true rfl) ?_
  intro p l e R s m args below meth c X hr hlk hnm
  refine s_drop [0, 1] (vs' := [(0, .ref (gB G + o)), (1, .int a1)]) rfl ?_
  rw [f_X10_tree] at hf
  refine s_iload_n X 1 dX10_tree_0 rfl rfl ?_
  refine s_iconst X (v := (2 : Int32)) dX10_tree_1 rfl ?_
  refine s_iconst X (v := (4 : Int32)) dX10_tree_2 rfl ?_
  obtain ⟨r2, hc1, hf⟩ := pk_obd hf
  refine s_callS X (k_X10_isIn G hc1) wd1520 wd1521 wd1522 wd138 cd_X10_isIn ⟨Nat.le_of_ble_eq_true rfl, Nat.le_of_ble_eq_true rfl⟩ (Nat.le_of_ble_eq_true rfl) dX10_tree_3 ?_
  have hs3 := pk_ite hf
  clear hf
  refine s_if_ne X (tgt := 11) dX10_tree_6 rfl (fun c4 => ?_) (fun c4 => ?_)
  · have hf := hs3.2 c4
    refine s_iconst X (v := (1 : Int32)) dX10_tree_11 rfl ?_
    refine s_iload_n X 1 dX10_tree_12 rfl rfl ?_
    refine s_ishl X dX10_tree_13 ?_
    refine s_iconst X (v := (1 : Int32)) dX10_tree_14 rfl ?_
    refine s_isub X dX10_tree_15 ?_
    obtain ⟨x5, e6, hf⟩ := pk_bnd hf
    refine s_nmI e6 ?_
    refine s_istore_n X (vs' := [(0, .ref (gB G + o)), (1, .int a1), (2, .int x5)]) dX10_tree_16 rfl (Nat.le_of_ble_eq_true rfl) [1, 2, 0] rfl ?_
    refine s_aload_n X 0 dX10_tree_17 rfl rfl ?_
    refine s_iload_n X 2 dX10_tree_18 rfl rfl ?_
    refine s_iconst X (v := (1 : Int32)) dX10_tree_19 rfl ?_
    obtain ⟨h7, hf⟩ := pk_chk hf
    obtain ⟨M9, hc8, hf⟩ := pk_obd hf
    refine s_callV X (ci := 10) (k_X10_begin G hc8) rfl h7 wd1429 wd1431 wd50 wd1432 wd138 cd_X10_begin ⟨Nat.le_of_ble_eq_true rfl, Nat.le_of_ble_eq_true rfl⟩ (Nat.le_of_ble_eq_true rfl) dX10_tree_20 ?_
    refine s_iconst X (v := (0 : Int32)) dX10_tree_23 rfl ?_
    refine s_istore_n X (vs' := [(0, .ref (gB G + o)), (1, .int a1), (2, .int x5), (3, .int (0 : Int32))]) dX10_tree_24 rfl (Nat.le_of_ble_eq_true rfl) [1, 2, 3, 0] rfl ?_
    refine s_drop [0, 2, 3] (vs' := [(0, .ref (gB G + o)), (2, .int x5), (3, .int (0 : Int32))]) rfl ?_
    exact l_X10_tree_25 X hr hlk hnm _ _ _ _ hf
  · have hf := hs3.1 c4
    refine s_iconst X (v := (-1 : Int32)) dX10_tree_9 rfl ?_
    cases hf
    exact s_iret X hr hlk dX10_tree_10
theorem dX7_isNode_0 : decode cX7_isNode 0 = .ok (.iload_n 1, 1) := dk_27 (by decide +kernel)
theorem dX7_isNode_1 : decode cX7_isNode 1 = .ok (.ifCond .lt 15, 3) := dk_155 (x := 0) (y := 15) (by decide +kernel) rfl
theorem dX7_isNode_4 : decode cX7_isNode 4 = .ok (.iload_n 1, 1) := dk_27 (by decide +kernel)
theorem dX7_isNode_5 : decode cX7_isNode 5 = .ok (.aload_n 0, 1) := dk_42 (by decide +kernel)
theorem dX7_isNode_6 : decode cX7_isNode 6 = .ok (.getfield 40, 3) := dk_180 (x := 0) (y := 40) (by decide +kernel) rfl
theorem dX7_isNode_9 : decode cX7_isNode 9 = .ok (.if_icmp .ge 7, 3) := dk_162 (x := 0) (y := 7) (by decide +kernel) rfl
theorem dX7_isNode_12 : decode cX7_isNode 12 = .ok (.iconst 1, 1) := dk_4 (by decide +kernel)
theorem dX7_isNode_13 : decode cX7_isNode 13 = .ok (.goto 4, 3) := dk_167 (x := 0) (y := 4) (by decide +kernel) rfl
theorem dX7_isNode_16 : decode cX7_isNode 16 = .ok (.iconst 0, 1) := dk_3 (by decide +kernel)
theorem dX7_isNode_17 : decode cX7_isNode 17 = .ok (.ireturn, 1) := dk_172 (by decide +kernel)
def f_X7_isNode (o : Nat) (a1 : Int32) (M : Mem) : Option Int32 :=
  if a1 < 0 then (
    some (0 : Int32)
    ) else (
    chk (isO M 7 o) <|
    if (mI M o 3) ≤ a1 then (
      some (0 : Int32)
      ) else (
      some (1 : Int32)
      )
    )
theorem cd_X7_isNode : (yX7_isNode.cls ≠ "java/lang/invoke/MethodHandle" ∧ yX7_isNode.cls ≠ "java/lang/invoke/VarHandle") ∧ (parseMethodDescriptor yX7_isNode.desc).map (fun d => d.parameters.length) = some 1 := ⟨⟨by decide +kernel, by decide +kernel⟩, by decide +kernel⟩
theorem k_X7_isNode (G : Gam) {o : Nat} {a1 : Int32} {M : Mem} {rv : Int32} (hf : f_X7_isNode o a1 M = some rv) : Kt yX7_isNode cX7_isNode 2 (some .boolean) 0 0 G [.ref (gB G + o), .int a1] M M (some (.int rv)) := by
  refine Kt.of (by decide) (Nat.le_of_ble_eq_true rfl) ?_
  intro p l e R s m args below meth c X hr hlk hnm
  refine s_drop [0, 1] (vs' := [(0, .ref (gB G + o)), (1, .int a1)]) rfl ?_
  rw [f_X7_isNode] at hf
  refine s_iload_n X 1 dX7_isNode_0 rfl rfl ?_
  have hs1 := pk_ite hf
  clear hf
  refine s_if_lt X (tgt := 16) dX7_isNode_1 rfl (fun c2 => ?_) (fun c2 => ?_)
  · have hf := hs1.1 c2
    refine s_iconst X (v := (0 : Int32)) dX7_isNode_16 rfl ?_
    cases hf
    exact s_zret X hr (bz_n (Or.inl rfl)) hlk dX7_isNode_17
  · have hf := hs1.2 c2
    refine s_iload_n X 1 dX7_isNode_4 rfl rfl ?_
    refine s_aload_n X 0 dX7_isNode_5 rfl rfl ?_
    obtain ⟨h3, hf⟩ := pk_chk hf
    refine s_getI X (ci := 7) (k := 3) rfl (Nat.le_of_ble_eq_true rfl) h3 wd169 (fun _ _ _ => rfl) dX7_isNode_6 ?_
    have hs4 := pk_ite hf
    clear hf
    refine s_icmp_ge X (tgt := 16) dX7_isNode_9 rfl (fun c5 => ?_) (fun c5 => ?_)
    · have hf := hs4.1 c5
      refine s_iconst X (v := (0 : Int32)) dX7_isNode_16 rfl ?_
      cases hf
      exact s_zret X hr (bz_n (Or.inl rfl)) hlk dX7_isNode_17
    · have hf := hs4.2 c5
      refine s_iconst X (v := (1 : Int32)) dX7_isNode_12 rfl ?_
      refine s_goto X (tgt := 17) dX7_isNode_13 rfl ?_
      cases hf
      exact s_zret X hr (bz_n (Or.inr rfl)) hlk dX7_isNode_17
theorem dX9_has_0 : decode cX9_has 0 = .ok (.iload_n 0, 1) := dk_26 (by decide +kernel)
theorem dX9_has_1 : decode cX9_has 1 = .ok (.iload_n 1, 1) := dk_27 (by decide +kernel)
theorem dX9_has_2 : decode cX9_has 2 = .ok (.ishr, 1) := dk_122 (by decide +kernel)
theorem dX9_has_3 : decode cX9_has 3 = .ok (.iconst 1, 1) := dk_4 (by decide +kernel)
theorem dX9_has_4 : decode cX9_has 4 = .ok (.iand, 1) := dk_126 (by decide +kernel)
theorem dX9_has_5 : decode cX9_has 5 = .ok (.ifCond .eq 7, 3) := dk_153 (x := 0) (y := 7) (by decide +kernel) rfl
theorem dX9_has_8 : decode cX9_has 8 = .ok (.iconst 1, 1) := dk_4 (by decide +kernel)
theorem dX9_has_9 : decode cX9_has 9 = .ok (.goto 4, 3) := dk_167 (x := 0) (y := 4) (by decide +kernel) rfl
theorem dX9_has_12 : decode cX9_has 12 = .ok (.iconst 0, 1) := dk_3 (by decide +kernel)
theorem dX9_has_13 : decode cX9_has 13 = .ok (.ireturn, 1) := dk_172 (by decide +kernel)
def f_X9_has (a1 : Int32) (a2 : Int32) (M : Mem) : Option Int32 :=
  if ((a1 >>> (a2 &&& 31)) &&& (1 : Int32)) = 0 then (
    some (0 : Int32)
    ) else (
    some (1 : Int32)
    )
theorem cd_X9_has : (yX9_has.cls ≠ "java/lang/invoke/MethodHandle" ∧ yX9_has.cls ≠ "java/lang/invoke/VarHandle") ∧ (parseMethodDescriptor yX9_has.desc).map (fun d => d.parameters.length) = some 2 := ⟨⟨by decide +kernel, by decide +kernel⟩, by decide +kernel⟩
theorem k_X9_has (G : Gam) {a1 : Int32} {a2 : Int32} {M : Mem} {rv : Int32} (hf : f_X9_has a1 a2 M = some rv) : Kt yX9_has cX9_has 2 (some .boolean) 0 0 G [.int a1, .int a2] M M (some (.int rv)) := by
  refine Kt.of (by decide) (Nat.le_of_ble_eq_true rfl) ?_
  intro p l e R s m args below meth c X hr hlk hnm
  refine s_drop [0, 1] (vs' := [(0, .int a1), (1, .int a2)]) rfl ?_
  rw [f_X9_has] at hf
  refine s_iload_n X 0 dX9_has_0 rfl rfl ?_
  refine s_iload_n X 1 dX9_has_1 rfl rfl ?_
  refine s_ishr X dX9_has_2 ?_
  refine s_iconst X (v := (1 : Int32)) dX9_has_3 rfl ?_
  refine s_iand X dX9_has_4 ?_
  have hs1 := pk_ite hf
  clear hf
  refine s_if_eq X (tgt := 12) dX9_has_5 rfl (fun c2 => ?_) (fun c2 => ?_)
  · have hf := hs1.1 c2
    refine s_iconst X (v := (0 : Int32)) dX9_has_12 rfl ?_
    cases hf
    exact s_zret X hr (bz_n (Or.inl rfl)) hlk dX9_has_13
  · have hf := hs1.2 c2
    refine s_iconst X (v := (1 : Int32)) dX9_has_8 rfl ?_
    refine s_goto X (tgt := 13) dX9_has_9 rfl ?_
    cases hf
    exact s_zret X hr (bz_n (Or.inr rfl)) hlk dX9_has_13
theorem dX7_replaced_0 : decode cX7_replaced 0 = .ok (.iload_n 0, 1) := dk_26 (by decide +kernel)
theorem dX7_replaced_1 : decode cX7_replaced 1 = .ok (.iconst 1, 1) := dk_4 (by decide +kernel)
theorem dX7_replaced_2 : decode cX7_replaced 2 = .ok (.iload_n 1, 1) := dk_27 (by decide +kernel)
theorem dX7_replaced_3 : decode cX7_replaced 3 = .ok (.ishl, 1) := dk_120 (by decide +kernel)
theorem dX7_replaced_4 : decode cX7_replaced 4 = .ok (.iconst 1, 1) := dk_4 (by decide +kernel)
theorem dX7_replaced_5 : decode cX7_replaced 5 = .ok (.isub, 1) := dk_100 (by decide +kernel)
theorem dX7_replaced_6 : decode cX7_replaced 6 = .ok (.iand, 1) := dk_126 (by decide +kernel)
theorem dX7_replaced_7 : decode cX7_replaced 7 = .ok (.istore_n 3, 1) := dk_62 (by decide +kernel)
theorem dX7_replaced_8 : decode cX7_replaced 8 = .ok (.iload_n 0, 1) := dk_26 (by decide +kernel)
theorem dX7_replaced_9 : decode cX7_replaced 9 = .ok (.iload_n 1, 1) := dk_27 (by decide +kernel)
theorem dX7_replaced_10 : decode cX7_replaced 10 = .ok (.iconst 1, 1) := dk_4 (by decide +kernel)
theorem dX7_replaced_11 : decode cX7_replaced 11 = .ok (.iadd, 1) := dk_96 (by decide +kernel)
theorem dX7_replaced_12 : decode cX7_replaced 12 = .ok (.ishr, 1) := dk_122 (by decide +kernel)
theorem dX7_replaced_13 : decode cX7_replaced 13 = .ok (.iload_n 1, 1) := dk_27 (by decide +kernel)
theorem dX7_replaced_14 : decode cX7_replaced 14 = .ok (.ishl, 1) := dk_120 (by decide +kernel)
theorem dX7_replaced_15 : decode cX7_replaced 15 = .ok (.istore 4, 2) := dk_54 (x := 4) (by decide +kernel)
theorem dX7_replaced_17 : decode cX7_replaced 17 = .ok (.iload_n 3, 1) := dk_29 (by decide +kernel)
theorem dX7_replaced_18 : decode cX7_replaced 18 = .ok (.iload 4, 2) := dk_21 (x := 4) (by decide +kernel)
theorem dX7_replaced_20 : decode cX7_replaced 20 = .ok (.ior, 1) := dk_128 (by decide +kernel)
theorem dX7_replaced_21 : decode cX7_replaced 21 = .ok (.iload_n 0, 1) := dk_26 (by decide +kernel)
theorem dX7_replaced_22 : decode cX7_replaced 22 = .ok (.iload_n 1, 1) := dk_27 (by decide +kernel)
theorem dX7_replaced_23 : decode cX7_replaced 23 = .ok (.invokestatic 60, 3) := dk_184 (x := 0) (y := 60) (by decide +kernel) rfl
theorem dX7_replaced_26 : decode cX7_replaced 26 = .ok (.ifCond .eq 7, 3) := dk_153 (x := 0) (y := 7) (by decide +kernel) rfl
theorem dX7_replaced_29 : decode cX7_replaced 29 = .ok (.iload_n 2, 1) := dk_28 (by decide +kernel)
theorem dX7_replaced_30 : decode cX7_replaced 30 = .ok (.goto 4, 3) := dk_167 (x := 0) (y := 4) (by decide +kernel) rfl
theorem dX7_replaced_33 : decode cX7_replaced 33 = .ok (.iconst 0, 1) := dk_3 (by decide +kernel)
theorem dX7_replaced_34 : decode cX7_replaced 34 = .ok (.ior, 1) := dk_128 (by decide +kernel)
theorem dX7_replaced_35 : decode cX7_replaced 35 = .ok (.ireturn, 1) := dk_172 (by decide +kernel)
def f_X7_replaced (a1 : Int32) (a2 : Int32) (a3 : Int32) (M : Mem) : Option Int32 :=
  bnd (a1 &&& (((1 : Int32) <<< (a2 &&& 31)) - (1 : Int32))) fun x1 =>
  bnd ((a1 >>> ((a2 + (1 : Int32)) &&& 31)) <<< (a2 &&& 31)) fun x3 =>
  obd (f_X9_has a1 a2 M) fun r6 =>
  if r6 = 0 then (
    some ((x1 ||| x3) ||| (0 : Int32))
    ) else (
    some ((x1 ||| x3) ||| a3)
    )
theorem cd_X7_replaced : (yX7_replaced.cls ≠ "java/lang/invoke/MethodHandle" ∧ yX7_replaced.cls ≠ "java/lang/invoke/VarHandle") ∧ (parseMethodDescriptor yX7_replaced.desc).map (fun d => d.parameters.length) = some 3 := ⟨⟨by decide +kernel, by decide +kernel⟩, by decide +kernel⟩
theorem k_X7_replaced (G : Gam) {a1 : Int32} {a2 : Int32} {a3 : Int32} {M : Mem} {rv : Int32} (hf : f_X7_replaced a1 a2 a3 M = some rv) : Kt yX7_replaced cX7_replaced 5 (some .int) 1 21 G [.int a1, .int a2, .int a3] M M (some (.int rv)) := by
  refine Kt.of (by decide) (Nat.le_of_ble_eq_true rfl) ?_
  intro p l e R s m args below meth c X hr hlk hnm
  refine s_drop [0, 1, 2] (vs' := [(0, .int a1), (1, .int a2), (2, .int a3)]) rfl ?_
  rw [f_X7_replaced] at hf
  refine s_iload_n X 0 dX7_replaced_0 rfl rfl ?_
  refine s_iconst X (v := (1 : Int32)) dX7_replaced_1 rfl ?_
  refine s_iload_n X 1 dX7_replaced_2 rfl rfl ?_
  refine s_ishl X dX7_replaced_3 ?_
  refine s_iconst X (v := (1 : Int32)) dX7_replaced_4 rfl ?_
  refine s_isub X dX7_replaced_5 ?_
  refine s_iand X dX7_replaced_6 ?_
  obtain ⟨x1, e2, hf⟩ := pk_bnd hf
  refine s_nmI e2 ?_
  refine s_istore_n X (vs' := [(0, .int a1), (1, .int a2), (2, .int a3), (3, .int x1)]) dX7_replaced_7 rfl (Nat.le_of_ble_eq_true rfl) [1, 2, 3, 0] rfl ?_
  refine s_iload_n X 0 dX7_replaced_8 rfl rfl ?_
  refine s_iload_n X 1 dX7_replaced_9 rfl rfl ?_
  refine s_iconst X (v := (1 : Int32)) dX7_replaced_10 rfl ?_
  refine s_iadd X dX7_replaced_11 ?_
  refine s_ishr X dX7_replaced_12 ?_
  refine s_iload_n X 1 dX7_replaced_13 rfl rfl ?_
  refine s_ishl X dX7_replaced_14 ?_
  obtain ⟨x3, e4, hf⟩ := pk_bnd hf
  refine s_nmI e4 ?_
  refine s_istore X (vs' := [(0, .int a1), (1, .int a2), (2, .int a3), (3, .int x1), (4, .int x3)]) dX7_replaced_15 (Nat.le_of_ble_eq_true rfl) [1, 2, 3, 4, 0] rfl ?_
  refine s_iload_n X 3 dX7_replaced_17 rfl rfl ?_
  refine s_iload X 4 dX7_replaced_18 rfl ?_
  refine s_ior X dX7_replaced_20 ?_
  refine s_iload_n X 0 dX7_replaced_21 rfl rfl ?_
  refine s_iload_n X 1 dX7_replaced_22 rfl rfl ?_
  obtain ⟨r6, hc5, hf⟩ := pk_obd hf
  refine s_callSN X (k_X9_has G hc5) (host := "QuorumGate") ns_6 wd712 wd713 wd126 cd_X9_has ⟨Nat.le_of_ble_eq_true rfl, Nat.le_of_ble_eq_true rfl⟩ (Nat.le_of_ble_eq_true rfl) dX7_replaced_23 ?_
  have hs7 := pk_ite hf
  clear hf
  refine s_if_eq X (tgt := 33) dX7_replaced_26 rfl (fun c8 => ?_) (fun c8 => ?_)
  · have hf := hs7.1 c8
    refine s_iconst X (v := (0 : Int32)) dX7_replaced_33 rfl ?_
    refine s_ior X dX7_replaced_34 ?_
    cases hf
    exact s_iret X hr hlk dX7_replaced_35
  · have hf := hs7.2 c8
    refine s_iload_n X 2 dX7_replaced_29 rfl rfl ?_
    refine s_goto X (tgt := 34) dX7_replaced_30 rfl ?_
    refine s_ior X dX7_replaced_34 ?_
    cases hf
    exact s_iret X hr hlk dX7_replaced_35
theorem dX7_makeWithin_0 : decode cX7_makeWithin 0 = .ok (.aload_n 0, 1) := dk_42 (by decide +kernel)
theorem dX7_makeWithin_1 : decode cX7_makeWithin 1 = .ok (.getfield 40, 3) := dk_180 (x := 0) (y := 40) (by decide +kernel) rfl
theorem dX7_makeWithin_4 : decode cX7_makeWithin 4 = .ok (.iconst 1, 1) := dk_4 (by decide +kernel)
theorem dX7_makeWithin_5 : decode cX7_makeWithin 5 = .ok (.isub, 1) := dk_100 (by decide +kernel)
theorem dX7_makeWithin_6 : decode cX7_makeWithin 6 = .ok (.istore_n 3, 1) := dk_62 (by decide +kernel)
theorem dX7_makeWithin_7 : decode cX7_makeWithin 7 = .ok (.aload_n 0, 1) := dk_42 (by decide +kernel)
theorem dX7_makeWithin_8 : decode cX7_makeWithin 8 = .ok (.getfield 9, 3) := dk_180 (x := 0) (y := 9) (by decide +kernel) rfl
theorem dX7_makeWithin_11 : decode cX7_makeWithin 11 = .ok (.iconst 0, 1) := dk_3 (by decide +kernel)
theorem dX7_makeWithin_12 : decode cX7_makeWithin 12 = .ok (.aload_n 0, 1) := dk_42 (by decide +kernel)
theorem dX7_makeWithin_13 : decode cX7_makeWithin 13 = .ok (.getfield 15, 3) := dk_180 (x := 0) (y := 15) (by decide +kernel) rfl
theorem dX7_makeWithin_16 : decode cX7_makeWithin 16 = .ok (.iconst 0, 1) := dk_3 (by decide +kernel)
theorem dX7_makeWithin_17 : decode cX7_makeWithin 17 = .ok (.aload_n 0, 1) := dk_42 (by decide +kernel)
theorem dX7_makeWithin_18 : decode cX7_makeWithin 18 = .ok (.getfield 40, 3) := dk_180 (x := 0) (y := 40) (by decide +kernel) rfl
theorem dX7_makeWithin_21 : decode cX7_makeWithin 21 = .ok (.invokestatic 44, 3) := dk_184 (x := 0) (y := 44) (by decide +kernel) rfl
theorem dX7_makeWithin_24 : decode cX7_makeWithin 24 = .ok (.aload_n 0, 1) := dk_42 (by decide +kernel)
theorem dX7_makeWithin_25 : decode cX7_makeWithin 25 = .ok (.iload_n 3, 1) := dk_29 (by decide +kernel)
theorem dX7_makeWithin_26 : decode cX7_makeWithin 26 = .ok (.iload_n 2, 1) := dk_28 (by decide +kernel)
theorem dX7_makeWithin_27 : decode cX7_makeWithin 27 = .ok (.iadd, 1) := dk_96 (by decide +kernel)
theorem dX7_makeWithin_28 : decode cX7_makeWithin 28 = .ok (.invokevirtual 21, 3) := dk_182 (x := 0) (y := 21) (by decide +kernel) rfl
theorem dX7_makeWithin_31 : decode cX7_makeWithin 31 = .ok (.iconst 0, 1) := dk_3 (by decide +kernel)
theorem dX7_makeWithin_32 : decode cX7_makeWithin 32 = .ok (.istore 4, 2) := dk_54 (x := 4) (by decide +kernel)
theorem dX7_makeWithin_34 : decode cX7_makeWithin 34 = .ok (.iload 4, 2) := dk_21 (x := 4) (by decide +kernel)
theorem dX7_makeWithin_36 : decode cX7_makeWithin 36 = .ok (.iload_n 3, 1) := dk_29 (by decide +kernel)
theorem dX7_makeWithin_37 : decode cX7_makeWithin 37 = .ok (.if_icmp .gt 60, 3) := dk_163 (x := 0) (y := 60) (by decide +kernel) rfl
theorem dX7_makeWithin_40 : decode cX7_makeWithin 40 = .ok (.iload 4, 2) := dk_21 (x := 4) (by decide +kernel)
theorem dX7_makeWithin_42 : decode cX7_makeWithin 42 = .ok (.iload_n 1, 1) := dk_27 (by decide +kernel)
theorem dX7_makeWithin_43 : decode cX7_makeWithin 43 = .ok (.if_icmp .eq 48, 3) := dk_159 (x := 0) (y := 48) (by decide +kernel) rfl
theorem dX7_makeWithin_46 : decode cX7_makeWithin 46 = .ok (.iload 4, 2) := dk_21 (x := 4) (by decide +kernel)
theorem dX7_makeWithin_48 : decode cX7_makeWithin 48 = .ok (.iload_n 1, 1) := dk_27 (by decide +kernel)
theorem dX7_makeWithin_49 : decode cX7_makeWithin 49 = .ok (.if_icmp .ge 8, 3) := dk_162 (x := 0) (y := 8) (by decide +kernel) rfl
theorem dX7_makeWithin_52 : decode cX7_makeWithin 52 = .ok (.iload 4, 2) := dk_21 (x := 4) (by decide +kernel)
theorem dX7_makeWithin_54 : decode cX7_makeWithin 54 = .ok (.goto 7, 3) := dk_167 (x := 0) (y := 7) (by decide +kernel) rfl
theorem dX7_makeWithin_57 : decode cX7_makeWithin 57 = .ok (.iload 4, 2) := dk_21 (x := 4) (by decide +kernel)
theorem dX7_makeWithin_59 : decode cX7_makeWithin 59 = .ok (.iconst 1, 1) := dk_4 (by decide +kernel)
theorem dX7_makeWithin_60 : decode cX7_makeWithin 60 = .ok (.isub, 1) := dk_100 (by decide +kernel)
theorem dX7_makeWithin_61 : decode cX7_makeWithin 61 = .ok (.istore 5, 2) := dk_54 (x := 5) (by decide +kernel)
theorem dX7_makeWithin_63 : decode cX7_makeWithin 63 = .ok (.aload_n 0, 1) := dk_42 (by decide +kernel)
theorem dX7_makeWithin_64 : decode cX7_makeWithin 64 = .ok (.getfield 9, 3) := dk_180 (x := 0) (y := 9) (by decide +kernel) rfl
theorem dX7_makeWithin_67 : decode cX7_makeWithin 67 = .ok (.iload 5, 2) := dk_21 (x := 5) (by decide +kernel)
theorem dX7_makeWithin_69 : decode cX7_makeWithin 69 = .ok (.aload_n 0, 1) := dk_42 (by decide +kernel)
theorem dX7_makeWithin_70 : decode cX7_makeWithin 70 = .ok (.getfield 15, 3) := dk_180 (x := 0) (y := 15) (by decide +kernel) rfl
theorem dX7_makeWithin_73 : decode cX7_makeWithin 73 = .ok (.iload 4, 2) := dk_21 (x := 4) (by decide +kernel)
theorem dX7_makeWithin_75 : decode cX7_makeWithin 75 = .ok (.iaload, 1) := dk_46 (by decide +kernel)
theorem dX7_makeWithin_76 : decode cX7_makeWithin 76 = .ok (.iload_n 1, 1) := dk_27 (by decide +kernel)
theorem dX7_makeWithin_77 : decode cX7_makeWithin 77 = .ok (.iload 4, 2) := dk_21 (x := 4) (by decide +kernel)
theorem dX7_makeWithin_79 : decode cX7_makeWithin 79 = .ok (.iload_n 2, 1) := dk_28 (by decide +kernel)
theorem dX7_makeWithin_80 : decode cX7_makeWithin 80 = .ok (.irem, 1) := dk_112 (by decide +kernel)
theorem dX7_makeWithin_81 : decode cX7_makeWithin 81 = .ok (.iload_n 2, 1) := dk_28 (by decide +kernel)
theorem dX7_makeWithin_82 : decode cX7_makeWithin 82 = .ok (.invokestatic 28, 3) := dk_184 (x := 0) (y := 28) (by decide +kernel) rfl
theorem dX7_makeWithin_85 : decode cX7_makeWithin 85 = .ok (.iload_n 3, 1) := dk_29 (by decide +kernel)
theorem dX7_makeWithin_86 : decode cX7_makeWithin 86 = .ok (.ishl, 1) := dk_120 (by decide +kernel)
theorem dX7_makeWithin_87 : decode cX7_makeWithin 87 = .ok (.invokestatic 50, 3) := dk_184 (x := 0) (y := 50) (by decide +kernel) rfl
theorem dX7_makeWithin_90 : decode cX7_makeWithin 90 = .ok (.iastore, 1) := dk_79 (by decide +kernel)
theorem dX7_makeWithin_91 : decode cX7_makeWithin 91 = .ok (.iinc 4 1, 3) := dk_132 (x := 4) (y := 1) (by decide +kernel) rfl
theorem dX7_makeWithin_94 : decode cX7_makeWithin 94 = .ok (.goto (-60), 3) := dk_167 (x := 255) (y := 196) (by decide +kernel) rfl
theorem dX7_makeWithin_97 : decode cX7_makeWithin 97 = .ok (.iconst 0, 1) := dk_3 (by decide +kernel)
theorem dX7_makeWithin_98 : decode cX7_makeWithin 98 = .ok (.istore 4, 2) := dk_54 (x := 4) (by decide +kernel)
theorem dX7_makeWithin_100 : decode cX7_makeWithin 100 = .ok (.iload 4, 2) := dk_21 (x := 4) (by decide +kernel)
theorem dX7_makeWithin_102 : decode cX7_makeWithin 102 = .ok (.iload_n 2, 1) := dk_28 (by decide +kernel)
theorem dX7_makeWithin_103 : decode cX7_makeWithin 103 = .ok (.if_icmp .ge 36, 3) := dk_162 (x := 0) (y := 36) (by decide +kernel) rfl
theorem dX7_makeWithin_106 : decode cX7_makeWithin 106 = .ok (.aload_n 0, 1) := dk_42 (by decide +kernel)
theorem dX7_makeWithin_107 : decode cX7_makeWithin 107 = .ok (.getfield 9, 3) := dk_180 (x := 0) (y := 9) (by decide +kernel) rfl
theorem dX7_makeWithin_110 : decode cX7_makeWithin 110 = .ok (.iload_n 3, 1) := dk_29 (by decide +kernel)
theorem dX7_makeWithin_111 : decode cX7_makeWithin 111 = .ok (.iload 4, 2) := dk_21 (x := 4) (by decide +kernel)
theorem dX7_makeWithin_113 : decode cX7_makeWithin 113 = .ok (.iadd, 1) := dk_96 (by decide +kernel)
theorem dX7_makeWithin_114 : decode cX7_makeWithin 114 = .ok (.aload_n 0, 1) := dk_42 (by decide +kernel)
theorem dX7_makeWithin_115 : decode cX7_makeWithin 115 = .ok (.getfield 15, 3) := dk_180 (x := 0) (y := 15) (by decide +kernel) rfl
theorem dX7_makeWithin_118 : decode cX7_makeWithin 118 = .ok (.iload_n 1, 1) := dk_27 (by decide +kernel)
theorem dX7_makeWithin_119 : decode cX7_makeWithin 119 = .ok (.iaload, 1) := dk_46 (by decide +kernel)
theorem dX7_makeWithin_120 : decode cX7_makeWithin 120 = .ok (.iload_n 1, 1) := dk_27 (by decide +kernel)
theorem dX7_makeWithin_121 : decode cX7_makeWithin 121 = .ok (.iload 4, 2) := dk_21 (x := 4) (by decide +kernel)
theorem dX7_makeWithin_123 : decode cX7_makeWithin 123 = .ok (.iload_n 2, 1) := dk_28 (by decide +kernel)
theorem dX7_makeWithin_124 : decode cX7_makeWithin 124 = .ok (.invokestatic 28, 3) := dk_184 (x := 0) (y := 28) (by decide +kernel) rfl
theorem dX7_makeWithin_127 : decode cX7_makeWithin 127 = .ok (.iload_n 3, 1) := dk_29 (by decide +kernel)
theorem dX7_makeWithin_128 : decode cX7_makeWithin 128 = .ok (.ishl, 1) := dk_120 (by decide +kernel)
theorem dX7_makeWithin_129 : decode cX7_makeWithin 129 = .ok (.invokestatic 50, 3) := dk_184 (x := 0) (y := 50) (by decide +kernel) rfl
theorem dX7_makeWithin_132 : decode cX7_makeWithin 132 = .ok (.iastore, 1) := dk_79 (by decide +kernel)
theorem dX7_makeWithin_133 : decode cX7_makeWithin 133 = .ok (.iinc 4 1, 3) := dk_132 (x := 4) (y := 1) (by decide +kernel) rfl
theorem dX7_makeWithin_136 : decode cX7_makeWithin 136 = .ok (.goto (-36), 3) := dk_167 (x := 255) (y := 220) (by decide +kernel) rfl
theorem dX7_makeWithin_139 : decode cX7_makeWithin 139 = .ok (.return_, 1) := dk_177 (by decide +kernel)
def f_X7_makeWithin_100 : Nat → Nat → Int32 → Int32 → Int32 → Int32 → Mem → Option Mem
  | 0, _, _, _, _, _, _ => none
  | n + 1, v0, v1, v2, v3, v4, M =>
    if v2 ≤ v4 then (
      some M
      ) else (
      chk (isO M 7 v0) <|
      bnd (mR M v0 0) fun o4 =>
      chk (isO M 100 o4) <|
      bnd (mR M v0 1) fun o7 =>
      chk (isO M 100 o7) <|
      chk (inB v1 (mLn M o7)) <|
      obd (f_X7_majorityFrom n v4 v2 M) fun r12 =>
      obd (f_X7_replaced (mI M o7 (v1).toNatClampNeg) v1 (r12 <<< (v3 &&& 31)) M) fun r14 =>
      chk (inB (v3 + v4) (mLn M o4)) <|
      bnd (sI M o4 ((v3 + v4)).toNatClampNeg r14) fun M16 =>
      bnd (v4 + (1 : Int32)) fun x21 =>
      f_X7_makeWithin_100 n v0 v1 v2 v3 x21 M16
      )
def f_X7_makeWithin_61 (k_34 : Nat → Int32 → Int32 → Int32 → Int32 → Mem → Option Mem) (n : Nat) (v0 : Nat) (v1 : Int32) (v2 : Int32) (v3 : Int32) (v4 : Int32) (u0 : Int32) (M : Mem) : Option Mem :=
    chk (isO M 7 v0) <|
    bnd (mR M v0 0) fun o2 =>
    chk (isO M 100 o2) <|
    bnd (mR M v0 1) fun o5 =>
    chk (isO M 100 o5) <|
    chk (inB v4 (mLn M o5)) <|
    chk (¬ v2 = 0) <|
    obd (f_X7_majorityFrom n (v4 - v4 / v2 * v2) v2 M) fun r11 =>
    obd (f_X7_replaced (mI M o5 (v4).toNatClampNeg) v1 (r11 <<< (v3 &&& 31)) M) fun r13 =>
    chk (inB u0 (mLn M o2)) <|
    bnd (sI M o2 (u0).toNatClampNeg r13) fun M15 =>
    bnd (v4 + (1 : Int32)) fun x20 =>
    k_34 v0 v1 v2 v3 x20 M15
def f_X7_makeWithin_34 : Nat → Nat → Int32 → Int32 → Int32 → Int32 → Mem → Option Mem
  | 0, _, _, _, _, _, _ => none
  | n + 1, v0, v1, v2, v3, v4, M =>
    if v3 < v4 then (
      f_X7_makeWithin_100 n v0 v1 v2 v3 (0 : Int32) M
      ) else (
      if v4 = v1 then (
        bnd (v4 + (1 : Int32)) fun x5 =>
        f_X7_makeWithin_34 n v0 v1 v2 v3 x5 M
        ) else (
        if v1 ≤ v4 then (
          f_X7_makeWithin_61 (f_X7_makeWithin_34 n) n v0 v1 v2 v3 v4 (v4 - (1 : Int32)) M
          ) else (
          f_X7_makeWithin_61 (f_X7_makeWithin_34 n) n v0 v1 v2 v3 v4 v4 M
          )
        )
      )
def f_X7_makeWithin (n : Nat) (o : Nat) (a1 : Int32) (a2 : Int32) (M : Mem) : Option Mem :=
  chk (isO M 7 o) <|
  bnd ((mI M o 3) - (1 : Int32)) fun x2 =>
  bnd (mR M o 0) fun o4 =>
  chk (isO M 100 o4) <|
  bnd (mR M o 1) fun o7 =>
  chk (isO M 100 o7) <|
  chk (cp_ok (0 : Int32) (0 : Int32) (mI M o 3) 0 (mLn M o4) (mLn M o7)) <|
  bnd (cpI M o4 ((0 : Int32)).toNatClampNeg o7 ((0 : Int32)).toNatClampNeg ((mI M o 3)).toNatClampNeg) fun M11 =>
  obd (f_X7_begin n o (x2 + a2) M11) fun M17 =>
  f_X7_makeWithin_34 n o a1 a2 x2 (0 : Int32) M17
theorem cd_X7_makeWithin : (yX7_makeWithin.cls ≠ "java/lang/invoke/MethodHandle" ∧ yX7_makeWithin.cls ≠ "java/lang/invoke/VarHandle") ∧ (parseMethodDescriptor yX7_makeWithin.desc).map (fun d => d.parameters.length) = some 2 := ⟨⟨by decide +kernel, by decide +kernel⟩, by decide +kernel⟩
section
variable {p : Program} {l : Launch} {e : Env} {R : Room} {s : State} {m : MethodId} {args : Array Value} {below : List Frame} {meth : Method} {c : Code} {G : Gam} {M0 : Mem}
theorem l_X7_makeWithin_100 {rv : Mem} (X : Cx p R s m args c G M0 cX7_makeWithin yX7_makeWithin.cls 6 2 45) (hr : meth.sig.returnType = none) (hlk : meth.locks = false) (hnm : meth.name = "makeWithin") : ∀ {n : Nat} (v0 : Nat) (v1 : Int32) (v2 : Int32) (v3 : Int32) (v4 : Int32) (M : Mem), f_X7_makeWithin_100 n v0 v1 v2 v3 v4 M = some rv → Sg p l e R s m args below meth c (Qm below G args s none M0 rv) G M0 6 100 [(0, .ref (gB G + v0)), (1, .int v1), (2, .int v2), (3, .int v3), (4, .int v4)] [] M := by
  intro n
  induction n with
  | zero => intro v0 v1 v2 v3 v4 M hf; exact (pk_none hf).elim
  | succ n ih =>
    intro v0 v1 v2 v3 v4 M hf
    rw [f_X7_makeWithin_100] at hf
    refine s_iload X 4 dX7_makeWithin_100 rfl ?_
    refine s_iload_n X 2 dX7_makeWithin_102 rfl rfl ?_
    have hs1 := pk_ite hf
    clear hf
    refine s_icmp_ge X (tgt := 139) dX7_makeWithin_103 rfl (fun c2 => ?_) (fun c2 => ?_)
    · have hf := hs1.1 c2
      cases hf
      exact s_vret X hr hlk dX7_makeWithin_139
    · have hf := hs1.2 c2
      refine s_aload_n X 0 dX7_makeWithin_106 rfl rfl ?_
      obtain ⟨h3, hf⟩ := pk_chk hf
      obtain ⟨o4, e5, hf⟩ := pk_bnd hf
      obtain ⟨h6, hf⟩ := pk_chk hf
      refine s_getR X (ci := 7) (k := 0) rfl (Nat.le_of_ble_eq_true rfl) h3 wd159 (fun _ _ _ => rfl) (e5 ▸ h6) dX7_makeWithin_107 (e5 ▸ ?_)
      refine s_iload_n X 3 dX7_makeWithin_110 rfl rfl ?_
      refine s_iload X 4 dX7_makeWithin_111 rfl ?_
      refine s_iadd X dX7_makeWithin_113 ?_
      refine s_aload_n X 0 dX7_makeWithin_114 rfl rfl ?_
      obtain ⟨o7, e8, hf⟩ := pk_bnd hf
      obtain ⟨h9, hf⟩ := pk_chk hf
      refine s_getR X (ci := 7) (k := 1) rfl (Nat.le_of_ble_eq_true rfl) h3 wd163 (fun _ _ _ => rfl) (e8 ▸ h9) dX7_makeWithin_115 (e8 ▸ ?_)
      refine s_iload_n X 1 dX7_makeWithin_118 rfl rfl ?_
      obtain ⟨h10, hf⟩ := pk_chk hf
      refine s_iald X h9 h10 dX7_makeWithin_119 ?_
      refine s_iload_n X 1 dX7_makeWithin_120 rfl rfl ?_
      refine s_iload X 4 dX7_makeWithin_121 rfl ?_
      refine s_iload_n X 2 dX7_makeWithin_123 rfl rfl ?_
      obtain ⟨r12, hc11, hf⟩ := pk_obd hf
      refine s_callS X (k_X7_majorityFrom G hc11) wd672 wd673 wd674 wd127 cd_X7_majorityFrom ⟨Nat.le_of_ble_eq_true rfl, Nat.le_of_ble_eq_true rfl⟩ (Nat.le_of_ble_eq_true rfl) dX7_makeWithin_124 ?_
      refine s_iload_n X 3 dX7_makeWithin_127 rfl rfl ?_
      refine s_ishl X dX7_makeWithin_128 ?_
      obtain ⟨r14, hc13, hf⟩ := pk_obd hf
      refine s_callS X (k_X7_replaced G hc13) wd708 wd709 wd710 wd127 cd_X7_replaced ⟨Nat.le_of_ble_eq_true rfl, Nat.le_of_ble_eq_true rfl⟩ (Nat.le_of_ble_eq_true rfl) dX7_makeWithin_129 ?_
      obtain ⟨h15, hf⟩ := pk_chk hf
      obtain ⟨M16, e17, hf⟩ := pk_bnd hf
      refine s_iast X h6 h15 e17 dX7_makeWithin_132 ?_
      have h18 := io_sI e17 h3
      have h19 := io_sI e17 h6
      have h20 := io_sI e17 h9
      obtain ⟨x21, e22, hf⟩ := pk_bnd hf
      refine s_iinc X (vs' := [(0, .ref (gB G + v0)), (1, .int v1), (2, .int v2), (3, .int v3), (4, .int x21)]) 4 dX7_makeWithin_133 rfl (v := x21) e22.symm (Nat.le_of_ble_eq_true rfl) [1, 2, 3, 4, 0] rfl ?_
      refine s_goto X (tgt := 100) dX7_makeWithin_136 rfl ?_
      exact ih _ _ _ _ _ _ hf
theorem l_X7_makeWithin_61 {k_34 : Nat → Int32 → Int32 → Int32 → Int32 → Mem → Option Mem} {rv : Mem} {n : Nat} {v0 : Nat} {v1 : Int32} {v2 : Int32} {v3 : Int32} {v4 : Int32} {u0 : Int32} {M : Mem} (X : Cx p R s m args c G M0 cX7_makeWithin yX7_makeWithin.cls 6 2 45) (hr : meth.sig.returnType = none) (hlk : meth.locks = false) (hnm : meth.name = "makeWithin") (hk_34 : ∀ (v0 : Nat), ∀ (v1 : Int32), ∀ (v2 : Int32), ∀ (v3 : Int32), ∀ (v4 : Int32), ∀ M : Mem, k_34 v0 v1 v2 v3 v4 M = some rv → Sg p l e R s m args below meth c (Qm below G args s none M0 rv) G M0 6 34 [(0, .ref (gB G + v0)), (1, .int v1), (2, .int v2), (3, .int v3), (4, .int v4)] [] M) (hf : f_X7_makeWithin_61 k_34 n v0 v1 v2 v3 v4 u0 M = some rv) : Sg p l e R s m args below meth c (Qm below G args s none M0 rv) G M0 6 61 [(0, .ref (gB G + v0)), (1, .int v1), (2, .int v2), (3, .int v3), (4, .int v4)] [.int u0] M := by
  rw [f_X7_makeWithin_61] at hf
  refine s_istore X (vs' := [(0, .ref (gB G + v0)), (1, .int v1), (2, .int v2), (3, .int v3), (4, .int v4), (5, .int u0)]) dX7_makeWithin_61 (Nat.le_of_ble_eq_true rfl) [1, 2, 3, 4, 5, 0] rfl ?_
  refine s_aload_n X 0 dX7_makeWithin_63 rfl rfl ?_
  obtain ⟨h1, hf⟩ := pk_chk hf
  obtain ⟨o2, e3, hf⟩ := pk_bnd hf
  obtain ⟨h4, hf⟩ := pk_chk hf
  refine s_getR X (ci := 7) (k := 0) rfl (Nat.le_of_ble_eq_true rfl) h1 wd159 (fun _ _ _ => rfl) (e3 ▸ h4) dX7_makeWithin_64 (e3 ▸ ?_)
  refine s_iload X 5 dX7_makeWithin_67 rfl ?_
  refine s_aload_n X 0 dX7_makeWithin_69 rfl rfl ?_
  obtain ⟨o5, e6, hf⟩ := pk_bnd hf
  obtain ⟨h7, hf⟩ := pk_chk hf
  refine s_getR X (ci := 7) (k := 1) rfl (Nat.le_of_ble_eq_true rfl) h1 wd163 (fun _ _ _ => rfl) (e6 ▸ h7) dX7_makeWithin_70 (e6 ▸ ?_)
  refine s_iload X 4 dX7_makeWithin_73 rfl ?_
  obtain ⟨h8, hf⟩ := pk_chk hf
  refine s_iald X h7 h8 dX7_makeWithin_75 ?_
  refine s_iload_n X 1 dX7_makeWithin_76 rfl rfl ?_
  refine s_iload X 4 dX7_makeWithin_77 rfl ?_
  refine s_iload_n X 2 dX7_makeWithin_79 rfl rfl ?_
  obtain ⟨h9, hf⟩ := pk_chk hf
  refine s_irem X dX7_makeWithin_80 h9 ?_
  refine s_iload_n X 2 dX7_makeWithin_81 rfl rfl ?_
  obtain ⟨r11, hc10, hf⟩ := pk_obd hf
  refine s_callS X (k_X7_majorityFrom G hc10) wd672 wd673 wd674 wd127 cd_X7_majorityFrom ⟨Nat.le_of_ble_eq_true rfl, Nat.le_of_ble_eq_true rfl⟩ (Nat.le_of_ble_eq_true rfl) dX7_makeWithin_82 ?_
  refine s_iload_n X 3 dX7_makeWithin_85 rfl rfl ?_
  refine s_ishl X dX7_makeWithin_86 ?_
  obtain ⟨r13, hc12, hf⟩ := pk_obd hf
  refine s_callS X (k_X7_replaced G hc12) wd708 wd709 wd710 wd127 cd_X7_replaced ⟨Nat.le_of_ble_eq_true rfl, Nat.le_of_ble_eq_true rfl⟩ (Nat.le_of_ble_eq_true rfl) dX7_makeWithin_87 ?_
  obtain ⟨h14, hf⟩ := pk_chk hf
  obtain ⟨M15, e16, hf⟩ := pk_bnd hf
  refine s_iast X h4 h14 e16 dX7_makeWithin_90 ?_
  have h17 := io_sI e16 h1
  have h18 := io_sI e16 h4
  have h19 := io_sI e16 h7
  obtain ⟨x20, e21, hf⟩ := pk_bnd hf
  refine s_iinc X (vs' := [(0, .ref (gB G + v0)), (1, .int v1), (2, .int v2), (3, .int v3), (4, .int x20), (5, .int u0)]) 4 dX7_makeWithin_91 rfl (v := x20) e21.symm (Nat.le_of_ble_eq_true rfl) [1, 2, 3, 4, 0, 5] rfl ?_
  refine s_goto X (tgt := 34) dX7_makeWithin_94 rfl ?_
  refine s_drop [0, 1, 2, 3, 4] (vs' := [(0, .ref (gB G + v0)), (1, .int v1), (2, .int v2), (3, .int v3), (4, .int x20)]) rfl ?_
  exact hk_34 _ _ _ _ _ _ hf
theorem l_X7_makeWithin_34 {rv : Mem} (X : Cx p R s m args c G M0 cX7_makeWithin yX7_makeWithin.cls 6 2 45) (hr : meth.sig.returnType = none) (hlk : meth.locks = false) (hnm : meth.name = "makeWithin") : ∀ {n : Nat} (v0 : Nat) (v1 : Int32) (v2 : Int32) (v3 : Int32) (v4 : Int32) (M : Mem), f_X7_makeWithin_34 n v0 v1 v2 v3 v4 M = some rv → Sg p l e R s m args below meth c (Qm below G args s none M0 rv) G M0 6 34 [(0, .ref (gB G + v0)), (1, .int v1), (2, .int v2), (3, .int v3), (4, .int v4)] [] M := by
  intro n
  induction n with
  | zero => intro v0 v1 v2 v3 v4 M hf; exact (pk_none hf).elim
  | succ n ih =>
    intro v0 v1 v2 v3 v4 M hf
    rw [f_X7_makeWithin_34] at hf
    refine s_iload X 4 dX7_makeWithin_34 rfl ?_
    refine s_iload_n X 3 dX7_makeWithin_36 rfl rfl ?_
    have hs1 := pk_ite hf
    clear hf
    refine s_icmp_gt X (tgt := 97) dX7_makeWithin_37 rfl (fun c2 => ?_) (fun c2 => ?_)
    · have hf := hs1.1 c2
      refine s_iconst X (v := (0 : Int32)) dX7_makeWithin_97 rfl ?_
      refine s_istore X (vs' := [(0, .ref (gB G + v0)), (1, .int v1), (2, .int v2), (3, .int v3), (4, .int (0 : Int32))]) dX7_makeWithin_98 (Nat.le_of_ble_eq_true rfl) [1, 2, 3, 4, 0] rfl ?_
      exact l_X7_makeWithin_100 X hr hlk hnm _ _ _ _ _ _ hf
    · have hf := hs1.2 c2
      refine s_iload X 4 dX7_makeWithin_40 rfl ?_
      refine s_iload_n X 1 dX7_makeWithin_42 rfl rfl ?_
      have hs3 := pk_ite hf
      clear hf
      refine s_icmp_eq X (tgt := 91) dX7_makeWithin_43 rfl (fun c4 => ?_) (fun c4 => ?_)
      · have hf := hs3.1 c4
        obtain ⟨x5, e6, hf⟩ := pk_bnd hf
        refine s_iinc X (vs' := [(0, .ref (gB G + v0)), (1, .int v1), (2, .int v2), (3, .int v3), (4, .int x5)]) 4 dX7_makeWithin_91 rfl (v := x5) e6.symm (Nat.le_of_ble_eq_true rfl) [1, 2, 3, 4, 0] rfl ?_
        refine s_goto X (tgt := 34) dX7_makeWithin_94 rfl ?_
        exact ih _ _ _ _ _ _ hf
      · have hf := hs3.2 c4
        refine s_iload X 4 dX7_makeWithin_46 rfl ?_
        refine s_iload_n X 1 dX7_makeWithin_48 rfl rfl ?_
        have hs7 := pk_ite hf
        clear hf
        refine s_icmp_ge X (tgt := 57) dX7_makeWithin_49 rfl (fun c8 => ?_) (fun c8 => ?_)
        · have hf := hs7.1 c8
          refine s_iload X 4 dX7_makeWithin_57 rfl ?_
          refine s_iconst X (v := (1 : Int32)) dX7_makeWithin_59 rfl ?_
          refine s_isub X dX7_makeWithin_60 ?_
          exact l_X7_makeWithin_61 X hr hlk hnm ih hf
        · have hf := hs7.2 c8
          refine s_iload X 4 dX7_makeWithin_52 rfl ?_
          refine s_goto X (tgt := 61) dX7_makeWithin_54 rfl ?_
          exact l_X7_makeWithin_61 X hr hlk hnm ih hf
end
theorem k_X7_makeWithin (G : Gam) {n : Nat} {o : Nat} {a1 : Int32} {a2 : Int32} {M : Mem} {rv : Mem} (hf : f_X7_makeWithin n o a1 a2 M = some rv) : Kt yX7_makeWithin cX7_makeWithin 6 none 2 45 G [.ref (gB G + o), .int a1, .int a2] M rv none := by
  refine Kt.of (by decide) (Nat.le_of_ble_eq_true rfl) ?_
  intro p l e R s m args below meth c X hr hlk hnm
  refine s_drop [0, 1, 2] (vs' := [(0, .ref (gB G + o)), (1, .int a1), (2, .int a2)]) rfl ?_
  rw [f_X7_makeWithin] at hf
  refine s_aload_n X 0 dX7_makeWithin_0 rfl rfl ?_
  obtain ⟨h1, hf⟩ := pk_chk hf
  refine s_getI X (ci := 7) (k := 3) rfl (Nat.le_of_ble_eq_true rfl) h1 wd169 (fun _ _ _ => rfl) dX7_makeWithin_1 ?_
  refine s_iconst X (v := (1 : Int32)) dX7_makeWithin_4 rfl ?_
  refine s_isub X dX7_makeWithin_5 ?_
  obtain ⟨x2, e3, hf⟩ := pk_bnd hf
  refine s_nmI e3 ?_
  refine s_istore_n X (vs' := [(0, .ref (gB G + o)), (1, .int a1), (2, .int a2), (3, .int x2)]) dX7_makeWithin_6 rfl (Nat.le_of_ble_eq_true rfl) [1, 2, 3, 0] rfl ?_
  refine s_aload_n X 0 dX7_makeWithin_7 rfl rfl ?_
  obtain ⟨o4, e5, hf⟩ := pk_bnd hf
  obtain ⟨h6, hf⟩ := pk_chk hf
  refine s_getR X (ci := 7) (k := 0) rfl (Nat.le_of_ble_eq_true rfl) h1 wd159 (fun _ _ _ => rfl) (e5 ▸ h6) dX7_makeWithin_8 (e5 ▸ ?_)
  refine s_iconst X (v := (0 : Int32)) dX7_makeWithin_11 rfl ?_
  refine s_aload_n X 0 dX7_makeWithin_12 rfl rfl ?_
  obtain ⟨o7, e8, hf⟩ := pk_bnd hf
  obtain ⟨h9, hf⟩ := pk_chk hf
  refine s_getR X (ci := 7) (k := 1) rfl (Nat.le_of_ble_eq_true rfl) h1 wd163 (fun _ _ _ => rfl) (e8 ▸ h9) dX7_makeWithin_13 (e8 ▸ ?_)
  refine s_iconst X (v := (0 : Int32)) dX7_makeWithin_16 rfl ?_
  refine s_aload_n X 0 dX7_makeWithin_17 rfl rfl ?_
  refine s_getI X (ci := 7) (k := 3) rfl (Nat.le_of_ble_eq_true rfl) h1 wd169 (fun _ _ _ => rfl) dX7_makeWithin_18 ?_
  obtain ⟨h10, hf⟩ := pk_chk hf
  obtain ⟨M11, e12, hf⟩ := pk_bnd hf
  refine s_copy X wd707 wd621 wd620 wd137 h6 h9 h10.1 h10.2.1 h10.2.2.1 h10.2.2.2.1 h10.2.2.2.2 ⟨Nat.le_of_ble_eq_true rfl, Nat.le_of_ble_eq_true rfl⟩ e12 dX7_makeWithin_21 ?_
  have h13 := io_cp e12 h1
  have h14 := io_cp e12 h6
  have h15 := io_cp e12 h9
  refine s_aload_n X 0 dX7_makeWithin_24 rfl rfl ?_
  refine s_iload_n X 3 dX7_makeWithin_25 rfl rfl ?_
  refine s_iload_n X 2 dX7_makeWithin_26 rfl rfl ?_
  refine s_iadd X dX7_makeWithin_27 ?_
  obtain ⟨M17, hc16, hf⟩ := pk_obd hf
  refine s_callV X (ci := 7) (k_X7_begin G hc16) rfl h13 wd575 wd577 wd0 wd578 wd127 cd_X7_begin ⟨Nat.le_of_ble_eq_true rfl, Nat.le_of_ble_eq_true rfl⟩ (Nat.le_of_ble_eq_true rfl) dX7_makeWithin_28 ?_
  refine s_iconst X (v := (0 : Int32)) dX7_makeWithin_31 rfl ?_
  refine s_istore X (vs' := [(0, .ref (gB G + o)), (1, .int a1), (2, .int a2), (3, .int x2), (4, .int (0 : Int32))]) dX7_makeWithin_32 (Nat.le_of_ble_eq_true rfl) [1, 2, 3, 4, 0] rfl ?_
  exact l_X7_makeWithin_34 X hr hlk hnm _ _ _ _ _ _ hf
theorem dX9_within_0 : decode cX9_within 0 = .ok (.aload_n 0, 1) := dk_42 (by decide +kernel)
theorem dX9_within_1 : decode cX9_within 1 = .ok (.getfield 10, 3) := dk_180 (x := 0) (y := 10) (by decide +kernel) rfl
theorem dX9_within_4 : decode cX9_within 4 = .ok (.iload_n 1, 1) := dk_27 (by decide +kernel)
theorem dX9_within_5 : decode cX9_within 5 = .ok (.invokevirtual 71, 3) := dk_182 (x := 0) (y := 71) (by decide +kernel) rfl
theorem dX9_within_8 : decode cX9_within 8 = .ok (.ifCond .eq 30, 3) := dk_153 (x := 0) (y := 30) (by decide +kernel) rfl
theorem dX9_within_11 : decode cX9_within 11 = .ok (.iload_n 2, 1) := dk_28 (by decide +kernel)
theorem dX9_within_12 : decode cX9_within 12 = .ok (.iconst 2, 1) := dk_5 (by decide +kernel)
theorem dX9_within_13 : decode cX9_within 13 = .ok (.if_icmp .lt 25, 3) := dk_161 (x := 0) (y := 25) (by decide +kernel) rfl
theorem dX9_within_16 : decode cX9_within 16 = .ok (.iload_n 2, 1) := dk_28 (by decide +kernel)
theorem dX9_within_17 : decode cX9_within 17 = .ok (.bipush 8, 2) := dk_16 (x := 8) (by decide +kernel) rfl
theorem dX9_within_19 : decode cX9_within 19 = .ok (.if_icmp .gt 19, 3) := dk_163 (x := 0) (y := 19) (by decide +kernel) rfl
theorem dX9_within_22 : decode cX9_within 22 = .ok (.aload_n 0, 1) := dk_42 (by decide +kernel)
theorem dX9_within_23 : decode cX9_within 23 = .ok (.getfield 10, 3) := dk_180 (x := 0) (y := 10) (by decide +kernel) rfl
theorem dX9_within_26 : decode cX9_within 26 = .ok (.getfield 75, 3) := dk_180 (x := 0) (y := 75) (by decide +kernel) rfl
theorem dX9_within_29 : decode cX9_within 29 = .ok (.iconst 1, 1) := dk_4 (by decide +kernel)
theorem dX9_within_30 : decode cX9_within 30 = .ok (.isub, 1) := dk_100 (by decide +kernel)
theorem dX9_within_31 : decode cX9_within 31 = .ok (.iload_n 2, 1) := dk_28 (by decide +kernel)
theorem dX9_within_32 : decode cX9_within 32 = .ok (.iadd, 1) := dk_96 (by decide +kernel)
theorem dX9_within_33 : decode cX9_within 33 = .ok (.bipush 16, 2) := dk_16 (x := 16) (by decide +kernel) rfl
theorem dX9_within_35 : decode cX9_within 35 = .ok (.if_icmp .le 5, 3) := dk_164 (x := 0) (y := 5) (by decide +kernel) rfl
theorem dX9_within_38 : decode cX9_within 38 = .ok (.iconst (-1), 1) := dk_2 (by decide +kernel)
theorem dX9_within_39 : decode cX9_within 39 = .ok (.ireturn, 1) := dk_172 (by decide +kernel)
theorem dX9_within_40 : decode cX9_within 40 = .ok (.aload_n 0, 1) := dk_42 (by decide +kernel)
theorem dX9_within_41 : decode cX9_within 41 = .ok (.getfield 10, 3) := dk_180 (x := 0) (y := 10) (by decide +kernel) rfl
theorem dX9_within_44 : decode cX9_within 44 = .ok (.iload_n 1, 1) := dk_27 (by decide +kernel)
theorem dX9_within_45 : decode cX9_within 45 = .ok (.iload_n 2, 1) := dk_28 (by decide +kernel)
theorem dX9_within_46 : decode cX9_within 46 = .ok (.invokevirtual 79, 3) := dk_182 (x := 0) (y := 79) (by decide +kernel) rfl
theorem dX9_within_49 : decode cX9_within 49 = .ok (.aload_n 0, 1) := dk_42 (by decide +kernel)
theorem dX9_within_50 : decode cX9_within 50 = .ok (.invokevirtual 55, 3) := dk_182 (x := 0) (y := 55) (by decide +kernel) rfl
theorem dX9_within_53 : decode cX9_within 53 = .ok (.ireturn, 1) := dk_172 (by decide +kernel)
def f_X9_within (n : Nat) (o : Nat) (a1 : Int32) (a2 : Int32) (M : Mem) : Option (Int32 × Mem) :=
  chk (isO M 9 o) <|
  bnd (mR M o 0) fun o2 =>
  chk (isO M 7 o2) <|
  obd (f_X7_isNode o2 a1 M) fun r6 =>
  if r6 = 0 then (
    some ((-1 : Int32), M)
    ) else (
    if a2 < (2 : Int32) then (
      some ((-1 : Int32), M)
      ) else (
      if (8 : Int32) < a2 then (
        some ((-1 : Int32), M)
        ) else (
        bnd (mR M o 0) fun o13 =>
        chk (isO M 7 o13) <|
        if (((mI M o13 3) - (1 : Int32)) + a2) ≤ (16 : Int32) then (
          bnd (mR M o 0) fun o18 =>
          chk (isO M 7 o18) <|
          obd (f_X7_makeWithin n o18 a1 a2 M) fun M22 =>
          chk (isO M22 9 o) <|
          obd2 (f_X9_startAnew n o M22) fun r25 M26 =>
          some (r25, M26)
          ) else (
          some ((-1 : Int32), M)
          )
        )
      )
    )
theorem cd_X9_within : (yX9_within.cls ≠ "java/lang/invoke/MethodHandle" ∧ yX9_within.cls ≠ "java/lang/invoke/VarHandle") ∧ (parseMethodDescriptor yX9_within.desc).map (fun d => d.parameters.length) = some 2 := ⟨⟨by decide +kernel, by decide +kernel⟩, by decide +kernel⟩
theorem k_X9_within (G : Gam) {n : Nat} {o : Nat} {a1 : Int32} {a2 : Int32} {M : Mem} {rv : (Int32 × Mem)} (hf : f_X9_within n o a1 a2 M = some rv) : Kt yX9_within cX9_within 3 (some .int) 5 104 G [.ref (gB G + o), .int a1, .int a2] M rv.2 (some (.int rv.1)) := by
  refine Kt.of (by decide) (Nat.le_of_ble_eq_true rfl) ?_
  intro p l e R s m args below meth c X hr hlk hnm
  refine s_drop [0, 1, 2] (vs' := [(0, .ref (gB G + o)), (1, .int a1), (2, .int a2)]) rfl ?_
  rw [f_X9_within] at hf
  refine s_aload_n X 0 dX9_within_0 rfl rfl ?_
  obtain ⟨h1, hf⟩ := pk_chk hf
  obtain ⟨o2, e3, hf⟩ := pk_bnd hf
  obtain ⟨h4, hf⟩ := pk_chk hf
  refine s_getR X (ci := 9) (k := 0) rfl (Nat.le_of_ble_eq_true rfl) h1 wd627 (fun _ _ _ => rfl) (e3 ▸ h4) dX9_within_1 (e3 ▸ ?_)
  refine s_iload_n X 1 dX9_within_4 rfl rfl ?_
  obtain ⟨r6, hc5, hf⟩ := pk_obd hf
  refine s_callV X (ci := 7) (k_X7_isNode G hc5) rfl h4 wd699 wd700 wd701 wd702 wd127 cd_X7_isNode ⟨Nat.le_of_ble_eq_true rfl, Nat.le_of_ble_eq_true rfl⟩ (Nat.le_of_ble_eq_true rfl) dX9_within_5 ?_
  have hs7 := pk_ite hf
  clear hf
  refine s_if_eq X (tgt := 38) dX9_within_8 rfl (fun c8 => ?_) (fun c8 => ?_)
  · have hf := hs7.1 c8
    refine s_iconst X (v := (-1 : Int32)) dX9_within_38 rfl ?_
    cases hf
    exact s_iret X hr hlk dX9_within_39
  · have hf := hs7.2 c8
    refine s_iload_n X 2 dX9_within_11 rfl rfl ?_
    refine s_iconst X (v := (2 : Int32)) dX9_within_12 rfl ?_
    have hs9 := pk_ite hf
    clear hf
    refine s_icmp_lt X (tgt := 38) dX9_within_13 rfl (fun c10 => ?_) (fun c10 => ?_)
    · have hf := hs9.1 c10
      refine s_iconst X (v := (-1 : Int32)) dX9_within_38 rfl ?_
      cases hf
      exact s_iret X hr hlk dX9_within_39
    · have hf := hs9.2 c10
      refine s_iload_n X 2 dX9_within_16 rfl rfl ?_
      refine s_bipush X (v := (8 : Int32)) dX9_within_17 rfl ?_
      have hs11 := pk_ite hf
      clear hf
      refine s_icmp_gt X (tgt := 38) dX9_within_19 rfl (fun c12 => ?_) (fun c12 => ?_)
      · have hf := hs11.1 c12
        refine s_iconst X (v := (-1 : Int32)) dX9_within_38 rfl ?_
        cases hf
        exact s_iret X hr hlk dX9_within_39
      · have hf := hs11.2 c12
        refine s_aload_n X 0 dX9_within_22 rfl rfl ?_
        obtain ⟨o13, e14, hf⟩ := pk_bnd hf
        obtain ⟨h15, hf⟩ := pk_chk hf
        refine s_getR X (ci := 9) (k := 0) rfl (Nat.le_of_ble_eq_true rfl) h1 wd627 (fun _ _ _ => rfl) (e14 ▸ h15) dX9_within_23 (e14 ▸ ?_)
        refine s_getI X (ci := 7) (k := 3) rfl (Nat.le_of_ble_eq_true rfl) h15 wd170 (fun _ _ _ => rfl) dX9_within_26 ?_
        refine s_iconst X (v := (1 : Int32)) dX9_within_29 rfl ?_
        refine s_isub X dX9_within_30 ?_
        refine s_iload_n X 2 dX9_within_31 rfl rfl ?_
        refine s_iadd X dX9_within_32 ?_
        refine s_bipush X (v := (16 : Int32)) dX9_within_33 rfl ?_
        have hs16 := pk_ite hf
        clear hf
        refine s_icmp_le X (tgt := 40) dX9_within_35 rfl (fun c17 => ?_) (fun c17 => ?_)
        · have hf := hs16.1 c17
          refine s_aload_n X 0 dX9_within_40 rfl rfl ?_
          obtain ⟨o18, e19, hf⟩ := pk_bnd hf
          obtain ⟨h20, hf⟩ := pk_chk hf
          refine s_getR X (ci := 9) (k := 0) rfl (Nat.le_of_ble_eq_true rfl) h1 wd627 (fun _ _ _ => rfl) (e19 ▸ h20) dX9_within_41 (e19 ▸ ?_)
          refine s_iload_n X 1 dX9_within_44 rfl rfl ?_
          refine s_iload_n X 2 dX9_within_45 rfl rfl ?_
          obtain ⟨M22, hc21, hf⟩ := pk_obd hf
          refine s_callV X (ci := 7) (k_X7_makeWithin G hc21) rfl h20 wd703 wd704 wd705 wd706 wd127 cd_X7_makeWithin ⟨Nat.le_of_ble_eq_true rfl, Nat.le_of_ble_eq_true rfl⟩ (Nat.le_of_ble_eq_true rfl) dX9_within_46 ?_
          refine s_aload_n X 0 dX9_within_49 rfl rfl ?_
          obtain ⟨h23, hf⟩ := pk_chk hf
          obtain ⟨r25, M26, hc24, hf⟩ := pk_obd2 hf
          refine s_callV X (ci := 9) (k_X9_startAnew G hc24) rfl h23 wd582 wd584 wd1 wd585 wd126 cd_X9_startAnew ⟨Nat.le_of_ble_eq_true rfl, Nat.le_of_ble_eq_true rfl⟩ (Nat.le_of_ble_eq_true rfl) dX9_within_50 ?_
          cases hf
          exact s_iret X hr hlk dX9_within_53
        · have hf := hs16.2 c17
          refine s_iconst X (v := (-1 : Int32)) dX9_within_38 rfl ?_
          cases hf
          exact s_iret X hr hlk dX9_within_39
theorem dX10_isNode_0 : decode cX10_isNode 0 = .ok (.iload_n 1, 1) := dk_27 (by decide +kernel)
theorem dX10_isNode_1 : decode cX10_isNode 1 = .ok (.iconst 0, 1) := dk_3 (by decide +kernel)
theorem dX10_isNode_2 : decode cX10_isNode 2 = .ok (.aload_n 0, 1) := dk_42 (by decide +kernel)
theorem dX10_isNode_3 : decode cX10_isNode 3 = .ok (.getfield 7, 3) := dk_180 (x := 0) (y := 7) (by decide +kernel) rfl
theorem dX10_isNode_6 : decode cX10_isNode 6 = .ok (.iconst 0, 1) := dk_3 (by decide +kernel)
theorem dX10_isNode_7 : decode cX10_isNode 7 = .ok (.iaload, 1) := dk_46 (by decide +kernel)
theorem dX10_isNode_8 : decode cX10_isNode 8 = .ok (.iconst 1, 1) := dk_4 (by decide +kernel)
theorem dX10_isNode_9 : decode cX10_isNode 9 = .ok (.isub, 1) := dk_100 (by decide +kernel)
theorem dX10_isNode_10 : decode cX10_isNode 10 = .ok (.invokestatic 49, 3) := dk_184 (x := 0) (y := 49) (by decide +kernel) rfl
theorem dX10_isNode_13 : decode cX10_isNode 13 = .ok (.ireturn, 1) := dk_172 (by decide +kernel)
def f_X10_isNode (o : Nat) (a1 : Int32) (M : Mem) : Option Int32 :=
  chk (isO M 10 o) <|
  bnd (mR M o 0) fun o2 =>
  chk (isO M 100 o2) <|
  chk (inB (0 : Int32) (mLn M o2)) <|
  obd (f_X10_isIn a1 (0 : Int32) ((mI M o2 ((0 : Int32)).toNatClampNeg) - (1 : Int32)) M) fun r7 =>
  chk (bz r7) <|
  some r7
theorem cd_X10_isNode : (yX10_isNode.cls ≠ "java/lang/invoke/MethodHandle" ∧ yX10_isNode.cls ≠ "java/lang/invoke/VarHandle") ∧ (parseMethodDescriptor yX10_isNode.desc).map (fun d => d.parameters.length) = some 1 := ⟨⟨by decide +kernel, by decide +kernel⟩, by decide +kernel⟩
theorem k_X10_isNode (G : Gam) {o : Nat} {a1 : Int32} {M : Mem} {rv : Int32} (hf : f_X10_isNode o a1 M = some rv) : Kt yX10_isNode cX10_isNode 2 (some .boolean) 1 22 G [.ref (gB G + o), .int a1] M M (some (.int rv)) := by
  refine Kt.of (by decide) (Nat.le_of_ble_eq_true rfl) ?_
  intro p l e R s m args below meth c X hr hlk hnm
  refine s_drop [0, 1] (vs' := [(0, .ref (gB G + o)), (1, .int a1)]) rfl ?_
  rw [f_X10_isNode] at hf
  refine s_iload_n X 1 dX10_isNode_0 rfl rfl ?_
  refine s_iconst X (v := (0 : Int32)) dX10_isNode_1 rfl ?_
  refine s_aload_n X 0 dX10_isNode_2 rfl rfl ?_
  obtain ⟨h1, hf⟩ := pk_chk hf
  obtain ⟨o2, e3, hf⟩ := pk_bnd hf
  obtain ⟨h4, hf⟩ := pk_chk hf
  refine s_getR X (ci := 10) (k := 0) rfl (Nat.le_of_ble_eq_true rfl) h1 wd1440 (fun _ _ _ => rfl) (e3 ▸ h4) dX10_isNode_3 (e3 ▸ ?_)
  refine s_iconst X (v := (0 : Int32)) dX10_isNode_6 rfl ?_
  obtain ⟨h5, hf⟩ := pk_chk hf
  refine s_iald X h4 h5 dX10_isNode_7 ?_
  refine s_iconst X (v := (1 : Int32)) dX10_isNode_8 rfl ?_
  refine s_isub X dX10_isNode_9 ?_
  obtain ⟨r7, hc6, hf⟩ := pk_obd hf
  refine s_callS X (k_X10_isIn G hc6) wd1520 wd1521 wd1522 wd138 cd_X10_isIn ⟨Nat.le_of_ble_eq_true rfl, Nat.le_of_ble_eq_true rfl⟩ (Nat.le_of_ble_eq_true rfl) dX10_isNode_10 ?_
  obtain ⟨h8, hf⟩ := pk_chk hf
  cases hf
  exact s_zret X hr (bz_n h8) hlk dX10_isNode_13
theorem dX10_baseOf_0 : decode cX10_baseOf 0 = .ok (.aload_n 0, 1) := dk_42 (by decide +kernel)
theorem dX10_baseOf_1 : decode cX10_baseOf 1 = .ok (.getfield 7, 3) := dk_180 (x := 0) (y := 7) (by decide +kernel) rfl
theorem dX10_baseOf_4 : decode cX10_baseOf 4 = .ok (.iconst 2, 1) := dk_5 (by decide +kernel)
theorem dX10_baseOf_5 : decode cX10_baseOf 5 = .ok (.iload_n 1, 1) := dk_27 (by decide +kernel)
theorem dX10_baseOf_6 : decode cX10_baseOf 6 = .ok (.iadd, 1) := dk_96 (by decide +kernel)
theorem dX10_baseOf_7 : decode cX10_baseOf 7 = .ok (.iaload, 1) := dk_46 (by decide +kernel)
theorem dX10_baseOf_8 : decode cX10_baseOf 8 = .ok (.ireturn, 1) := dk_172 (by decide +kernel)
def f_X10_baseOf (o : Nat) (a1 : Int32) (M : Mem) : Option Int32 :=
  chk (isO M 10 o) <|
  bnd (mR M o 0) fun o2 =>
  chk (isO M 100 o2) <|
  chk (inB ((2 : Int32) + a1) (mLn M o2)) <|
  some (mI M o2 (((2 : Int32) + a1)).toNatClampNeg)
theorem cd_X10_baseOf : (yX10_baseOf.cls ≠ "java/lang/invoke/MethodHandle" ∧ yX10_baseOf.cls ≠ "java/lang/invoke/VarHandle") ∧ (parseMethodDescriptor yX10_baseOf.desc).map (fun d => d.parameters.length) = some 1 := ⟨⟨by decide +kernel, by decide +kernel⟩, by decide +kernel⟩
theorem k_X10_baseOf (G : Gam) {o : Nat} {a1 : Int32} {M : Mem} {rv : Int32} (hf : f_X10_baseOf o a1 M = some rv) : Kt yX10_baseOf cX10_baseOf 2 (some .int) 0 0 G [.ref (gB G + o), .int a1] M M (some (.int rv)) := by
  refine Kt.of (by decide) (Nat.le_of_ble_eq_true rfl) ?_
  intro p l e R s m args below meth c X hr hlk hnm
  refine s_drop [0, 1] (vs' := [(0, .ref (gB G + o)), (1, .int a1)]) rfl ?_
  rw [f_X10_baseOf] at hf
  refine s_aload_n X 0 dX10_baseOf_0 rfl rfl ?_
  obtain ⟨h1, hf⟩ := pk_chk hf
  obtain ⟨o2, e3, hf⟩ := pk_bnd hf
  obtain ⟨h4, hf⟩ := pk_chk hf
  refine s_getR X (ci := 10) (k := 0) rfl (Nat.le_of_ble_eq_true rfl) h1 wd1440 (fun _ _ _ => rfl) (e3 ▸ h4) dX10_baseOf_1 (e3 ▸ ?_)
  refine s_iconst X (v := (2 : Int32)) dX10_baseOf_4 rfl ?_
  refine s_iload_n X 1 dX10_baseOf_5 rfl rfl ?_
  refine s_iadd X dX10_baseOf_6 ?_
  obtain ⟨h5, hf⟩ := pk_chk hf
  refine s_iald X h4 h5 dX10_baseOf_7 ?_
  cases hf
  exact s_iret X hr hlk dX10_baseOf_8
theorem dX10_has_0 : decode cX10_has 0 = .ok (.iload_n 0, 1) := dk_26 (by decide +kernel)
theorem dX10_has_1 : decode cX10_has 1 = .ok (.iload_n 1, 1) := dk_27 (by decide +kernel)
theorem dX10_has_2 : decode cX10_has 2 = .ok (.ishr, 1) := dk_122 (by decide +kernel)
theorem dX10_has_3 : decode cX10_has 3 = .ok (.iconst 1, 1) := dk_4 (by decide +kernel)
theorem dX10_has_4 : decode cX10_has 4 = .ok (.iand, 1) := dk_126 (by decide +kernel)
theorem dX10_has_5 : decode cX10_has 5 = .ok (.iconst 1, 1) := dk_4 (by decide +kernel)
theorem dX10_has_6 : decode cX10_has 6 = .ok (.if_icmp .ne 7, 3) := dk_160 (x := 0) (y := 7) (by decide +kernel) rfl
theorem dX10_has_9 : decode cX10_has 9 = .ok (.iconst 1, 1) := dk_4 (by decide +kernel)
theorem dX10_has_10 : decode cX10_has 10 = .ok (.goto 4, 3) := dk_167 (x := 0) (y := 4) (by decide +kernel) rfl
theorem dX10_has_13 : decode cX10_has 13 = .ok (.iconst 0, 1) := dk_3 (by decide +kernel)
theorem dX10_has_14 : decode cX10_has 14 = .ok (.ireturn, 1) := dk_172 (by decide +kernel)
def f_X10_has (a1 : Int32) (a2 : Int32) (M : Mem) : Option Int32 :=
  if ((a1 >>> (a2 &&& 31)) &&& (1 : Int32)) = (1 : Int32) then (
    some (1 : Int32)
    ) else (
    some (0 : Int32)
    )
theorem cd_X10_has : (yX10_has.cls ≠ "java/lang/invoke/MethodHandle" ∧ yX10_has.cls ≠ "java/lang/invoke/VarHandle") ∧ (parseMethodDescriptor yX10_has.desc).map (fun d => d.parameters.length) = some 2 := ⟨⟨by decide +kernel, by decide +kernel⟩, by decide +kernel⟩
theorem k_X10_has (G : Gam) {a1 : Int32} {a2 : Int32} {M : Mem} {rv : Int32} (hf : f_X10_has a1 a2 M = some rv) : Kt yX10_has cX10_has 2 (some .boolean) 0 0 G [.int a1, .int a2] M M (some (.int rv)) := by
  refine Kt.of (by decide) (Nat.le_of_ble_eq_true rfl) ?_
  intro p l e R s m args below meth c X hr hlk hnm
  refine s_drop [0, 1] (vs' := [(0, .int a1), (1, .int a2)]) rfl ?_
  rw [f_X10_has] at hf
  refine s_iload_n X 0 dX10_has_0 rfl rfl ?_
  refine s_iload_n X 1 dX10_has_1 rfl rfl ?_
  refine s_ishr X dX10_has_2 ?_
  refine s_iconst X (v := (1 : Int32)) dX10_has_3 rfl ?_
  refine s_iand X dX10_has_4 ?_
  refine s_iconst X (v := (1 : Int32)) dX10_has_5 rfl ?_
  have hs1 := pk_ite hf
  clear hf
  refine s_icmp_ne X (tgt := 13) dX10_has_6 rfl (fun c2 => ?_) (fun c2 => ?_)
  · have hf := hs1.2 c2
    refine s_iconst X (v := (0 : Int32)) dX10_has_13 rfl ?_
    cases hf
    exact s_zret X hr (bz_n (Or.inl rfl)) hlk dX10_has_14
  · have hf := hs1.1 c2
    refine s_iconst X (v := (1 : Int32)) dX10_has_9 rfl ?_
    refine s_goto X (tgt := 14) dX10_has_10 rfl ?_
    cases hf
    exact s_zret X hr (bz_n (Or.inr rfl)) hlk dX10_has_14
theorem dX10_placed_0 : decode cX10_placed 0 = .ok (.iload_n 0, 1) := dk_26 (by decide +kernel)
theorem dX10_placed_1 : decode cX10_placed 1 = .ok (.iconst 1, 1) := dk_4 (by decide +kernel)
theorem dX10_placed_2 : decode cX10_placed 2 = .ok (.iload_n 1, 1) := dk_27 (by decide +kernel)
theorem dX10_placed_3 : decode cX10_placed 3 = .ok (.ishl, 1) := dk_120 (by decide +kernel)
theorem dX10_placed_4 : decode cX10_placed 4 = .ok (.iconst 1, 1) := dk_4 (by decide +kernel)
theorem dX10_placed_5 : decode cX10_placed 5 = .ok (.isub, 1) := dk_100 (by decide +kernel)
theorem dX10_placed_6 : decode cX10_placed 6 = .ok (.iand, 1) := dk_126 (by decide +kernel)
theorem dX10_placed_7 : decode cX10_placed 7 = .ok (.istore 4, 2) := dk_54 (x := 4) (by decide +kernel)
theorem dX10_placed_9 : decode cX10_placed 9 = .ok (.iload_n 0, 1) := dk_26 (by decide +kernel)
theorem dX10_placed_10 : decode cX10_placed 10 = .ok (.iload_n 1, 1) := dk_27 (by decide +kernel)
theorem dX10_placed_11 : decode cX10_placed 11 = .ok (.iconst 1, 1) := dk_4 (by decide +kernel)
theorem dX10_placed_12 : decode cX10_placed 12 = .ok (.iadd, 1) := dk_96 (by decide +kernel)
theorem dX10_placed_13 : decode cX10_placed 13 = .ok (.ishr, 1) := dk_122 (by decide +kernel)
theorem dX10_placed_14 : decode cX10_placed 14 = .ok (.iload_n 1, 1) := dk_27 (by decide +kernel)
theorem dX10_placed_15 : decode cX10_placed 15 = .ok (.ishl, 1) := dk_120 (by decide +kernel)
theorem dX10_placed_16 : decode cX10_placed 16 = .ok (.istore 5, 2) := dk_54 (x := 5) (by decide +kernel)
theorem dX10_placed_18 : decode cX10_placed 18 = .ok (.iload 4, 2) := dk_21 (x := 4) (by decide +kernel)
theorem dX10_placed_20 : decode cX10_placed 20 = .ok (.iload 5, 2) := dk_21 (x := 5) (by decide +kernel)
theorem dX10_placed_22 : decode cX10_placed 22 = .ok (.ior, 1) := dk_128 (by decide +kernel)
theorem dX10_placed_23 : decode cX10_placed 23 = .ok (.iload_n 0, 1) := dk_26 (by decide +kernel)
theorem dX10_placed_24 : decode cX10_placed 24 = .ok (.iload_n 1, 1) := dk_27 (by decide +kernel)
theorem dX10_placed_25 : decode cX10_placed 25 = .ok (.invokestatic 45, 3) := dk_184 (x := 0) (y := 45) (by decide +kernel) rfl
theorem dX10_placed_28 : decode cX10_placed 28 = .ok (.ifCond .eq 9, 3) := dk_153 (x := 0) (y := 9) (by decide +kernel) rfl
theorem dX10_placed_31 : decode cX10_placed 31 = .ok (.iload_n 3, 1) := dk_29 (by decide +kernel)
theorem dX10_placed_32 : decode cX10_placed 32 = .ok (.iload_n 2, 1) := dk_28 (by decide +kernel)
theorem dX10_placed_33 : decode cX10_placed 33 = .ok (.ishl, 1) := dk_120 (by decide +kernel)
theorem dX10_placed_34 : decode cX10_placed 34 = .ok (.goto 4, 3) := dk_167 (x := 0) (y := 4) (by decide +kernel) rfl
theorem dX10_placed_37 : decode cX10_placed 37 = .ok (.iconst 0, 1) := dk_3 (by decide +kernel)
theorem dX10_placed_38 : decode cX10_placed 38 = .ok (.ior, 1) := dk_128 (by decide +kernel)
theorem dX10_placed_39 : decode cX10_placed 39 = .ok (.ireturn, 1) := dk_172 (by decide +kernel)
def f_X10_placed (a1 : Int32) (a2 : Int32) (a3 : Int32) (a4 : Int32) (M : Mem) : Option Int32 :=
  bnd (a1 &&& (((1 : Int32) <<< (a2 &&& 31)) - (1 : Int32))) fun x1 =>
  bnd ((a1 >>> ((a2 + (1 : Int32)) &&& 31)) <<< (a2 &&& 31)) fun x3 =>
  obd (f_X10_has a1 a2 M) fun r6 =>
  if r6 = 0 then (
    some ((x1 ||| x3) ||| (0 : Int32))
    ) else (
    some ((x1 ||| x3) ||| (a4 <<< (a3 &&& 31)))
    )
theorem cd_X10_placed : (yX10_placed.cls ≠ "java/lang/invoke/MethodHandle" ∧ yX10_placed.cls ≠ "java/lang/invoke/VarHandle") ∧ (parseMethodDescriptor yX10_placed.desc).map (fun d => d.parameters.length) = some 4 := ⟨⟨by decide +kernel, by decide +kernel⟩, by decide +kernel⟩
theorem k_X10_placed (G : Gam) {a1 : Int32} {a2 : Int32} {a3 : Int32} {a4 : Int32} {M : Mem} {rv : Int32} (hf : f_X10_placed a1 a2 a3 a4 M = some rv) : Kt yX10_placed cX10_placed 6 (some .int) 1 21 G [.int a1, .int a2, .int a3, .int a4] M M (some (.int rv)) := by
  refine Kt.of (by decide) (Nat.le_of_ble_eq_true rfl) ?_
  intro p l e R s m args below meth c X hr hlk hnm
  refine s_drop [0, 1, 2, 3] (vs' := [(0, .int a1), (1, .int a2), (2, .int a3), (3, .int a4)]) rfl ?_
  rw [f_X10_placed] at hf
  refine s_iload_n X 0 dX10_placed_0 rfl rfl ?_
  refine s_iconst X (v := (1 : Int32)) dX10_placed_1 rfl ?_
  refine s_iload_n X 1 dX10_placed_2 rfl rfl ?_
  refine s_ishl X dX10_placed_3 ?_
  refine s_iconst X (v := (1 : Int32)) dX10_placed_4 rfl ?_
  refine s_isub X dX10_placed_5 ?_
  refine s_iand X dX10_placed_6 ?_
  obtain ⟨x1, e2, hf⟩ := pk_bnd hf
  refine s_nmI e2 ?_
  refine s_istore X (vs' := [(0, .int a1), (1, .int a2), (2, .int a3), (3, .int a4), (4, .int x1)]) dX10_placed_7 (Nat.le_of_ble_eq_true rfl) [1, 2, 3, 4, 0] rfl ?_
  refine s_iload_n X 0 dX10_placed_9 rfl rfl ?_
  refine s_iload_n X 1 dX10_placed_10 rfl rfl ?_
  refine s_iconst X (v := (1 : Int32)) dX10_placed_11 rfl ?_
  refine s_iadd X dX10_placed_12 ?_
  refine s_ishr X dX10_placed_13 ?_
  refine s_iload_n X 1 dX10_placed_14 rfl rfl ?_
  refine s_ishl X dX10_placed_15 ?_
  obtain ⟨x3, e4, hf⟩ := pk_bnd hf
  refine s_nmI e4 ?_
  refine s_istore X (vs' := [(0, .int a1), (1, .int a2), (2, .int a3), (3, .int a4), (4, .int x1), (5, .int x3)]) dX10_placed_16 (Nat.le_of_ble_eq_true rfl) [1, 2, 3, 4, 5, 0] rfl ?_
  refine s_iload X 4 dX10_placed_18 rfl ?_
  refine s_iload X 5 dX10_placed_20 rfl ?_
  refine s_ior X dX10_placed_22 ?_
  refine s_iload_n X 0 dX10_placed_23 rfl rfl ?_
  refine s_iload_n X 1 dX10_placed_24 rfl rfl ?_
  obtain ⟨r6, hc5, hf⟩ := pk_obd hf
  refine s_callS X (k_X10_has G hc5) wd1565 wd1566 wd1567 wd138 cd_X10_has ⟨Nat.le_of_ble_eq_true rfl, Nat.le_of_ble_eq_true rfl⟩ (Nat.le_of_ble_eq_true rfl) dX10_placed_25 ?_
  have hs7 := pk_ite hf
  clear hf
  refine s_if_eq X (tgt := 37) dX10_placed_28 rfl (fun c8 => ?_) (fun c8 => ?_)
  · have hf := hs7.1 c8
    refine s_iconst X (v := (0 : Int32)) dX10_placed_37 rfl ?_
    refine s_ior X dX10_placed_38 ?_
    cases hf
    exact s_iret X hr hlk dX10_placed_39
  · have hf := hs7.2 c8
    refine s_iload_n X 3 dX10_placed_31 rfl rfl ?_
    refine s_iload_n X 2 dX10_placed_32 rfl rfl ?_
    refine s_ishl X dX10_placed_33 ?_
    refine s_goto X (tgt := 38) dX10_placed_34 rfl ?_
    refine s_ior X dX10_placed_38 ?_
    cases hf
    exact s_iret X hr hlk dX10_placed_39
theorem dX10_within_0 : decode cX10_within 0 = .ok (.aload_n 0, 1) := dk_42 (by decide +kernel)
theorem dX10_within_1 : decode cX10_within 1 = .ok (.getfield 7, 3) := dk_180 (x := 0) (y := 7) (by decide +kernel) rfl
theorem dX10_within_4 : decode cX10_within 4 = .ok (.iconst 0, 1) := dk_3 (by decide +kernel)
theorem dX10_within_5 : decode cX10_within 5 = .ok (.iaload, 1) := dk_46 (by decide +kernel)
theorem dX10_within_6 : decode cX10_within 6 = .ok (.iconst 1, 1) := dk_4 (by decide +kernel)
theorem dX10_within_7 : decode cX10_within 7 = .ok (.isub, 1) := dk_100 (by decide +kernel)
theorem dX10_within_8 : decode cX10_within 8 = .ok (.istore_n 3, 1) := dk_62 (by decide +kernel)
theorem dX10_within_9 : decode cX10_within 9 = .ok (.aload_n 0, 1) := dk_42 (by decide +kernel)
theorem dX10_within_10 : decode cX10_within 10 = .ok (.iload_n 1, 1) := dk_27 (by decide +kernel)
theorem dX10_within_11 : decode cX10_within 11 = .ok (.invokevirtual 76, 3) := dk_182 (x := 0) (y := 76) (by decide +kernel) rfl
theorem dX10_within_14 : decode cX10_within 14 = .ok (.ifCond .eq 21, 3) := dk_153 (x := 0) (y := 21) (by decide +kernel) rfl
theorem dX10_within_17 : decode cX10_within 17 = .ok (.iload_n 2, 1) := dk_28 (by decide +kernel)
theorem dX10_within_18 : decode cX10_within 18 = .ok (.iconst 2, 1) := dk_5 (by decide +kernel)
theorem dX10_within_19 : decode cX10_within 19 = .ok (.bipush 8, 2) := dk_16 (x := 8) (by decide +kernel) rfl
theorem dX10_within_21 : decode cX10_within 21 = .ok (.invokestatic 49, 3) := dk_184 (x := 0) (y := 49) (by decide +kernel) rfl
theorem dX10_within_24 : decode cX10_within 24 = .ok (.ifCond .eq 11, 3) := dk_153 (x := 0) (y := 11) (by decide +kernel) rfl
theorem dX10_within_27 : decode cX10_within 27 = .ok (.iload_n 3, 1) := dk_29 (by decide +kernel)
theorem dX10_within_28 : decode cX10_within 28 = .ok (.iload_n 2, 1) := dk_28 (by decide +kernel)
theorem dX10_within_29 : decode cX10_within 29 = .ok (.iadd, 1) := dk_96 (by decide +kernel)
theorem dX10_within_30 : decode cX10_within 30 = .ok (.bipush 16, 2) := dk_16 (x := 16) (by decide +kernel) rfl
theorem dX10_within_32 : decode cX10_within 32 = .ok (.if_icmp .le 5, 3) := dk_164 (x := 0) (y := 5) (by decide +kernel) rfl
theorem dX10_within_35 : decode cX10_within 35 = .ok (.iconst (-1), 1) := dk_2 (by decide +kernel)
theorem dX10_within_36 : decode cX10_within 36 = .ok (.ireturn, 1) := dk_172 (by decide +kernel)
theorem dX10_within_37 : decode cX10_within 37 = .ok (.iconst 0, 1) := dk_3 (by decide +kernel)
theorem dX10_within_38 : decode cX10_within 38 = .ok (.istore 4, 2) := dk_54 (x := 4) (by decide +kernel)
theorem dX10_within_40 : decode cX10_within 40 = .ok (.iload 4, 2) := dk_21 (x := 4) (by decide +kernel)
theorem dX10_within_42 : decode cX10_within 42 = .ok (.iload_n 3, 1) := dk_29 (by decide +kernel)
theorem dX10_within_43 : decode cX10_within 43 = .ok (.if_icmp .gt 22, 3) := dk_163 (x := 0) (y := 22) (by decide +kernel) rfl
theorem dX10_within_46 : decode cX10_within 46 = .ok (.aload_n 0, 1) := dk_42 (by decide +kernel)
theorem dX10_within_47 : decode cX10_within 47 = .ok (.getfield 13, 3) := dk_180 (x := 0) (y := 13) (by decide +kernel) rfl
theorem dX10_within_50 : decode cX10_within 50 = .ok (.iload 4, 2) := dk_21 (x := 4) (by decide +kernel)
theorem dX10_within_52 : decode cX10_within 52 = .ok (.aload_n 0, 1) := dk_42 (by decide +kernel)
theorem dX10_within_53 : decode cX10_within 53 = .ok (.iload 4, 2) := dk_21 (x := 4) (by decide +kernel)
theorem dX10_within_55 : decode cX10_within 55 = .ok (.invokevirtual 80, 3) := dk_182 (x := 0) (y := 80) (by decide +kernel) rfl
theorem dX10_within_58 : decode cX10_within 58 = .ok (.iastore, 1) := dk_79 (by decide +kernel)
theorem dX10_within_59 : decode cX10_within 59 = .ok (.iinc 4 1, 3) := dk_132 (x := 4) (y := 1) (by decide +kernel) rfl
theorem dX10_within_62 : decode cX10_within 62 = .ok (.goto (-22), 3) := dk_167 (x := 255) (y := 234) (by decide +kernel) rfl
theorem dX10_within_65 : decode cX10_within 65 = .ok (.aload_n 0, 1) := dk_42 (by decide +kernel)
theorem dX10_within_66 : decode cX10_within 66 = .ok (.iload_n 3, 1) := dk_29 (by decide +kernel)
theorem dX10_within_67 : decode cX10_within 67 = .ok (.iload_n 2, 1) := dk_28 (by decide +kernel)
theorem dX10_within_68 : decode cX10_within 68 = .ok (.iadd, 1) := dk_96 (by decide +kernel)
theorem dX10_within_69 : decode cX10_within 69 = .ok (.iconst 0, 1) := dk_3 (by decide +kernel)
theorem dX10_within_70 : decode cX10_within 70 = .ok (.invokevirtual 60, 3) := dk_182 (x := 0) (y := 60) (by decide +kernel) rfl
theorem dX10_within_73 : decode cX10_within 73 = .ok (.iconst 0, 1) := dk_3 (by decide +kernel)
theorem dX10_within_74 : decode cX10_within 74 = .ok (.istore 4, 2) := dk_54 (x := 4) (by decide +kernel)
theorem dX10_within_76 : decode cX10_within 76 = .ok (.iload 4, 2) := dk_21 (x := 4) (by decide +kernel)
theorem dX10_within_78 : decode cX10_within 78 = .ok (.iload_n 3, 1) := dk_29 (by decide +kernel)
theorem dX10_within_79 : decode cX10_within 79 = .ok (.if_icmp .gt 57, 3) := dk_163 (x := 0) (y := 57) (by decide +kernel) rfl
theorem dX10_within_82 : decode cX10_within 82 = .ok (.iload 4, 2) := dk_21 (x := 4) (by decide +kernel)
theorem dX10_within_84 : decode cX10_within 84 = .ok (.iload_n 1, 1) := dk_27 (by decide +kernel)
theorem dX10_within_85 : decode cX10_within 85 = .ok (.if_icmp .eq 45, 3) := dk_159 (x := 0) (y := 45) (by decide +kernel) rfl
theorem dX10_within_88 : decode cX10_within 88 = .ok (.aload_n 0, 1) := dk_42 (by decide +kernel)
theorem dX10_within_89 : decode cX10_within 89 = .ok (.getfield 7, 3) := dk_180 (x := 0) (y := 7) (by decide +kernel) rfl
theorem dX10_within_92 : decode cX10_within 92 = .ok (.iconst 2, 1) := dk_5 (by decide +kernel)
theorem dX10_within_93 : decode cX10_within 93 = .ok (.iload 4, 2) := dk_21 (x := 4) (by decide +kernel)
theorem dX10_within_95 : decode cX10_within 95 = .ok (.iload_n 1, 1) := dk_27 (by decide +kernel)
theorem dX10_within_96 : decode cX10_within 96 = .ok (.if_icmp .ge 8, 3) := dk_162 (x := 0) (y := 8) (by decide +kernel) rfl
theorem dX10_within_99 : decode cX10_within 99 = .ok (.iload 4, 2) := dk_21 (x := 4) (by decide +kernel)
theorem dX10_within_101 : decode cX10_within 101 = .ok (.goto 7, 3) := dk_167 (x := 0) (y := 7) (by decide +kernel) rfl
theorem dX10_within_104 : decode cX10_within 104 = .ok (.iload 4, 2) := dk_21 (x := 4) (by decide +kernel)
theorem dX10_within_106 : decode cX10_within 106 = .ok (.iconst 1, 1) := dk_4 (by decide +kernel)
theorem dX10_within_107 : decode cX10_within 107 = .ok (.isub, 1) := dk_100 (by decide +kernel)
theorem dX10_within_108 : decode cX10_within 108 = .ok (.iadd, 1) := dk_96 (by decide +kernel)
theorem dX10_within_109 : decode cX10_within 109 = .ok (.aload_n 0, 1) := dk_42 (by decide +kernel)
theorem dX10_within_110 : decode cX10_within 110 = .ok (.getfield 13, 3) := dk_180 (x := 0) (y := 13) (by decide +kernel) rfl
theorem dX10_within_113 : decode cX10_within 113 = .ok (.iload 4, 2) := dk_21 (x := 4) (by decide +kernel)
theorem dX10_within_115 : decode cX10_within 115 = .ok (.iaload, 1) := dk_46 (by decide +kernel)
theorem dX10_within_116 : decode cX10_within 116 = .ok (.iload_n 1, 1) := dk_27 (by decide +kernel)
theorem dX10_within_117 : decode cX10_within 117 = .ok (.iload_n 3, 1) := dk_29 (by decide +kernel)
theorem dX10_within_118 : decode cX10_within 118 = .ok (.iload 4, 2) := dk_21 (x := 4) (by decide +kernel)
theorem dX10_within_120 : decode cX10_within 120 = .ok (.iload_n 2, 1) := dk_28 (by decide +kernel)
theorem dX10_within_121 : decode cX10_within 121 = .ok (.irem, 1) := dk_112 (by decide +kernel)
theorem dX10_within_122 : decode cX10_within 122 = .ok (.iload_n 2, 1) := dk_28 (by decide +kernel)
theorem dX10_within_123 : decode cX10_within 123 = .ok (.invokestatic 68, 3) := dk_184 (x := 0) (y := 68) (by decide +kernel) rfl
theorem dX10_within_126 : decode cX10_within 126 = .ok (.invokestatic 83, 3) := dk_184 (x := 0) (y := 83) (by decide +kernel) rfl
theorem dX10_within_129 : decode cX10_within 129 = .ok (.iastore, 1) := dk_79 (by decide +kernel)
theorem dX10_within_130 : decode cX10_within 130 = .ok (.iinc 4 1, 3) := dk_132 (x := 4) (y := 1) (by decide +kernel) rfl
theorem dX10_within_133 : decode cX10_within 133 = .ok (.goto (-57), 3) := dk_167 (x := 255) (y := 199) (by decide +kernel) rfl
theorem dX10_within_136 : decode cX10_within 136 = .ok (.iconst 0, 1) := dk_3 (by decide +kernel)
theorem dX10_within_137 : decode cX10_within 137 = .ok (.istore 4, 2) := dk_54 (x := 4) (by decide +kernel)
theorem dX10_within_139 : decode cX10_within 139 = .ok (.iload 4, 2) := dk_21 (x := 4) (by decide +kernel)
theorem dX10_within_141 : decode cX10_within 141 = .ok (.iload_n 2, 1) := dk_28 (by decide +kernel)
theorem dX10_within_142 : decode cX10_within 142 = .ok (.if_icmp .ge 37, 3) := dk_162 (x := 0) (y := 37) (by decide +kernel) rfl
theorem dX10_within_145 : decode cX10_within 145 = .ok (.aload_n 0, 1) := dk_42 (by decide +kernel)
theorem dX10_within_146 : decode cX10_within 146 = .ok (.getfield 7, 3) := dk_180 (x := 0) (y := 7) (by decide +kernel) rfl
theorem dX10_within_149 : decode cX10_within 149 = .ok (.iconst 2, 1) := dk_5 (by decide +kernel)
theorem dX10_within_150 : decode cX10_within 150 = .ok (.iload_n 3, 1) := dk_29 (by decide +kernel)
theorem dX10_within_151 : decode cX10_within 151 = .ok (.iadd, 1) := dk_96 (by decide +kernel)
theorem dX10_within_152 : decode cX10_within 152 = .ok (.iload 4, 2) := dk_21 (x := 4) (by decide +kernel)
theorem dX10_within_154 : decode cX10_within 154 = .ok (.iadd, 1) := dk_96 (by decide +kernel)
theorem dX10_within_155 : decode cX10_within 155 = .ok (.aload_n 0, 1) := dk_42 (by decide +kernel)
theorem dX10_within_156 : decode cX10_within 156 = .ok (.getfield 13, 3) := dk_180 (x := 0) (y := 13) (by decide +kernel) rfl
theorem dX10_within_159 : decode cX10_within 159 = .ok (.iload_n 1, 1) := dk_27 (by decide +kernel)
theorem dX10_within_160 : decode cX10_within 160 = .ok (.iaload, 1) := dk_46 (by decide +kernel)
theorem dX10_within_161 : decode cX10_within 161 = .ok (.iload_n 1, 1) := dk_27 (by decide +kernel)
theorem dX10_within_162 : decode cX10_within 162 = .ok (.iload_n 3, 1) := dk_29 (by decide +kernel)
theorem dX10_within_163 : decode cX10_within 163 = .ok (.iload 4, 2) := dk_21 (x := 4) (by decide +kernel)
theorem dX10_within_165 : decode cX10_within 165 = .ok (.iload_n 2, 1) := dk_28 (by decide +kernel)
theorem dX10_within_166 : decode cX10_within 166 = .ok (.invokestatic 68, 3) := dk_184 (x := 0) (y := 68) (by decide +kernel) rfl
theorem dX10_within_169 : decode cX10_within 169 = .ok (.invokestatic 83, 3) := dk_184 (x := 0) (y := 83) (by decide +kernel) rfl
theorem dX10_within_172 : decode cX10_within 172 = .ok (.iastore, 1) := dk_79 (by decide +kernel)
theorem dX10_within_173 : decode cX10_within 173 = .ok (.iinc 4 1, 3) := dk_132 (x := 4) (y := 1) (by decide +kernel) rfl
theorem dX10_within_176 : decode cX10_within 176 = .ok (.goto (-37), 3) := dk_167 (x := 255) (y := 219) (by decide +kernel) rfl
theorem dX10_within_179 : decode cX10_within 179 = .ok (.iload_n 3, 1) := dk_29 (by decide +kernel)
theorem dX10_within_180 : decode cX10_within 180 = .ok (.iload_n 2, 1) := dk_28 (by decide +kernel)
theorem dX10_within_181 : decode cX10_within 181 = .ok (.iadd, 1) := dk_96 (by decide +kernel)
theorem dX10_within_182 : decode cX10_within 182 = .ok (.ireturn, 1) := dk_172 (by decide +kernel)
def f_X10_within_139 : Nat → Nat → Int32 → Int32 → Int32 → Int32 → Mem → Option (Int32 × Mem)
  | 0, _, _, _, _, _, _ => none
  | n + 1, v0, v1, v2, v3, v4, M =>
    if v2 ≤ v4 then (
      some ((v3 + v2), M)
      ) else (
      chk (isO M 10 v0) <|
      bnd (mR M v0 0) fun o4 =>
      chk (isO M 100 o4) <|
      bnd (mR M v0 1) fun o7 =>
      chk (isO M 100 o7) <|
      chk (inB v1 (mLn M o7)) <|
      obd (f_X10_majorityOf n v4 v2 M) fun r12 =>
      obd (f_X10_placed (mI M o7 (v1).toNatClampNeg) v1 v3 r12 M) fun r14 =>
      chk (inB (((2 : Int32) + v3) + v4) (mLn M o4)) <|
      bnd (sI M o4 ((((2 : Int32) + v3) + v4)).toNatClampNeg r14) fun M16 =>
      bnd (v4 + (1 : Int32)) fun x21 =>
      f_X10_within_139 n v0 v1 v2 v3 x21 M16
      )
def f_X10_within_108 (k_76 : Nat → Int32 → Int32 → Int32 → Int32 → Mem → Option (Int32 × Mem)) (n : Nat) (v0 : Nat) (v1 : Int32) (v2 : Int32) (v3 : Int32) (v4 : Int32) (u0 : Int32) (u1 : Int32) (u2 : Nat) (M : Mem) : Option (Int32 × Mem) :=
    chk (isO M 10 v0) <|
    bnd (mR M v0 1) fun o2 =>
    chk (isO M 100 o2) <|
    chk (inB v4 (mLn M o2)) <|
    chk (¬ v2 = 0) <|
    obd (f_X10_majorityOf n (v4 - v4 / v2 * v2) v2 M) fun r8 =>
    obd (f_X10_placed (mI M o2 (v4).toNatClampNeg) v1 v3 r8 M) fun r10 =>
    chk (isO M 100 u2) <|
    chk (inB (u1 + u0) (mLn M u2)) <|
    bnd (sI M u2 ((u1 + u0)).toNatClampNeg r10) fun M13 =>
    bnd (v4 + (1 : Int32)) fun x18 =>
    k_76 v0 v1 v2 v3 x18 M13
def f_X10_within_76 : Nat → Nat → Int32 → Int32 → Int32 → Int32 → Mem → Option (Int32 × Mem)
  | 0, _, _, _, _, _, _ => none
  | n + 1, v0, v1, v2, v3, v4, M =>
    if v3 < v4 then (
      f_X10_within_139 n v0 v1 v2 v3 (0 : Int32) M
      ) else (
      if v4 = v1 then (
        bnd (v4 + (1 : Int32)) fun x5 =>
        f_X10_within_76 n v0 v1 v2 v3 x5 M
        ) else (
        chk (isO M 10 v0) <|
        bnd (mR M v0 0) fun o8 =>
        chk (isO M 100 o8) <|
        if v1 ≤ v4 then (
          f_X10_within_108 (f_X10_within_76 n) n v0 v1 v2 v3 v4 (v4 - (1 : Int32)) (2 : Int32) o8 M
          ) else (
          f_X10_within_108 (f_X10_within_76 n) n v0 v1 v2 v3 v4 v4 (2 : Int32) o8 M
          )
        )
      )
def f_X10_within_40 : Nat → Nat → Int32 → Int32 → Int32 → Int32 → Mem → Option (Int32 × Mem)
  | 0, _, _, _, _, _, _ => none
  | n + 1, v0, v1, v2, v3, v4, M =>
    if v3 < v4 then (
      chk (isO M 10 v0) <|
      obd (f_X10_begin n v0 (v3 + v2) (0 : Int32) M) fun M5 =>
      f_X10_within_76 n v0 v1 v2 v3 (0 : Int32) M5
      ) else (
      chk (isO M 10 v0) <|
      bnd (mR M v0 1) fun o7 =>
      chk (isO M 100 o7) <|
      obd (f_X10_baseOf v0 v4 M) fun r11 =>
      chk (inB v4 (mLn M o7)) <|
      bnd (sI M o7 (v4).toNatClampNeg r11) fun M13 =>
      bnd (v4 + (1 : Int32)) fun x17 =>
      f_X10_within_40 n v0 v1 v2 v3 x17 M13
      )
def f_X10_within (n : Nat) (o : Nat) (a1 : Int32) (a2 : Int32) (M : Mem) : Option (Int32 × Mem) :=
  chk (isO M 10 o) <|
  bnd (mR M o 0) fun o2 =>
  chk (isO M 100 o2) <|
  chk (inB (0 : Int32) (mLn M o2)) <|
  bnd ((mI M o2 ((0 : Int32)).toNatClampNeg) - (1 : Int32)) fun x6 =>
  obd (f_X10_isNode o a1 M) fun r9 =>
  if r9 = 0 then (
    some ((-1 : Int32), M)
    ) else (
    obd (f_X10_isIn a2 (2 : Int32) (8 : Int32) M) fun r13 =>
    if r13 = 0 then (
      some ((-1 : Int32), M)
      ) else (
      if (x6 + a2) ≤ (16 : Int32) then (
        f_X10_within_40 n o a1 a2 x6 (0 : Int32) M
        ) else (
        some ((-1 : Int32), M)
        )
      )
    )
theorem cd_X10_within : (yX10_within.cls ≠ "java/lang/invoke/MethodHandle" ∧ yX10_within.cls ≠ "java/lang/invoke/VarHandle") ∧ (parseMethodDescriptor yX10_within.desc).map (fun d => d.parameters.length) = some 2 := ⟨⟨by decide +kernel, by decide +kernel⟩, by decide +kernel⟩
section
variable {p : Program} {l : Launch} {e : Env} {R : Room} {s : State} {m : MethodId} {args : Array Value} {below : List Frame} {meth : Method} {c : Code} {G : Gam} {M0 : Mem}
theorem l_X10_within_139 {rv : (Int32 × Mem)} (X : Cx p R s m args c G M0 cX10_within yX10_within.cls 5 2 46) (hr : meth.sig.returnType = (some .int)) (hlk : meth.locks = false) (hnm : meth.name = "within") : ∀ {n : Nat} (v0 : Nat) (v1 : Int32) (v2 : Int32) (v3 : Int32) (v4 : Int32) (M : Mem), f_X10_within_139 n v0 v1 v2 v3 v4 M = some rv → Sg p l e R s m args below meth c (Qm below G args s (some (.int rv.1)) M0 rv.2) G M0 5 139 [(0, .ref (gB G + v0)), (1, .int v1), (2, .int v2), (3, .int v3), (4, .int v4)] [] M := by
  intro n
  induction n with
  | zero => intro v0 v1 v2 v3 v4 M hf; exact (pk_none hf).elim
  | succ n ih =>
    intro v0 v1 v2 v3 v4 M hf
    rw [f_X10_within_139] at hf
    refine s_iload X 4 dX10_within_139 rfl ?_
    refine s_iload_n X 2 dX10_within_141 rfl rfl ?_
    have hs1 := pk_ite hf
    clear hf
    refine s_icmp_ge X (tgt := 179) dX10_within_142 rfl (fun c2 => ?_) (fun c2 => ?_)
    · have hf := hs1.1 c2
      refine s_iload_n X 3 dX10_within_179 rfl rfl ?_
      refine s_iload_n X 2 dX10_within_180 rfl rfl ?_
      refine s_iadd X dX10_within_181 ?_
      cases hf
      exact s_iret X hr hlk dX10_within_182
    · have hf := hs1.2 c2
      refine s_aload_n X 0 dX10_within_145 rfl rfl ?_
      obtain ⟨h3, hf⟩ := pk_chk hf
      obtain ⟨o4, e5, hf⟩ := pk_bnd hf
      obtain ⟨h6, hf⟩ := pk_chk hf
      refine s_getR X (ci := 10) (k := 0) rfl (Nat.le_of_ble_eq_true rfl) h3 wd1440 (fun _ _ _ => rfl) (e5 ▸ h6) dX10_within_146 (e5 ▸ ?_)
      refine s_iconst X (v := (2 : Int32)) dX10_within_149 rfl ?_
      refine s_iload_n X 3 dX10_within_150 rfl rfl ?_
      refine s_iadd X dX10_within_151 ?_
      refine s_iload X 4 dX10_within_152 rfl ?_
      refine s_iadd X dX10_within_154 ?_
      refine s_aload_n X 0 dX10_within_155 rfl rfl ?_
      obtain ⟨o7, e8, hf⟩ := pk_bnd hf
      obtain ⟨h9, hf⟩ := pk_chk hf
      refine s_getR X (ci := 10) (k := 1) rfl (Nat.le_of_ble_eq_true rfl) h3 wd1441 (fun _ _ _ => rfl) (e8 ▸ h9) dX10_within_156 (e8 ▸ ?_)
      refine s_iload_n X 1 dX10_within_159 rfl rfl ?_
      obtain ⟨h10, hf⟩ := pk_chk hf
      refine s_iald X h9 h10 dX10_within_160 ?_
      refine s_iload_n X 1 dX10_within_161 rfl rfl ?_
      refine s_iload_n X 3 dX10_within_162 rfl rfl ?_
      refine s_iload X 4 dX10_within_163 rfl ?_
      refine s_iload_n X 2 dX10_within_165 rfl rfl ?_
      obtain ⟨r12, hc11, hf⟩ := pk_obd hf
      refine s_callS X (k_X10_majorityOf G hc11) wd1535 wd1536 wd1537 wd138 cd_X10_majorityOf ⟨Nat.le_of_ble_eq_true rfl, Nat.le_of_ble_eq_true rfl⟩ (Nat.le_of_ble_eq_true rfl) dX10_within_166 ?_
      obtain ⟨r14, hc13, hf⟩ := pk_obd hf
      refine s_callS X (k_X10_placed G hc13) wd1562 wd1563 wd1564 wd138 cd_X10_placed ⟨Nat.le_of_ble_eq_true rfl, Nat.le_of_ble_eq_true rfl⟩ (Nat.le_of_ble_eq_true rfl) dX10_within_169 ?_
      obtain ⟨h15, hf⟩ := pk_chk hf
      obtain ⟨M16, e17, hf⟩ := pk_bnd hf
      refine s_iast X h6 h15 e17 dX10_within_172 ?_
      have h18 := io_sI e17 h3
      have h19 := io_sI e17 h6
      have h20 := io_sI e17 h9
      obtain ⟨x21, e22, hf⟩ := pk_bnd hf
      refine s_iinc X (vs' := [(0, .ref (gB G + v0)), (1, .int v1), (2, .int v2), (3, .int v3), (4, .int x21)]) 4 dX10_within_173 rfl (v := x21) e22.symm (Nat.le_of_ble_eq_true rfl) [1, 2, 3, 4, 0] rfl ?_
      refine s_goto X (tgt := 139) dX10_within_176 rfl ?_
      exact ih _ _ _ _ _ _ hf
theorem l_X10_within_108 {k_76 : Nat → Int32 → Int32 → Int32 → Int32 → Mem → Option (Int32 × Mem)} {rv : (Int32 × Mem)} {n : Nat} {v0 : Nat} {v1 : Int32} {v2 : Int32} {v3 : Int32} {v4 : Int32} {u0 : Int32} {u1 : Int32} {u2 : Nat} {M : Mem} (X : Cx p R s m args c G M0 cX10_within yX10_within.cls 5 2 46) (hr : meth.sig.returnType = (some .int)) (hlk : meth.locks = false) (hnm : meth.name = "within") (hk_76 : ∀ (v0 : Nat), ∀ (v1 : Int32), ∀ (v2 : Int32), ∀ (v3 : Int32), ∀ (v4 : Int32), ∀ M : Mem, k_76 v0 v1 v2 v3 v4 M = some rv → Sg p l e R s m args below meth c (Qm below G args s (some (.int rv.1)) M0 rv.2) G M0 5 76 [(0, .ref (gB G + v0)), (1, .int v1), (2, .int v2), (3, .int v3), (4, .int v4)] [] M) (hf : f_X10_within_108 k_76 n v0 v1 v2 v3 v4 u0 u1 u2 M = some rv) : Sg p l e R s m args below meth c (Qm below G args s (some (.int rv.1)) M0 rv.2) G M0 5 108 [(0, .ref (gB G + v0)), (1, .int v1), (2, .int v2), (3, .int v3), (4, .int v4)] [.int u0, .int u1, .ref (gB G + u2)] M := by
  rw [f_X10_within_108] at hf
  refine s_iadd X dX10_within_108 ?_
  refine s_aload_n X 0 dX10_within_109 rfl rfl ?_
  obtain ⟨h1, hf⟩ := pk_chk hf
  obtain ⟨o2, e3, hf⟩ := pk_bnd hf
  obtain ⟨h4, hf⟩ := pk_chk hf
  refine s_getR X (ci := 10) (k := 1) rfl (Nat.le_of_ble_eq_true rfl) h1 wd1441 (fun _ _ _ => rfl) (e3 ▸ h4) dX10_within_110 (e3 ▸ ?_)
  refine s_iload X 4 dX10_within_113 rfl ?_
  obtain ⟨h5, hf⟩ := pk_chk hf
  refine s_iald X h4 h5 dX10_within_115 ?_
  refine s_iload_n X 1 dX10_within_116 rfl rfl ?_
  refine s_iload_n X 3 dX10_within_117 rfl rfl ?_
  refine s_iload X 4 dX10_within_118 rfl ?_
  refine s_iload_n X 2 dX10_within_120 rfl rfl ?_
  obtain ⟨h6, hf⟩ := pk_chk hf
  refine s_irem X dX10_within_121 h6 ?_
  refine s_iload_n X 2 dX10_within_122 rfl rfl ?_
  obtain ⟨r8, hc7, hf⟩ := pk_obd hf
  refine s_callS X (k_X10_majorityOf G hc7) wd1535 wd1536 wd1537 wd138 cd_X10_majorityOf ⟨Nat.le_of_ble_eq_true rfl, Nat.le_of_ble_eq_true rfl⟩ (Nat.le_of_ble_eq_true rfl) dX10_within_123 ?_
  obtain ⟨r10, hc9, hf⟩ := pk_obd hf
  refine s_callS X (k_X10_placed G hc9) wd1562 wd1563 wd1564 wd138 cd_X10_placed ⟨Nat.le_of_ble_eq_true rfl, Nat.le_of_ble_eq_true rfl⟩ (Nat.le_of_ble_eq_true rfl) dX10_within_126 ?_
  obtain ⟨h11, hf⟩ := pk_chk hf
  obtain ⟨h12, hf⟩ := pk_chk hf
  obtain ⟨M13, e14, hf⟩ := pk_bnd hf
  refine s_iast X h11 h12 e14 dX10_within_129 ?_
  have h15 := io_sI e14 h1
  have h16 := io_sI e14 h4
  have h17 := io_sI e14 h11
  obtain ⟨x18, e19, hf⟩ := pk_bnd hf
  refine s_iinc X (vs' := [(0, .ref (gB G + v0)), (1, .int v1), (2, .int v2), (3, .int v3), (4, .int x18)]) 4 dX10_within_130 rfl (v := x18) e19.symm (Nat.le_of_ble_eq_true rfl) [1, 2, 3, 4, 0] rfl ?_
  refine s_goto X (tgt := 76) dX10_within_133 rfl ?_
  exact hk_76 _ _ _ _ _ _ hf
theorem l_X10_within_76 {rv : (Int32 × Mem)} (X : Cx p R s m args c G M0 cX10_within yX10_within.cls 5 2 46) (hr : meth.sig.returnType = (some .int)) (hlk : meth.locks = false) (hnm : meth.name = "within") : ∀ {n : Nat} (v0 : Nat) (v1 : Int32) (v2 : Int32) (v3 : Int32) (v4 : Int32) (M : Mem), f_X10_within_76 n v0 v1 v2 v3 v4 M = some rv → Sg p l e R s m args below meth c (Qm below G args s (some (.int rv.1)) M0 rv.2) G M0 5 76 [(0, .ref (gB G + v0)), (1, .int v1), (2, .int v2), (3, .int v3), (4, .int v4)] [] M := by
  intro n
  induction n with
  | zero => intro v0 v1 v2 v3 v4 M hf; exact (pk_none hf).elim
  | succ n ih =>
    intro v0 v1 v2 v3 v4 M hf
    rw [f_X10_within_76] at hf
    refine s_iload X 4 dX10_within_76 rfl ?_
    refine s_iload_n X 3 dX10_within_78 rfl rfl ?_
    have hs1 := pk_ite hf
    clear hf
    refine s_icmp_gt X (tgt := 136) dX10_within_79 rfl (fun c2 => ?_) (fun c2 => ?_)
    · have hf := hs1.1 c2
      refine s_iconst X (v := (0 : Int32)) dX10_within_136 rfl ?_
      refine s_istore X (vs' := [(0, .ref (gB G + v0)), (1, .int v1), (2, .int v2), (3, .int v3), (4, .int (0 : Int32))]) dX10_within_137 (Nat.le_of_ble_eq_true rfl) [1, 2, 3, 4, 0] rfl ?_
      exact l_X10_within_139 X hr hlk hnm _ _ _ _ _ _ hf
    · have hf := hs1.2 c2
      refine s_iload X 4 dX10_within_82 rfl ?_
      refine s_iload_n X 1 dX10_within_84 rfl rfl ?_
      have hs3 := pk_ite hf
      clear hf
      refine s_icmp_eq X (tgt := 130) dX10_within_85 rfl (fun c4 => ?_) (fun c4 => ?_)
      · have hf := hs3.1 c4
        obtain ⟨x5, e6, hf⟩ := pk_bnd hf
        refine s_iinc X (vs' := [(0, .ref (gB G + v0)), (1, .int v1), (2, .int v2), (3, .int v3), (4, .int x5)]) 4 dX10_within_130 rfl (v := x5) e6.symm (Nat.le_of_ble_eq_true rfl) [1, 2, 3, 4, 0] rfl ?_
        refine s_goto X (tgt := 76) dX10_within_133 rfl ?_
        exact ih _ _ _ _ _ _ hf
      · have hf := hs3.2 c4
        refine s_aload_n X 0 dX10_within_88 rfl rfl ?_
        obtain ⟨h7, hf⟩ := pk_chk hf
        obtain ⟨o8, e9, hf⟩ := pk_bnd hf
        obtain ⟨h10, hf⟩ := pk_chk hf
        refine s_getR X (ci := 10) (k := 0) rfl (Nat.le_of_ble_eq_true rfl) h7 wd1440 (fun _ _ _ => rfl) (e9 ▸ h10) dX10_within_89 (e9 ▸ ?_)
        refine s_iconst X (v := (2 : Int32)) dX10_within_92 rfl ?_
        refine s_iload X 4 dX10_within_93 rfl ?_
        refine s_iload_n X 1 dX10_within_95 rfl rfl ?_
        have hs11 := pk_ite hf
        clear hf
        refine s_icmp_ge X (tgt := 104) dX10_within_96 rfl (fun c12 => ?_) (fun c12 => ?_)
        · have hf := hs11.1 c12
          refine s_iload X 4 dX10_within_104 rfl ?_
          refine s_iconst X (v := (1 : Int32)) dX10_within_106 rfl ?_
          refine s_isub X dX10_within_107 ?_
          exact l_X10_within_108 X hr hlk hnm ih hf
        · have hf := hs11.2 c12
          refine s_iload X 4 dX10_within_99 rfl ?_
          refine s_goto X (tgt := 108) dX10_within_101 rfl ?_
          exact l_X10_within_108 X hr hlk hnm ih hf
theorem l_X10_within_40 {rv : (Int32 × Mem)} (X : Cx p R s m args c G M0 cX10_within yX10_within.cls 5 2 46) (hr : meth.sig.returnType = (some .int)) (hlk : meth.locks = false) (hnm : meth.name = "within") : ∀ {n : Nat} (v0 : Nat) (v1 : Int32) (v2 : Int32) (v3 : Int32) (v4 : Int32) (M : Mem), f_X10_within_40 n v0 v1 v2 v3 v4 M = some rv → Sg p l e R s m args below meth c (Qm below G args s (some (.int rv.1)) M0 rv.2) G M0 5 40 [(0, .ref (gB G + v0)), (1, .int v1), (2, .int v2), (3, .int v3), (4, .int v4)] [] M := by
  intro n
  induction n with
  | zero => intro v0 v1 v2 v3 v4 M hf; exact (pk_none hf).elim
  | succ n ih =>
    intro v0 v1 v2 v3 v4 M hf
    rw [f_X10_within_40] at hf
    refine s_iload X 4 dX10_within_40 rfl ?_
    refine s_iload_n X 3 dX10_within_42 rfl rfl ?_
    have hs1 := pk_ite hf
    clear hf
    refine s_icmp_gt X (tgt := 65) dX10_within_43 rfl (fun c2 => ?_) (fun c2 => ?_)
    · have hf := hs1.1 c2
      refine s_aload_n X 0 dX10_within_65 rfl rfl ?_
      refine s_iload_n X 3 dX10_within_66 rfl rfl ?_
      refine s_iload_n X 2 dX10_within_67 rfl rfl ?_
      refine s_iadd X dX10_within_68 ?_
      refine s_iconst X (v := (0 : Int32)) dX10_within_69 rfl ?_
      obtain ⟨h3, hf⟩ := pk_chk hf
      obtain ⟨M5, hc4, hf⟩ := pk_obd hf
      refine s_callV X (ci := 10) (k_X10_begin G hc4) rfl h3 wd1429 wd1431 wd50 wd1432 wd138 cd_X10_begin ⟨Nat.le_of_ble_eq_true rfl, Nat.le_of_ble_eq_true rfl⟩ (Nat.le_of_ble_eq_true rfl) dX10_within_70 ?_
      refine s_iconst X (v := (0 : Int32)) dX10_within_73 rfl ?_
      refine s_istore X (vs' := [(0, .ref (gB G + v0)), (1, .int v1), (2, .int v2), (3, .int v3), (4, .int (0 : Int32))]) dX10_within_74 (Nat.le_of_ble_eq_true rfl) [1, 2, 3, 4, 0] rfl ?_
      exact l_X10_within_76 X hr hlk hnm _ _ _ _ _ _ hf
    · have hf := hs1.2 c2
      refine s_aload_n X 0 dX10_within_46 rfl rfl ?_
      obtain ⟨h6, hf⟩ := pk_chk hf
      obtain ⟨o7, e8, hf⟩ := pk_bnd hf
      obtain ⟨h9, hf⟩ := pk_chk hf
      refine s_getR X (ci := 10) (k := 1) rfl (Nat.le_of_ble_eq_true rfl) h6 wd1441 (fun _ _ _ => rfl) (e8 ▸ h9) dX10_within_47 (e8 ▸ ?_)
      refine s_iload X 4 dX10_within_50 rfl ?_
      refine s_aload_n X 0 dX10_within_52 rfl rfl ?_
      refine s_iload X 4 dX10_within_53 rfl ?_
      obtain ⟨r11, hc10, hf⟩ := pk_obd hf
      refine s_callV X (ci := 10) (k_X10_baseOf G hc10) rfl h6 wd1558 wd1560 wd54 wd1561 wd138 cd_X10_baseOf ⟨Nat.le_of_ble_eq_true rfl, Nat.le_of_ble_eq_true rfl⟩ (Nat.le_of_ble_eq_true rfl) dX10_within_55 ?_
      obtain ⟨h12, hf⟩ := pk_chk hf
      obtain ⟨M13, e14, hf⟩ := pk_bnd hf
      refine s_iast X h9 h12 e14 dX10_within_58 ?_
      have h15 := io_sI e14 h6
      have h16 := io_sI e14 h9
      obtain ⟨x17, e18, hf⟩ := pk_bnd hf
      refine s_iinc X (vs' := [(0, .ref (gB G + v0)), (1, .int v1), (2, .int v2), (3, .int v3), (4, .int x17)]) 4 dX10_within_59 rfl (v := x17) e18.symm (Nat.le_of_ble_eq_true rfl) [1, 2, 3, 4, 0] rfl ?_
      refine s_goto X (tgt := 40) dX10_within_62 rfl ?_
      exact ih _ _ _ _ _ _ hf
end
theorem k_X10_within (G : Gam) {n : Nat} {o : Nat} {a1 : Int32} {a2 : Int32} {M : Mem} {rv : (Int32 × Mem)} (hf : f_X10_within n o a1 a2 M = some rv) : Kt yX10_within cX10_within 5 (some .int) 2 46 G [.ref (gB G + o), .int a1, .int a2] M rv.2 (some (.int rv.1)) := by
  refine Kt.of (by decide) (Nat.le_of_ble_eq_true rfl) ?_
  intro p l e R s m args below meth c X hr hlk hnm
  refine s_drop [0, 1, 2] (vs' := [(0, .ref (gB G + o)), (1, .int a1), (2, .int a2)]) rfl ?_
  rw [f_X10_within] at hf
  refine s_aload_n X 0 dX10_within_0 rfl rfl ?_
  obtain ⟨h1, hf⟩ := pk_chk hf
  obtain ⟨o2, e3, hf⟩ := pk_bnd hf
  obtain ⟨h4, hf⟩ := pk_chk hf
  refine s_getR X (ci := 10) (k := 0) rfl (Nat.le_of_ble_eq_true rfl) h1 wd1440 (fun _ _ _ => rfl) (e3 ▸ h4) dX10_within_1 (e3 ▸ ?_)
  refine s_iconst X (v := (0 : Int32)) dX10_within_4 rfl ?_
  obtain ⟨h5, hf⟩ := pk_chk hf
  refine s_iald X h4 h5 dX10_within_5 ?_
  refine s_iconst X (v := (1 : Int32)) dX10_within_6 rfl ?_
  refine s_isub X dX10_within_7 ?_
  obtain ⟨x6, e7, hf⟩ := pk_bnd hf
  refine s_nmI e7 ?_
  refine s_istore_n X (vs' := [(0, .ref (gB G + o)), (1, .int a1), (2, .int a2), (3, .int x6)]) dX10_within_8 rfl (Nat.le_of_ble_eq_true rfl) [1, 2, 3, 0] rfl ?_
  refine s_aload_n X 0 dX10_within_9 rfl rfl ?_
  refine s_iload_n X 1 dX10_within_10 rfl rfl ?_
  obtain ⟨r9, hc8, hf⟩ := pk_obd hf
  refine s_callV X (ci := 10) (k_X10_isNode G hc8) rfl h1 wd1554 wd1556 wd53 wd1557 wd138 cd_X10_isNode ⟨Nat.le_of_ble_eq_true rfl, Nat.le_of_ble_eq_true rfl⟩ (Nat.le_of_ble_eq_true rfl) dX10_within_11 ?_
  have hs10 := pk_ite hf
  clear hf
  refine s_if_eq X (tgt := 35) dX10_within_14 rfl (fun c11 => ?_) (fun c11 => ?_)
  · have hf := hs10.1 c11
    refine s_iconst X (v := (-1 : Int32)) dX10_within_35 rfl ?_
    cases hf
    exact s_iret X hr hlk dX10_within_36
  · have hf := hs10.2 c11
    refine s_iload_n X 2 dX10_within_17 rfl rfl ?_
    refine s_iconst X (v := (2 : Int32)) dX10_within_18 rfl ?_
    refine s_bipush X (v := (8 : Int32)) dX10_within_19 rfl ?_
    obtain ⟨r13, hc12, hf⟩ := pk_obd hf
    refine s_callS X (k_X10_isIn G hc12) wd1520 wd1521 wd1522 wd138 cd_X10_isIn ⟨Nat.le_of_ble_eq_true rfl, Nat.le_of_ble_eq_true rfl⟩ (Nat.le_of_ble_eq_true rfl) dX10_within_21 ?_
    have hs14 := pk_ite hf
    clear hf
    refine s_if_eq X (tgt := 35) dX10_within_24 rfl (fun c15 => ?_) (fun c15 => ?_)
    · have hf := hs14.1 c15
      refine s_iconst X (v := (-1 : Int32)) dX10_within_35 rfl ?_
      cases hf
      exact s_iret X hr hlk dX10_within_36
    · have hf := hs14.2 c15
      refine s_iload_n X 3 dX10_within_27 rfl rfl ?_
      refine s_iload_n X 2 dX10_within_28 rfl rfl ?_
      refine s_iadd X dX10_within_29 ?_
      refine s_bipush X (v := (16 : Int32)) dX10_within_30 rfl ?_
      have hs16 := pk_ite hf
      clear hf
      refine s_icmp_le X (tgt := 37) dX10_within_32 rfl (fun c17 => ?_) (fun c17 => ?_)
      · have hf := hs16.1 c17
        refine s_iconst X (v := (0 : Int32)) dX10_within_37 rfl ?_
        refine s_istore X (vs' := [(0, .ref (gB G + o)), (1, .int a1), (2, .int a2), (3, .int x6), (4, .int (0 : Int32))]) dX10_within_38 (Nat.le_of_ble_eq_true rfl) [1, 2, 3, 4, 0] rfl ?_
        exact l_X10_within_40 X hr hlk hnm _ _ _ _ _ _ hf
      · have hf := hs16.2 c17
        refine s_iconst X (v := (-1 : Int32)) dX10_within_35 rfl ?_
        cases hf
        exact s_iret X hr hlk dX10_within_36
theorem dX7_isSetOfNodes_0 : decode cX7_isSetOfNodes 0 = .ok (.iload_n 1, 1) := dk_27 (by decide +kernel)
theorem dX7_isSetOfNodes_1 : decode cX7_isSetOfNodes 1 = .ok (.aload_n 0, 1) := dk_42 (by decide +kernel)
theorem dX7_isSetOfNodes_2 : decode cX7_isSetOfNodes 2 = .ok (.invokevirtual 32, 3) := dk_182 (x := 0) (y := 32) (by decide +kernel) rfl
theorem dX7_isSetOfNodes_5 : decode cX7_isSetOfNodes 5 = .ok (.iconst (-1), 1) := dk_2 (by decide +kernel)
theorem dX7_isSetOfNodes_6 : decode cX7_isSetOfNodes 6 = .ok (.ixor, 1) := dk_130 (by decide +kernel)
theorem dX7_isSetOfNodes_7 : decode cX7_isSetOfNodes 7 = .ok (.iand, 1) := dk_126 (by decide +kernel)
theorem dX7_isSetOfNodes_8 : decode cX7_isSetOfNodes 8 = .ok (.ifCond .ne 7, 3) := dk_154 (x := 0) (y := 7) (by decide +kernel) rfl
theorem dX7_isSetOfNodes_11 : decode cX7_isSetOfNodes 11 = .ok (.iconst 1, 1) := dk_4 (by decide +kernel)
theorem dX7_isSetOfNodes_12 : decode cX7_isSetOfNodes 12 = .ok (.goto 4, 3) := dk_167 (x := 0) (y := 4) (by decide +kernel) rfl
theorem dX7_isSetOfNodes_15 : decode cX7_isSetOfNodes 15 = .ok (.iconst 0, 1) := dk_3 (by decide +kernel)
theorem dX7_isSetOfNodes_16 : decode cX7_isSetOfNodes 16 = .ok (.ireturn, 1) := dk_172 (by decide +kernel)
def f_X7_isSetOfNodes (o : Nat) (a1 : Int32) (M : Mem) : Option Int32 :=
  chk (isO M 7 o) <|
  obd (f_X7_allNodes o M) fun r3 =>
  if (a1 &&& (r3 ^^^ (-1 : Int32))) = 0 then (
    some (1 : Int32)
    ) else (
    some (0 : Int32)
    )
theorem cd_X7_isSetOfNodes : (yX7_isSetOfNodes.cls ≠ "java/lang/invoke/MethodHandle" ∧ yX7_isSetOfNodes.cls ≠ "java/lang/invoke/VarHandle") ∧ (parseMethodDescriptor yX7_isSetOfNodes.desc).map (fun d => d.parameters.length) = some 1 := ⟨⟨by decide +kernel, by decide +kernel⟩, by decide +kernel⟩
theorem k_X7_isSetOfNodes (G : Gam) {o : Nat} {a1 : Int32} {M : Mem} {rv : Int32} (hf : f_X7_isSetOfNodes o a1 M = some rv) : Kt yX7_isSetOfNodes cX7_isSetOfNodes 2 (some .boolean) 1 20 G [.ref (gB G + o), .int a1] M M (some (.int rv)) := by
  refine Kt.of (by decide) (Nat.le_of_ble_eq_true rfl) ?_
  intro p l e R s m args below meth c X hr hlk hnm
  refine s_drop [0, 1] (vs' := [(0, .ref (gB G + o)), (1, .int a1)]) rfl ?_
  rw [f_X7_isSetOfNodes] at hf
  refine s_iload_n X 1 dX7_isSetOfNodes_0 rfl rfl ?_
  refine s_aload_n X 0 dX7_isSetOfNodes_1 rfl rfl ?_
  obtain ⟨h1, hf⟩ := pk_chk hf
  obtain ⟨r3, hc2, hf⟩ := pk_obd hf
  refine s_callV X (ci := 7) (k_X7_allNodes G hc2) rfl h1 wd683 wd684 wd685 wd686 wd127 cd_X7_allNodes ⟨Nat.le_of_ble_eq_true rfl, Nat.le_of_ble_eq_true rfl⟩ (Nat.le_of_ble_eq_true rfl) dX7_isSetOfNodes_2 ?_
  refine s_iconst X (v := (-1 : Int32)) dX7_isSetOfNodes_5 rfl ?_
  refine s_ixor X dX7_isSetOfNodes_6 ?_
  refine s_iand X dX7_isSetOfNodes_7 ?_
  have hs4 := pk_ite hf
  clear hf
  refine s_if_ne X (tgt := 15) dX7_isSetOfNodes_8 rfl (fun c5 => ?_) (fun c5 => ?_)
  · have hf := hs4.2 c5
    refine s_iconst X (v := (0 : Int32)) dX7_isSetOfNodes_15 rfl ?_
    cases hf
    exact s_zret X hr (bz_n (Or.inl rfl)) hlk dX7_isSetOfNodes_16
  · have hf := hs4.1 c5
    refine s_iconst X (v := (1 : Int32)) dX7_isSetOfNodes_11 rfl ?_
    refine s_goto X (tgt := 16) dX7_isSetOfNodes_12 rfl ?_
    cases hf
    exact s_zret X hr (bz_n (Or.inr rfl)) hlk dX7_isSetOfNodes_16
theorem dX7_tellByHand_0 : decode cX7_tellByHand 0 = .ok (.aload_n 0, 1) := dk_42 (by decide +kernel)
theorem dX7_tellByHand_1 : decode cX7_tellByHand 1 = .ok (.getfield 9, 3) := dk_180 (x := 0) (y := 9) (by decide +kernel) rfl
theorem dX7_tellByHand_4 : decode cX7_tellByHand 4 = .ok (.iload_n 1, 1) := dk_27 (by decide +kernel)
theorem dX7_tellByHand_5 : decode cX7_tellByHand 5 = .ok (.iload_n 2, 1) := dk_28 (by decide +kernel)
theorem dX7_tellByHand_6 : decode cX7_tellByHand 6 = .ok (.iastore, 1) := dk_79 (by decide +kernel)
theorem dX7_tellByHand_7 : decode cX7_tellByHand 7 = .ok (.aload_n 0, 1) := dk_42 (by decide +kernel)
theorem dX7_tellByHand_8 : decode cX7_tellByHand 8 = .ok (.iconst 0, 1) := dk_3 (by decide +kernel)
theorem dX7_tellByHand_9 : decode cX7_tellByHand 9 = .ok (.putfield 36, 3) := dk_181 (x := 0) (y := 36) (by decide +kernel) rfl
theorem dX7_tellByHand_12 : decode cX7_tellByHand 12 = .ok (.return_, 1) := dk_177 (by decide +kernel)
def f_X7_tellByHand (o : Nat) (a1 : Int32) (a2 : Int32) (M : Mem) : Option Mem :=
  chk (isO M 7 o) <|
  bnd (mR M o 0) fun o2 =>
  chk (isO M 100 o2) <|
  chk (inB a1 (mLn M o2)) <|
  bnd (sI M o2 (a1).toNatClampNeg a2) fun M6 =>
  chk (bz (0 : Int32)) <|
  bnd (sI M6 o 4 (0 : Int32)) fun M10 =>
  some M10
theorem cd_X7_tellByHand : (yX7_tellByHand.cls ≠ "java/lang/invoke/MethodHandle" ∧ yX7_tellByHand.cls ≠ "java/lang/invoke/VarHandle") ∧ (parseMethodDescriptor yX7_tellByHand.desc).map (fun d => d.parameters.length) = some 2 := ⟨⟨by decide +kernel, by decide +kernel⟩, by decide +kernel⟩
theorem k_X7_tellByHand (G : Gam) {o : Nat} {a1 : Int32} {a2 : Int32} {M : Mem} {rv : Mem} (hf : f_X7_tellByHand o a1 a2 M = some rv) : Kt yX7_tellByHand cX7_tellByHand 3 none 0 0 G [.ref (gB G + o), .int a1, .int a2] M rv none := by
  refine Kt.of (by decide) (Nat.le_of_ble_eq_true rfl) ?_
  intro p l e R s m args below meth c X hr hlk hnm
  refine s_drop [0, 1, 2] (vs' := [(0, .ref (gB G + o)), (1, .int a1), (2, .int a2)]) rfl ?_
  rw [f_X7_tellByHand] at hf
  refine s_aload_n X 0 dX7_tellByHand_0 rfl rfl ?_
  obtain ⟨h1, hf⟩ := pk_chk hf
  obtain ⟨o2, e3, hf⟩ := pk_bnd hf
  obtain ⟨h4, hf⟩ := pk_chk hf
  refine s_getR X (ci := 7) (k := 0) rfl (Nat.le_of_ble_eq_true rfl) h1 wd159 (fun _ _ _ => rfl) (e3 ▸ h4) dX7_tellByHand_1 (e3 ▸ ?_)
  refine s_iload_n X 1 dX7_tellByHand_4 rfl rfl ?_
  refine s_iload_n X 2 dX7_tellByHand_5 rfl rfl ?_
  obtain ⟨h5, hf⟩ := pk_chk hf
  obtain ⟨M6, e7, hf⟩ := pk_bnd hf
  refine s_iast X h4 h5 e7 dX7_tellByHand_6 ?_
  have h8 := io_sI e7 h1
  have h9 := io_sI e7 h4
  refine s_aload_n X 0 dX7_tellByHand_7 rfl rfl ?_
  refine s_iconst X (v := (0 : Int32)) dX7_tellByHand_8 rfl ?_
  obtain ⟨h12, hf⟩ := pk_chk hf
  obtain ⟨M10, e11, hf⟩ := pk_bnd hf
  refine s_putZ X (ci := 7) (k := 4) rfl (Nat.le_of_ble_eq_true rfl) h8 wd172 (fun _ _ _ => rfl) rfl (bz_n h12) (bz_f h12) rfl e11 dX7_tellByHand_9 ?_
  have h13 := io_sI e11 h8
  have h14 := io_sI e11 h9
  cases hf
  exact s_vret X hr hlk dX7_tellByHand_12
theorem dX7_countApart_0 : decode cX7_countApart 0 = .ok (.iconst 0, 1) := dk_3 (by decide +kernel)
theorem dX7_countApart_1 : decode cX7_countApart 1 = .ok (.istore_n 1, 1) := dk_60 (by decide +kernel)
theorem dX7_countApart_2 : decode cX7_countApart 2 = .ok (.iconst 0, 1) := dk_3 (by decide +kernel)
theorem dX7_countApart_3 : decode cX7_countApart 3 = .ok (.istore_n 2, 1) := dk_61 (by decide +kernel)
theorem dX7_countApart_4 : decode cX7_countApart 4 = .ok (.iload_n 2, 1) := dk_28 (by decide +kernel)
theorem dX7_countApart_5 : decode cX7_countApart 5 = .ok (.aload_n 0, 1) := dk_42 (by decide +kernel)
theorem dX7_countApart_6 : decode cX7_countApart 6 = .ok (.getfield 40, 3) := dk_180 (x := 0) (y := 40) (by decide +kernel) rfl
theorem dX7_countApart_9 : decode cX7_countApart 9 = .ok (.if_icmp .ge 46, 3) := dk_162 (x := 0) (y := 46) (by decide +kernel) rfl
theorem dX7_countApart_12 : decode cX7_countApart 12 = .ok (.iload_n 2, 1) := dk_28 (by decide +kernel)
theorem dX7_countApart_13 : decode cX7_countApart 13 = .ok (.iconst 1, 1) := dk_4 (by decide +kernel)
theorem dX7_countApart_14 : decode cX7_countApart 14 = .ok (.iadd, 1) := dk_96 (by decide +kernel)
theorem dX7_countApart_15 : decode cX7_countApart 15 = .ok (.istore_n 3, 1) := dk_62 (by decide +kernel)
theorem dX7_countApart_16 : decode cX7_countApart 16 = .ok (.iload_n 3, 1) := dk_29 (by decide +kernel)
theorem dX7_countApart_17 : decode cX7_countApart 17 = .ok (.aload_n 0, 1) := dk_42 (by decide +kernel)
theorem dX7_countApart_18 : decode cX7_countApart 18 = .ok (.getfield 40, 3) := dk_180 (x := 0) (y := 40) (by decide +kernel) rfl
theorem dX7_countApart_21 : decode cX7_countApart 21 = .ok (.if_icmp .ge 28, 3) := dk_162 (x := 0) (y := 28) (by decide +kernel) rfl
theorem dX7_countApart_24 : decode cX7_countApart 24 = .ok (.aload_n 0, 1) := dk_42 (by decide +kernel)
theorem dX7_countApart_25 : decode cX7_countApart 25 = .ok (.getfield 9, 3) := dk_180 (x := 0) (y := 9) (by decide +kernel) rfl
theorem dX7_countApart_28 : decode cX7_countApart 28 = .ok (.iload_n 2, 1) := dk_28 (by decide +kernel)
theorem dX7_countApart_29 : decode cX7_countApart 29 = .ok (.iaload, 1) := dk_46 (by decide +kernel)
theorem dX7_countApart_30 : decode cX7_countApart 30 = .ok (.aload_n 0, 1) := dk_42 (by decide +kernel)
theorem dX7_countApart_31 : decode cX7_countApart 31 = .ok (.getfield 9, 3) := dk_180 (x := 0) (y := 9) (by decide +kernel) rfl
theorem dX7_countApart_34 : decode cX7_countApart 34 = .ok (.iload_n 3, 1) := dk_29 (by decide +kernel)
theorem dX7_countApart_35 : decode cX7_countApart 35 = .ok (.iaload, 1) := dk_46 (by decide +kernel)
theorem dX7_countApart_36 : decode cX7_countApart 36 = .ok (.iand, 1) := dk_126 (by decide +kernel)
theorem dX7_countApart_37 : decode cX7_countApart 37 = .ok (.ifCond .ne 6, 3) := dk_154 (x := 0) (y := 6) (by decide +kernel) rfl
theorem dX7_countApart_40 : decode cX7_countApart 40 = .ok (.iinc 1 1, 3) := dk_132 (x := 1) (y := 1) (by decide +kernel) rfl
theorem dX7_countApart_43 : decode cX7_countApart 43 = .ok (.iinc 3 1, 3) := dk_132 (x := 3) (y := 1) (by decide +kernel) rfl
theorem dX7_countApart_46 : decode cX7_countApart 46 = .ok (.goto (-30), 3) := dk_167 (x := 255) (y := 226) (by decide +kernel) rfl
theorem dX7_countApart_49 : decode cX7_countApart 49 = .ok (.iinc 2 1, 3) := dk_132 (x := 2) (y := 1) (by decide +kernel) rfl
theorem dX7_countApart_52 : decode cX7_countApart 52 = .ok (.goto (-48), 3) := dk_167 (x := 255) (y := 208) (by decide +kernel) rfl
theorem dX7_countApart_55 : decode cX7_countApart 55 = .ok (.iload_n 1, 1) := dk_27 (by decide +kernel)
theorem dX7_countApart_56 : decode cX7_countApart 56 = .ok (.ireturn, 1) := dk_172 (by decide +kernel)
def f_X7_countApart_16 (k_4 : Nat → Int32 → Int32 → Option Int32) (M : Mem) : Nat → Nat → Int32 → Int32 → Int32 → Option Int32
  | 0, _, _, _, _ => none
  | n + 1, v0, v1, v2, v3 =>
    chk (isO M 7 v0) <|
    if (mI M v0 3) ≤ v3 then (
      bnd (v2 + (1 : Int32)) fun x4 =>
      k_4 v0 v1 x4
      ) else (
      bnd (mR M v0 0) fun o6 =>
      chk (isO M 100 o6) <|
      chk (inB v2 (mLn M o6)) <|
      bnd (mR M v0 0) fun o10 =>
      chk (isO M 100 o10) <|
      chk (inB v3 (mLn M o10)) <|
      if ((mI M o6 (v2).toNatClampNeg) &&& (mI M o10 (v3).toNatClampNeg)) = 0 then (
        bnd (v1 + (1 : Int32)) fun x18 =>
        bnd (v3 + (1 : Int32)) fun x20 =>
        f_X7_countApart_16 k_4 M n v0 x18 v2 x20
        ) else (
        bnd (v3 + (1 : Int32)) fun x16 =>
        f_X7_countApart_16 k_4 M n v0 v1 v2 x16
        )
      )
def f_X7_countApart_4 (M : Mem) : Nat → Nat → Int32 → Int32 → Option Int32
  | 0, _, _, _ => none
  | n + 1, v0, v1, v2 =>
    chk (isO M 7 v0) <|
    if (mI M v0 3) ≤ v2 then (
      some v1
      ) else (
      bnd (v2 + (1 : Int32)) fun x4 =>
      f_X7_countApart_16 (f_X7_countApart_4 M n) M n v0 v1 v2 x4
      )
def f_X7_countApart (n : Nat) (o : Nat) (M : Mem) : Option Int32 :=
  f_X7_countApart_4 M n o (0 : Int32) (0 : Int32)
theorem cd_X7_countApart : (yX7_countApart.cls ≠ "java/lang/invoke/MethodHandle" ∧ yX7_countApart.cls ≠ "java/lang/invoke/VarHandle") ∧ (parseMethodDescriptor yX7_countApart.desc).map (fun d => d.parameters.length) = some 0 := ⟨⟨by decide +kernel, by decide +kernel⟩, by decide +kernel⟩
section
variable {p : Program} {l : Launch} {e : Env} {R : Room} {s : State} {m : MethodId} {args : Array Value} {below : List Frame} {meth : Method} {c : Code} {G : Gam} {M0 : Mem}
theorem l_X7_countApart_16 {k_4 : Nat → Int32 → Int32 → Option Int32} {M : Mem} {rv : Int32} (X : Cx p R s m args c G M0 cX7_countApart yX7_countApart.cls 4 0 0) (hr : meth.sig.returnType = (some .int)) (hlk : meth.locks = false) (hnm : meth.name = "countApart") (hk_4 : ∀ (v0 : Nat), ∀ (v1 : Int32), ∀ (v2 : Int32), k_4 v0 v1 v2 = some rv → Sg p l e R s m args below meth c (Qm below G args s (some (.int rv)) M0 M) G M0 4 4 [(0, .ref (gB G + v0)), (1, .int v1), (2, .int v2)] [] M) : ∀ {n : Nat} (v0 : Nat) (v1 : Int32) (v2 : Int32) (v3 : Int32), f_X7_countApart_16 k_4 M n v0 v1 v2 v3 = some rv → Sg p l e R s m args below meth c (Qm below G args s (some (.int rv)) M0 M) G M0 4 16 [(0, .ref (gB G + v0)), (1, .int v1), (2, .int v2), (3, .int v3)] [] M := by
  intro n
  induction n with
  | zero => intro v0 v1 v2 v3 hf; exact (pk_none hf).elim
  | succ n ih =>
    intro v0 v1 v2 v3 hf
    rw [f_X7_countApart_16] at hf
    refine s_iload_n X 3 dX7_countApart_16 rfl rfl ?_
    refine s_aload_n X 0 dX7_countApart_17 rfl rfl ?_
    obtain ⟨h1, hf⟩ := pk_chk hf
    refine s_getI X (ci := 7) (k := 3) rfl (Nat.le_of_ble_eq_true rfl) h1 wd169 (fun _ _ _ => rfl) dX7_countApart_18 ?_
    have hs2 := pk_ite hf
    clear hf
    refine s_icmp_ge X (tgt := 49) dX7_countApart_21 rfl (fun c3 => ?_) (fun c3 => ?_)
    · have hf := hs2.1 c3
      obtain ⟨x4, e5, hf⟩ := pk_bnd hf
      refine s_iinc X (vs' := [(0, .ref (gB G + v0)), (1, .int v1), (2, .int x4), (3, .int v3)]) 2 dX7_countApart_49 rfl (v := x4) e5.symm (Nat.le_of_ble_eq_true rfl) [1, 2, 0, 3] rfl ?_
      refine s_goto X (tgt := 4) dX7_countApart_52 rfl ?_
      refine s_drop [0, 1, 2] (vs' := [(0, .ref (gB G + v0)), (1, .int v1), (2, .int x4)]) rfl ?_
      exact hk_4 _ _ _ hf
    · have hf := hs2.2 c3
      refine s_aload_n X 0 dX7_countApart_24 rfl rfl ?_
      obtain ⟨o6, e7, hf⟩ := pk_bnd hf
      obtain ⟨h8, hf⟩ := pk_chk hf
      refine s_getR X (ci := 7) (k := 0) rfl (Nat.le_of_ble_eq_true rfl) h1 wd159 (fun _ _ _ => rfl) (e7 ▸ h8) dX7_countApart_25 (e7 ▸ ?_)
      refine s_iload_n X 2 dX7_countApart_28 rfl rfl ?_
      obtain ⟨h9, hf⟩ := pk_chk hf
      refine s_iald X h8 h9 dX7_countApart_29 ?_
      refine s_aload_n X 0 dX7_countApart_30 rfl rfl ?_
      obtain ⟨o10, e11, hf⟩ := pk_bnd hf
      obtain ⟨h12, hf⟩ := pk_chk hf
      refine s_getR X (ci := 7) (k := 0) rfl (Nat.le_of_ble_eq_true rfl) h1 wd159 (fun _ _ _ => rfl) (e11 ▸ h12) dX7_countApart_31 (e11 ▸ ?_)
      refine s_iload_n X 3 dX7_countApart_34 rfl rfl ?_
      obtain ⟨h13, hf⟩ := pk_chk hf
      refine s_iald X h12 h13 dX7_countApart_35 ?_
      refine s_iand X dX7_countApart_36 ?_
      have hs14 := pk_ite hf
      clear hf
      refine s_if_ne X (tgt := 43) dX7_countApart_37 rfl (fun c15 => ?_) (fun c15 => ?_)
      · have hf := hs14.2 c15
        obtain ⟨x16, e17, hf⟩ := pk_bnd hf
        refine s_iinc X (vs' := [(0, .ref (gB G + v0)), (1, .int v1), (2, .int v2), (3, .int x16)]) 3 dX7_countApart_43 rfl (v := x16) e17.symm (Nat.le_of_ble_eq_true rfl) [1, 2, 3, 0] rfl ?_
        refine s_goto X (tgt := 16) dX7_countApart_46 rfl ?_
        exact ih _ _ _ _ hf
      · have hf := hs14.1 c15
        obtain ⟨x18, e19, hf⟩ := pk_bnd hf
        refine s_iinc X (vs' := [(0, .ref (gB G + v0)), (1, .int x18), (2, .int v2), (3, .int v3)]) 1 dX7_countApart_40 rfl (v := x18) e19.symm (Nat.le_of_ble_eq_true rfl) [1, 0, 2, 3] rfl ?_
        obtain ⟨x20, e21, hf⟩ := pk_bnd hf
        refine s_iinc X (vs' := [(0, .ref (gB G + v0)), (1, .int x18), (2, .int v2), (3, .int x20)]) 3 dX7_countApart_43 rfl (v := x20) e21.symm (Nat.le_of_ble_eq_true rfl) [1, 2, 3, 0] rfl ?_
        refine s_goto X (tgt := 16) dX7_countApart_46 rfl ?_
        exact ih _ _ _ _ hf
theorem l_X7_countApart_4 {M : Mem} {rv : Int32} (X : Cx p R s m args c G M0 cX7_countApart yX7_countApart.cls 4 0 0) (hr : meth.sig.returnType = (some .int)) (hlk : meth.locks = false) (hnm : meth.name = "countApart") : ∀ {n : Nat} (v0 : Nat) (v1 : Int32) (v2 : Int32), f_X7_countApart_4 M n v0 v1 v2 = some rv → Sg p l e R s m args below meth c (Qm below G args s (some (.int rv)) M0 M) G M0 4 4 [(0, .ref (gB G + v0)), (1, .int v1), (2, .int v2)] [] M := by
  intro n
  induction n with
  | zero => intro v0 v1 v2 hf; exact (pk_none hf).elim
  | succ n ih =>
    intro v0 v1 v2 hf
    rw [f_X7_countApart_4] at hf
    refine s_iload_n X 2 dX7_countApart_4 rfl rfl ?_
    refine s_aload_n X 0 dX7_countApart_5 rfl rfl ?_
    obtain ⟨h1, hf⟩ := pk_chk hf
    refine s_getI X (ci := 7) (k := 3) rfl (Nat.le_of_ble_eq_true rfl) h1 wd169 (fun _ _ _ => rfl) dX7_countApart_6 ?_
    have hs2 := pk_ite hf
    clear hf
    refine s_icmp_ge X (tgt := 55) dX7_countApart_9 rfl (fun c3 => ?_) (fun c3 => ?_)
    · have hf := hs2.1 c3
      refine s_iload_n X 1 dX7_countApart_55 rfl rfl ?_
      cases hf
      exact s_iret X hr hlk dX7_countApart_56
    · have hf := hs2.2 c3
      refine s_iload_n X 2 dX7_countApart_12 rfl rfl ?_
      refine s_iconst X (v := (1 : Int32)) dX7_countApart_13 rfl ?_
      refine s_iadd X dX7_countApart_14 ?_
      obtain ⟨x4, e5, hf⟩ := pk_bnd hf
      refine s_nmI e5 ?_
      refine s_istore_n X (vs' := [(0, .ref (gB G + v0)), (1, .int v1), (2, .int v2), (3, .int x4)]) dX7_countApart_15 rfl (Nat.le_of_ble_eq_true rfl) [1, 2, 3, 0] rfl ?_
      exact l_X7_countApart_16 X hr hlk hnm ih _ _ _ _ hf
end
theorem k_X7_countApart (G : Gam) {n : Nat} {o : Nat} {M : Mem} {rv : Int32} (hf : f_X7_countApart n o M = some rv) : Kt yX7_countApart cX7_countApart 4 (some .int) 0 0 G [.ref (gB G + o)] M M (some (.int rv)) := by
  refine Kt.of (by decide) (Nat.le_of_ble_eq_true rfl) ?_
  intro p l e R s m args below meth c X hr hlk hnm
  refine s_drop [0] (vs' := [(0, .ref (gB G + o))]) rfl ?_
  rw [f_X7_countApart] at hf
  refine s_iconst X (v := (0 : Int32)) dX7_countApart_0 rfl ?_
  refine s_istore_n X (vs' := [(0, .ref (gB G + o)), (1, .int (0 : Int32))]) dX7_countApart_1 rfl (Nat.le_of_ble_eq_true rfl) [1, 0] rfl ?_
  refine s_iconst X (v := (0 : Int32)) dX7_countApart_2 rfl ?_
  refine s_istore_n X (vs' := [(0, .ref (gB G + o)), (1, .int (0 : Int32)), (2, .int (0 : Int32))]) dX7_countApart_3 rfl (Nat.le_of_ble_eq_true rfl) [1, 2, 0] rfl ?_
  exact l_X7_countApart_4 X hr hlk hnm _ _ _ hf
theorem dX9_base_0 : decode cX9_base 0 = .ok (.aload_n 0, 1) := dk_42 (by decide +kernel)
theorem dX9_base_1 : decode cX9_base 1 = .ok (.getfield 10, 3) := dk_180 (x := 0) (y := 10) (by decide +kernel) rfl
theorem dX9_base_4 : decode cX9_base 4 = .ok (.iload_n 1, 1) := dk_27 (by decide +kernel)
theorem dX9_base_5 : decode cX9_base 5 = .ok (.invokevirtual 71, 3) := dk_182 (x := 0) (y := 71) (by decide +kernel) rfl
theorem dX9_base_8 : decode cX9_base 8 = .ok (.ifCond .eq 18, 3) := dk_153 (x := 0) (y := 18) (by decide +kernel) rfl
theorem dX9_base_11 : decode cX9_base 11 = .ok (.iload_n 2, 1) := dk_28 (by decide +kernel)
theorem dX9_base_12 : decode cX9_base 12 = .ok (.ifCond .eq 14, 3) := dk_153 (x := 0) (y := 14) (by decide +kernel) rfl
theorem dX9_base_15 : decode cX9_base 15 = .ok (.aload_n 0, 1) := dk_42 (by decide +kernel)
theorem dX9_base_16 : decode cX9_base 16 = .ok (.getfield 10, 3) := dk_180 (x := 0) (y := 10) (by decide +kernel) rfl
theorem dX9_base_19 : decode cX9_base 19 = .ok (.iload_n 2, 1) := dk_28 (by decide +kernel)
theorem dX9_base_20 : decode cX9_base 20 = .ok (.invokevirtual 83, 3) := dk_182 (x := 0) (y := 83) (by decide +kernel) rfl
theorem dX9_base_23 : decode cX9_base 23 = .ok (.ifCond .ne 5, 3) := dk_154 (x := 0) (y := 5) (by decide +kernel) rfl
theorem dX9_base_26 : decode cX9_base 26 = .ok (.iconst (-1), 1) := dk_2 (by decide +kernel)
theorem dX9_base_27 : decode cX9_base 27 = .ok (.ireturn, 1) := dk_172 (by decide +kernel)
theorem dX9_base_28 : decode cX9_base 28 = .ok (.aload_n 0, 1) := dk_42 (by decide +kernel)
theorem dX9_base_29 : decode cX9_base 29 = .ok (.getfield 10, 3) := dk_180 (x := 0) (y := 10) (by decide +kernel) rfl
theorem dX9_base_32 : decode cX9_base 32 = .ok (.iload_n 1, 1) := dk_27 (by decide +kernel)
theorem dX9_base_33 : decode cX9_base 33 = .ok (.iload_n 2, 1) := dk_28 (by decide +kernel)
theorem dX9_base_34 : decode cX9_base 34 = .ok (.invokevirtual 86, 3) := dk_182 (x := 0) (y := 86) (by decide +kernel) rfl
theorem dX9_base_37 : decode cX9_base 37 = .ok (.aload_n 0, 1) := dk_42 (by decide +kernel)
theorem dX9_base_38 : decode cX9_base 38 = .ok (.invokevirtual 55, 3) := dk_182 (x := 0) (y := 55) (by decide +kernel) rfl
theorem dX9_base_41 : decode cX9_base 41 = .ok (.pop, 1) := dk_87 (by decide +kernel)
theorem dX9_base_42 : decode cX9_base 42 = .ok (.aload_n 0, 1) := dk_42 (by decide +kernel)
theorem dX9_base_43 : decode cX9_base 43 = .ok (.getfield 10, 3) := dk_180 (x := 0) (y := 10) (by decide +kernel) rfl
theorem dX9_base_46 : decode cX9_base 46 = .ok (.invokevirtual 89, 3) := dk_182 (x := 0) (y := 89) (by decide +kernel) rfl
theorem dX9_base_49 : decode cX9_base 49 = .ok (.ireturn, 1) := dk_172 (by decide +kernel)
def f_X9_base (n : Nat) (o : Nat) (a1 : Int32) (a2 : Int32) (M : Mem) : Option (Int32 × Mem) :=
  chk (isO M 9 o) <|
  bnd (mR M o 0) fun o2 =>
  chk (isO M 7 o2) <|
  obd (f_X7_isNode o2 a1 M) fun r6 =>
  if r6 = 0 then (
    some ((-1 : Int32), M)
    ) else (
    if a2 = 0 then (
      some ((-1 : Int32), M)
      ) else (
      bnd (mR M o 0) fun o11 =>
      chk (isO M 7 o11) <|
      obd (f_X7_isSetOfNodes o11 a2 M) fun r15 =>
      if r15 = 0 then (
        some ((-1 : Int32), M)
        ) else (
        bnd (mR M o 0) fun o18 =>
        chk (isO M 7 o18) <|
        obd (f_X7_tellByHand o18 a1 a2 M) fun M22 =>
        chk (isO M22 9 o) <|
        obd2 (f_X9_startAnew n o M22) fun r25 M26 =>
        chk (isO M26 9 o) <|
        bnd (mR M26 o 0) fun o28 =>
        chk (isO M26 7 o28) <|
        obd (f_X7_countApart n o28 M26) fun r32 =>
        some (r32, M26)
        )
      )
    )
theorem cd_X9_base : (yX9_base.cls ≠ "java/lang/invoke/MethodHandle" ∧ yX9_base.cls ≠ "java/lang/invoke/VarHandle") ∧ (parseMethodDescriptor yX9_base.desc).map (fun d => d.parameters.length) = some 2 := ⟨⟨by decide +kernel, by decide +kernel⟩, by decide +kernel⟩
theorem k_X9_base (G : Gam) {n : Nat} {o : Nat} {a1 : Int32} {a2 : Int32} {M : Mem} {rv : (Int32 × Mem)} (hf : f_X9_base n o a1 a2 M = some rv) : Kt yX9_base cX9_base 3 (some .int) 5 104 G [.ref (gB G + o), .int a1, .int a2] M rv.2 (some (.int rv.1)) := by
  refine Kt.of (by decide) (Nat.le_of_ble_eq_true rfl) ?_
  intro p l e R s m args below meth c X hr hlk hnm
  refine s_drop [0, 1, 2] (vs' := [(0, .ref (gB G + o)), (1, .int a1), (2, .int a2)]) rfl ?_
  rw [f_X9_base] at hf
  refine s_aload_n X 0 dX9_base_0 rfl rfl ?_
  obtain ⟨h1, hf⟩ := pk_chk hf
  obtain ⟨o2, e3, hf⟩ := pk_bnd hf
  obtain ⟨h4, hf⟩ := pk_chk hf
  refine s_getR X (ci := 9) (k := 0) rfl (Nat.le_of_ble_eq_true rfl) h1 wd627 (fun _ _ _ => rfl) (e3 ▸ h4) dX9_base_1 (e3 ▸ ?_)
  refine s_iload_n X 1 dX9_base_4 rfl rfl ?_
  obtain ⟨r6, hc5, hf⟩ := pk_obd hf
  refine s_callV X (ci := 7) (k_X7_isNode G hc5) rfl h4 wd699 wd700 wd701 wd702 wd127 cd_X7_isNode ⟨Nat.le_of_ble_eq_true rfl, Nat.le_of_ble_eq_true rfl⟩ (Nat.le_of_ble_eq_true rfl) dX9_base_5 ?_
  have hs7 := pk_ite hf
  clear hf
  refine s_if_eq X (tgt := 26) dX9_base_8 rfl (fun c8 => ?_) (fun c8 => ?_)
  · have hf := hs7.1 c8
    refine s_iconst X (v := (-1 : Int32)) dX9_base_26 rfl ?_
    cases hf
    exact s_iret X hr hlk dX9_base_27
  · have hf := hs7.2 c8
    refine s_iload_n X 2 dX9_base_11 rfl rfl ?_
    have hs9 := pk_ite hf
    clear hf
    refine s_if_eq X (tgt := 26) dX9_base_12 rfl (fun c10 => ?_) (fun c10 => ?_)
    · have hf := hs9.1 c10
      refine s_iconst X (v := (-1 : Int32)) dX9_base_26 rfl ?_
      cases hf
      exact s_iret X hr hlk dX9_base_27
    · have hf := hs9.2 c10
      refine s_aload_n X 0 dX9_base_15 rfl rfl ?_
      obtain ⟨o11, e12, hf⟩ := pk_bnd hf
      obtain ⟨h13, hf⟩ := pk_chk hf
      refine s_getR X (ci := 9) (k := 0) rfl (Nat.le_of_ble_eq_true rfl) h1 wd627 (fun _ _ _ => rfl) (e12 ▸ h13) dX9_base_16 (e12 ▸ ?_)
      refine s_iload_n X 2 dX9_base_19 rfl rfl ?_
      obtain ⟨r15, hc14, hf⟩ := pk_obd hf
      refine s_callV X (ci := 7) (k_X7_isSetOfNodes G hc14) rfl h13 wd718 wd719 wd720 wd721 wd127 cd_X7_isSetOfNodes ⟨Nat.le_of_ble_eq_true rfl, Nat.le_of_ble_eq_true rfl⟩ (Nat.le_of_ble_eq_true rfl) dX9_base_20 ?_
      have hs16 := pk_ite hf
      clear hf
      refine s_if_ne X (tgt := 28) dX9_base_23 rfl (fun c17 => ?_) (fun c17 => ?_)
      · have hf := hs16.2 c17
        refine s_aload_n X 0 dX9_base_28 rfl rfl ?_
        obtain ⟨o18, e19, hf⟩ := pk_bnd hf
        obtain ⟨h20, hf⟩ := pk_chk hf
        refine s_getR X (ci := 9) (k := 0) rfl (Nat.le_of_ble_eq_true rfl) h1 wd627 (fun _ _ _ => rfl) (e19 ▸ h20) dX9_base_29 (e19 ▸ ?_)
        refine s_iload_n X 1 dX9_base_32 rfl rfl ?_
        refine s_iload_n X 2 dX9_base_33 rfl rfl ?_
        obtain ⟨M22, hc21, hf⟩ := pk_obd hf
        refine s_callV X (ci := 7) (k_X7_tellByHand G hc21) rfl h20 wd722 wd723 wd724 wd725 wd127 cd_X7_tellByHand ⟨Nat.le_of_ble_eq_true rfl, Nat.le_of_ble_eq_true rfl⟩ (Nat.le_of_ble_eq_true rfl) dX9_base_34 ?_
        refine s_aload_n X 0 dX9_base_37 rfl rfl ?_
        obtain ⟨h23, hf⟩ := pk_chk hf
        obtain ⟨r25, M26, hc24, hf⟩ := pk_obd2 hf
        refine s_callV X (ci := 9) (k_X9_startAnew G hc24) rfl h23 wd582 wd584 wd1 wd585 wd126 cd_X9_startAnew ⟨Nat.le_of_ble_eq_true rfl, Nat.le_of_ble_eq_true rfl⟩ (Nat.le_of_ble_eq_true rfl) dX9_base_38 ?_
        refine s_pop X dX9_base_41 rfl ?_
        refine s_aload_n X 0 dX9_base_42 rfl rfl ?_
        obtain ⟨h27, hf⟩ := pk_chk hf
        obtain ⟨o28, e29, hf⟩ := pk_bnd hf
        obtain ⟨h30, hf⟩ := pk_chk hf
        refine s_getR X (ci := 9) (k := 0) rfl (Nat.le_of_ble_eq_true rfl) h27 wd627 (fun _ _ _ => rfl) (e29 ▸ h30) dX9_base_43 (e29 ▸ ?_)
        obtain ⟨r32, hc31, hf⟩ := pk_obd hf
        refine s_callV X (ci := 7) (k_X7_countApart G hc31) rfl h30 wd726 wd727 wd728 wd729 wd127 cd_X7_countApart ⟨Nat.le_of_ble_eq_true rfl, Nat.le_of_ble_eq_true rfl⟩ (Nat.le_of_ble_eq_true rfl) dX9_base_46 ?_
        cases hf
        exact s_iret X hr hlk dX9_base_49
      · have hf := hs16.1 c17
        refine s_iconst X (v := (-1 : Int32)) dX9_base_26 rfl ?_
        cases hf
        exact s_iret X hr hlk dX9_base_27
theorem dX10_apart_0 : decode cX10_apart 0 = .ok (.iconst 0, 1) := dk_3 (by decide +kernel)
theorem dX10_apart_1 : decode cX10_apart 1 = .ok (.istore_n 1, 1) := dk_60 (by decide +kernel)
theorem dX10_apart_2 : decode cX10_apart 2 = .ok (.iconst 0, 1) := dk_3 (by decide +kernel)
theorem dX10_apart_3 : decode cX10_apart 3 = .ok (.istore_n 2, 1) := dk_61 (by decide +kernel)
theorem dX10_apart_4 : decode cX10_apart 4 = .ok (.iload_n 2, 1) := dk_28 (by decide +kernel)
theorem dX10_apart_5 : decode cX10_apart 5 = .ok (.aload_n 0, 1) := dk_42 (by decide +kernel)
theorem dX10_apart_6 : decode cX10_apart 6 = .ok (.getfield 7, 3) := dk_180 (x := 0) (y := 7) (by decide +kernel) rfl
theorem dX10_apart_9 : decode cX10_apart 9 = .ok (.iconst 0, 1) := dk_3 (by decide +kernel)
theorem dX10_apart_10 : decode cX10_apart 10 = .ok (.iaload, 1) := dk_46 (by decide +kernel)
theorem dX10_apart_11 : decode cX10_apart 11 = .ok (.if_icmp .ge 44, 3) := dk_162 (x := 0) (y := 44) (by decide +kernel) rfl
theorem dX10_apart_14 : decode cX10_apart 14 = .ok (.iconst 0, 1) := dk_3 (by decide +kernel)
theorem dX10_apart_15 : decode cX10_apart 15 = .ok (.istore_n 3, 1) := dk_62 (by decide +kernel)
theorem dX10_apart_16 : decode cX10_apart 16 = .ok (.iload_n 3, 1) := dk_29 (by decide +kernel)
theorem dX10_apart_17 : decode cX10_apart 17 = .ok (.iload_n 2, 1) := dk_28 (by decide +kernel)
theorem dX10_apart_18 : decode cX10_apart 18 = .ok (.if_icmp .ge 31, 3) := dk_162 (x := 0) (y := 31) (by decide +kernel) rfl
theorem dX10_apart_21 : decode cX10_apart 21 = .ok (.iload_n 1, 1) := dk_27 (by decide +kernel)
theorem dX10_apart_22 : decode cX10_apart 22 = .ok (.aload_n 0, 1) := dk_42 (by decide +kernel)
theorem dX10_apart_23 : decode cX10_apart 23 = .ok (.iload_n 2, 1) := dk_28 (by decide +kernel)
theorem dX10_apart_24 : decode cX10_apart 24 = .ok (.invokevirtual 80, 3) := dk_182 (x := 0) (y := 80) (by decide +kernel) rfl
theorem dX10_apart_27 : decode cX10_apart 27 = .ok (.aload_n 0, 1) := dk_42 (by decide +kernel)
theorem dX10_apart_28 : decode cX10_apart 28 = .ok (.iload_n 3, 1) := dk_29 (by decide +kernel)
theorem dX10_apart_29 : decode cX10_apart 29 = .ok (.invokevirtual 80, 3) := dk_182 (x := 0) (y := 80) (by decide +kernel) rfl
theorem dX10_apart_32 : decode cX10_apart 32 = .ok (.iand, 1) := dk_126 (by decide +kernel)
theorem dX10_apart_33 : decode cX10_apart 33 = .ok (.ifCond .ne 7, 3) := dk_154 (x := 0) (y := 7) (by decide +kernel) rfl
theorem dX10_apart_36 : decode cX10_apart 36 = .ok (.iconst 1, 1) := dk_4 (by decide +kernel)
theorem dX10_apart_37 : decode cX10_apart 37 = .ok (.goto 4, 3) := dk_167 (x := 0) (y := 4) (by decide +kernel) rfl
theorem dX10_apart_40 : decode cX10_apart 40 = .ok (.iconst 0, 1) := dk_3 (by decide +kernel)
theorem dX10_apart_41 : decode cX10_apart 41 = .ok (.iadd, 1) := dk_96 (by decide +kernel)
theorem dX10_apart_42 : decode cX10_apart 42 = .ok (.istore_n 1, 1) := dk_60 (by decide +kernel)
theorem dX10_apart_43 : decode cX10_apart 43 = .ok (.iinc 3 1, 3) := dk_132 (x := 3) (y := 1) (by decide +kernel) rfl
theorem dX10_apart_46 : decode cX10_apart 46 = .ok (.goto (-30), 3) := dk_167 (x := 255) (y := 226) (by decide +kernel) rfl
theorem dX10_apart_49 : decode cX10_apart 49 = .ok (.iinc 2 1, 3) := dk_132 (x := 2) (y := 1) (by decide +kernel) rfl
theorem dX10_apart_52 : decode cX10_apart 52 = .ok (.goto (-48), 3) := dk_167 (x := 255) (y := 208) (by decide +kernel) rfl
theorem dX10_apart_55 : decode cX10_apart 55 = .ok (.iload_n 1, 1) := dk_27 (by decide +kernel)
theorem dX10_apart_56 : decode cX10_apart 56 = .ok (.ireturn, 1) := dk_172 (by decide +kernel)
def f_X10_apart_16 (k_4 : Nat → Int32 → Int32 → Option Int32) (M : Mem) : Nat → Nat → Int32 → Int32 → Int32 → Option Int32
  | 0, _, _, _, _ => none
  | n + 1, v0, v1, v2, v3 =>
    if v2 ≤ v3 then (
      bnd (v2 + (1 : Int32)) fun x3 =>
      k_4 v0 v1 x3
      ) else (
      chk (isO M 10 v0) <|
      obd (f_X10_baseOf v0 v2 M) fun r7 =>
      obd (f_X10_baseOf v0 v3 M) fun r9 =>
      if (r7 &&& r9) = 0 then (
        bnd (v1 + (1 : Int32)) fun x16 =>
        bnd (v3 + (1 : Int32)) fun x18 =>
        f_X10_apart_16 k_4 M n v0 x16 v2 x18
        ) else (
        bnd (v1 + (0 : Int32)) fun x12 =>
        bnd (v3 + (1 : Int32)) fun x14 =>
        f_X10_apart_16 k_4 M n v0 x12 v2 x14
        )
      )
def f_X10_apart_4 (M : Mem) : Nat → Nat → Int32 → Int32 → Option Int32
  | 0, _, _, _ => none
  | n + 1, v0, v1, v2 =>
    chk (isO M 10 v0) <|
    bnd (mR M v0 0) fun o2 =>
    chk (isO M 100 o2) <|
    chk (inB (0 : Int32) (mLn M o2)) <|
    if (mI M o2 ((0 : Int32)).toNatClampNeg) ≤ v2 then (
      some v1
      ) else (
      f_X10_apart_16 (f_X10_apart_4 M n) M n v0 v1 v2 (0 : Int32)
      )
def f_X10_apart (n : Nat) (o : Nat) (M : Mem) : Option Int32 :=
  f_X10_apart_4 M n o (0 : Int32) (0 : Int32)
theorem cd_X10_apart : (yX10_apart.cls ≠ "java/lang/invoke/MethodHandle" ∧ yX10_apart.cls ≠ "java/lang/invoke/VarHandle") ∧ (parseMethodDescriptor yX10_apart.desc).map (fun d => d.parameters.length) = some 0 := ⟨⟨by decide +kernel, by decide +kernel⟩, by decide +kernel⟩
section
variable {p : Program} {l : Launch} {e : Env} {R : Room} {s : State} {m : MethodId} {args : Array Value} {below : List Frame} {meth : Method} {c : Code} {G : Gam} {M0 : Mem}
theorem l_X10_apart_16 {k_4 : Nat → Int32 → Int32 → Option Int32} {M : Mem} {rv : Int32} (X : Cx p R s m args c G M0 cX10_apart yX10_apart.cls 4 1 21) (hr : meth.sig.returnType = (some .int)) (hlk : meth.locks = false) (hnm : meth.name = "apart") (hk_4 : ∀ (v0 : Nat), ∀ (v1 : Int32), ∀ (v2 : Int32), k_4 v0 v1 v2 = some rv → Sg p l e R s m args below meth c (Qm below G args s (some (.int rv)) M0 M) G M0 4 4 [(0, .ref (gB G + v0)), (1, .int v1), (2, .int v2)] [] M) : ∀ {n : Nat} (v0 : Nat) (v1 : Int32) (v2 : Int32) (v3 : Int32), f_X10_apart_16 k_4 M n v0 v1 v2 v3 = some rv → Sg p l e R s m args below meth c (Qm below G args s (some (.int rv)) M0 M) G M0 4 16 [(0, .ref (gB G + v0)), (1, .int v1), (2, .int v2), (3, .int v3)] [] M := by
  intro n
  induction n with
  | zero => intro v0 v1 v2 v3 hf; exact (pk_none hf).elim
  | succ n ih =>
    intro v0 v1 v2 v3 hf
    rw [f_X10_apart_16] at hf
    refine s_iload_n X 3 dX10_apart_16 rfl rfl ?_
    refine s_iload_n X 2 dX10_apart_17 rfl rfl ?_
    have hs1 := pk_ite hf
    clear hf
    refine s_icmp_ge X (tgt := 49) dX10_apart_18 rfl (fun c2 => ?_) (fun c2 => ?_)
    · have hf := hs1.1 c2
      obtain ⟨x3, e4, hf⟩ := pk_bnd hf
      refine s_iinc X (vs' := [(0, .ref (gB G + v0)), (1, .int v1), (2, .int x3), (3, .int v3)]) 2 dX10_apart_49 rfl (v := x3) e4.symm (Nat.le_of_ble_eq_true rfl) [1, 2, 0, 3] rfl ?_
      refine s_goto X (tgt := 4) dX10_apart_52 rfl ?_
      refine s_drop [0, 1, 2] (vs' := [(0, .ref (gB G + v0)), (1, .int v1), (2, .int x3)]) rfl ?_
      exact hk_4 _ _ _ hf
    · have hf := hs1.2 c2
      refine s_iload_n X 1 dX10_apart_21 rfl rfl ?_
      refine s_aload_n X 0 dX10_apart_22 rfl rfl ?_
      refine s_iload_n X 2 dX10_apart_23 rfl rfl ?_
      obtain ⟨h5, hf⟩ := pk_chk hf
      obtain ⟨r7, hc6, hf⟩ := pk_obd hf
      refine s_callV X (ci := 10) (k_X10_baseOf G hc6) rfl h5 wd1558 wd1560 wd54 wd1561 wd138 cd_X10_baseOf ⟨Nat.le_of_ble_eq_true rfl, Nat.le_of_ble_eq_true rfl⟩ (Nat.le_of_ble_eq_true rfl) dX10_apart_24 ?_
      refine s_aload_n X 0 dX10_apart_27 rfl rfl ?_
      refine s_iload_n X 3 dX10_apart_28 rfl rfl ?_
      obtain ⟨r9, hc8, hf⟩ := pk_obd hf
      refine s_callV X (ci := 10) (k_X10_baseOf G hc8) rfl h5 wd1558 wd1560 wd54 wd1561 wd138 cd_X10_baseOf ⟨Nat.le_of_ble_eq_true rfl, Nat.le_of_ble_eq_true rfl⟩ (Nat.le_of_ble_eq_true rfl) dX10_apart_29 ?_
      refine s_iand X dX10_apart_32 ?_
      have hs10 := pk_ite hf
      clear hf
      refine s_if_ne X (tgt := 40) dX10_apart_33 rfl (fun c11 => ?_) (fun c11 => ?_)
      · have hf := hs10.2 c11
        refine s_iconst X (v := (0 : Int32)) dX10_apart_40 rfl ?_
        refine s_iadd X dX10_apart_41 ?_
        obtain ⟨x12, e13, hf⟩ := pk_bnd hf
        refine s_nmI e13 ?_
        refine s_istore_n X (vs' := [(0, .ref (gB G + v0)), (1, .int x12), (2, .int v2), (3, .int v3)]) dX10_apart_42 rfl (Nat.le_of_ble_eq_true rfl) [1, 0, 2, 3] rfl ?_
        obtain ⟨x14, e15, hf⟩ := pk_bnd hf
        refine s_iinc X (vs' := [(0, .ref (gB G + v0)), (1, .int x12), (2, .int v2), (3, .int x14)]) 3 dX10_apart_43 rfl (v := x14) e15.symm (Nat.le_of_ble_eq_true rfl) [1, 2, 3, 0] rfl ?_
        refine s_goto X (tgt := 16) dX10_apart_46 rfl ?_
        exact ih _ _ _ _ hf
      · have hf := hs10.1 c11
        refine s_iconst X (v := (1 : Int32)) dX10_apart_36 rfl ?_
        refine s_goto X (tgt := 41) dX10_apart_37 rfl ?_
        refine s_iadd X dX10_apart_41 ?_
        obtain ⟨x16, e17, hf⟩ := pk_bnd hf
        refine s_nmI e17 ?_
        refine s_istore_n X (vs' := [(0, .ref (gB G + v0)), (1, .int x16), (2, .int v2), (3, .int v3)]) dX10_apart_42 rfl (Nat.le_of_ble_eq_true rfl) [1, 0, 2, 3] rfl ?_
        obtain ⟨x18, e19, hf⟩ := pk_bnd hf
        refine s_iinc X (vs' := [(0, .ref (gB G + v0)), (1, .int x16), (2, .int v2), (3, .int x18)]) 3 dX10_apart_43 rfl (v := x18) e19.symm (Nat.le_of_ble_eq_true rfl) [1, 2, 3, 0] rfl ?_
        refine s_goto X (tgt := 16) dX10_apart_46 rfl ?_
        exact ih _ _ _ _ hf
theorem l_X10_apart_4 {M : Mem} {rv : Int32} (X : Cx p R s m args c G M0 cX10_apart yX10_apart.cls 4 1 21) (hr : meth.sig.returnType = (some .int)) (hlk : meth.locks = false) (hnm : meth.name = "apart") : ∀ {n : Nat} (v0 : Nat) (v1 : Int32) (v2 : Int32), f_X10_apart_4 M n v0 v1 v2 = some rv → Sg p l e R s m args below meth c (Qm below G args s (some (.int rv)) M0 M) G M0 4 4 [(0, .ref (gB G + v0)), (1, .int v1), (2, .int v2)] [] M := by
  intro n
  induction n with
  | zero => intro v0 v1 v2 hf; exact (pk_none hf).elim
  | succ n ih =>
    intro v0 v1 v2 hf
    rw [f_X10_apart_4] at hf
    refine s_iload_n X 2 dX10_apart_4 rfl rfl ?_
    refine s_aload_n X 0 dX10_apart_5 rfl rfl ?_
    obtain ⟨h1, hf⟩ := pk_chk hf
    obtain ⟨o2, e3, hf⟩ := pk_bnd hf
    obtain ⟨h4, hf⟩ := pk_chk hf
    refine s_getR X (ci := 10) (k := 0) rfl (Nat.le_of_ble_eq_true rfl) h1 wd1440 (fun _ _ _ => rfl) (e3 ▸ h4) dX10_apart_6 (e3 ▸ ?_)
    refine s_iconst X (v := (0 : Int32)) dX10_apart_9 rfl ?_
    obtain ⟨h5, hf⟩ := pk_chk hf
    refine s_iald X h4 h5 dX10_apart_10 ?_
    have hs6 := pk_ite hf
    clear hf
    refine s_icmp_ge X (tgt := 55) dX10_apart_11 rfl (fun c7 => ?_) (fun c7 => ?_)
    · have hf := hs6.1 c7
      refine s_iload_n X 1 dX10_apart_55 rfl rfl ?_
      cases hf
      exact s_iret X hr hlk dX10_apart_56
    · have hf := hs6.2 c7
      refine s_iconst X (v := (0 : Int32)) dX10_apart_14 rfl ?_
      refine s_istore_n X (vs' := [(0, .ref (gB G + v0)), (1, .int v1), (2, .int v2), (3, .int (0 : Int32))]) dX10_apart_15 rfl (Nat.le_of_ble_eq_true rfl) [1, 2, 3, 0] rfl ?_
      exact l_X10_apart_16 X hr hlk hnm ih _ _ _ _ hf
end
theorem k_X10_apart (G : Gam) {n : Nat} {o : Nat} {M : Mem} {rv : Int32} (hf : f_X10_apart n o M = some rv) : Kt yX10_apart cX10_apart 4 (some .int) 1 21 G [.ref (gB G + o)] M M (some (.int rv)) := by
  refine Kt.of (by decide) (Nat.le_of_ble_eq_true rfl) ?_
  intro p l e R s m args below meth c X hr hlk hnm
  refine s_drop [0] (vs' := [(0, .ref (gB G + o))]) rfl ?_
  rw [f_X10_apart] at hf
  refine s_iconst X (v := (0 : Int32)) dX10_apart_0 rfl ?_
  refine s_istore_n X (vs' := [(0, .ref (gB G + o)), (1, .int (0 : Int32))]) dX10_apart_1 rfl (Nat.le_of_ble_eq_true rfl) [1, 0] rfl ?_
  refine s_iconst X (v := (0 : Int32)) dX10_apart_2 rfl ?_
  refine s_istore_n X (vs' := [(0, .ref (gB G + o)), (1, .int (0 : Int32)), (2, .int (0 : Int32))]) dX10_apart_3 rfl (Nat.le_of_ble_eq_true rfl) [1, 2, 0] rfl ?_
  exact l_X10_apart_4 X hr hlk hnm _ _ _ hf
theorem dX10_base_0 : decode cX10_base 0 = .ok (.aload_n 0, 1) := dk_42 (by decide +kernel)
theorem dX10_base_1 : decode cX10_base 1 = .ok (.iload_n 1, 1) := dk_27 (by decide +kernel)
theorem dX10_base_2 : decode cX10_base 2 = .ok (.invokevirtual 76, 3) := dk_182 (x := 0) (y := 76) (by decide +kernel) rfl
theorem dX10_base_5 : decode cX10_base 5 = .ok (.ifCond .eq 18, 3) := dk_153 (x := 0) (y := 18) (by decide +kernel) rfl
theorem dX10_base_8 : decode cX10_base 8 = .ok (.iload_n 2, 1) := dk_28 (by decide +kernel)
theorem dX10_base_9 : decode cX10_base 9 = .ok (.ifCond .eq 14, 3) := dk_153 (x := 0) (y := 14) (by decide +kernel) rfl
theorem dX10_base_12 : decode cX10_base 12 = .ok (.iload_n 2, 1) := dk_28 (by decide +kernel)
theorem dX10_base_13 : decode cX10_base 13 = .ok (.aload_n 0, 1) := dk_42 (by decide +kernel)
theorem dX10_base_14 : decode cX10_base 14 = .ok (.invokevirtual 72, 3) := dk_182 (x := 0) (y := 72) (by decide +kernel) rfl
theorem dX10_base_17 : decode cX10_base 17 = .ok (.iconst (-1), 1) := dk_2 (by decide +kernel)
theorem dX10_base_18 : decode cX10_base 18 = .ok (.ixor, 1) := dk_130 (by decide +kernel)
theorem dX10_base_19 : decode cX10_base 19 = .ok (.iand, 1) := dk_126 (by decide +kernel)
theorem dX10_base_20 : decode cX10_base 20 = .ok (.ifCond .eq 5, 3) := dk_153 (x := 0) (y := 5) (by decide +kernel) rfl
theorem dX10_base_23 : decode cX10_base 23 = .ok (.iconst (-1), 1) := dk_2 (by decide +kernel)
theorem dX10_base_24 : decode cX10_base 24 = .ok (.ireturn, 1) := dk_172 (by decide +kernel)
theorem dX10_base_25 : decode cX10_base 25 = .ok (.aload_n 0, 1) := dk_42 (by decide +kernel)
theorem dX10_base_26 : decode cX10_base 26 = .ok (.aload_n 0, 1) := dk_42 (by decide +kernel)
theorem dX10_base_27 : decode cX10_base 27 = .ok (.getfield 7, 3) := dk_180 (x := 0) (y := 7) (by decide +kernel) rfl
theorem dX10_base_30 : decode cX10_base 30 = .ok (.iconst 0, 1) := dk_3 (by decide +kernel)
theorem dX10_base_31 : decode cX10_base 31 = .ok (.iaload, 1) := dk_46 (by decide +kernel)
theorem dX10_base_32 : decode cX10_base 32 = .ok (.iconst 0, 1) := dk_3 (by decide +kernel)
theorem dX10_base_33 : decode cX10_base 33 = .ok (.invokevirtual 60, 3) := dk_182 (x := 0) (y := 60) (by decide +kernel) rfl
theorem dX10_base_36 : decode cX10_base 36 = .ok (.aload_n 0, 1) := dk_42 (by decide +kernel)
theorem dX10_base_37 : decode cX10_base 37 = .ok (.getfield 7, 3) := dk_180 (x := 0) (y := 7) (by decide +kernel) rfl
theorem dX10_base_40 : decode cX10_base 40 = .ok (.iconst 2, 1) := dk_5 (by decide +kernel)
theorem dX10_base_41 : decode cX10_base 41 = .ok (.iload_n 1, 1) := dk_27 (by decide +kernel)
theorem dX10_base_42 : decode cX10_base 42 = .ok (.iadd, 1) := dk_96 (by decide +kernel)
theorem dX10_base_43 : decode cX10_base 43 = .ok (.iload_n 2, 1) := dk_28 (by decide +kernel)
theorem dX10_base_44 : decode cX10_base 44 = .ok (.iastore, 1) := dk_79 (by decide +kernel)
theorem dX10_base_45 : decode cX10_base 45 = .ok (.aload_n 0, 1) := dk_42 (by decide +kernel)
theorem dX10_base_46 : decode cX10_base 46 = .ok (.invokevirtual 87, 3) := dk_182 (x := 0) (y := 87) (by decide +kernel) rfl
theorem dX10_base_49 : decode cX10_base 49 = .ok (.ireturn, 1) := dk_172 (by decide +kernel)
def f_X10_base (n : Nat) (o : Nat) (a1 : Int32) (a2 : Int32) (M : Mem) : Option (Int32 × Mem) :=
  chk (isO M 10 o) <|
  obd (f_X10_isNode o a1 M) fun r3 =>
  if r3 = 0 then (
    some ((-1 : Int32), M)
    ) else (
    if a2 = 0 then (
      some ((-1 : Int32), M)
      ) else (
      obd (f_X10_all o M) fun r9 =>
      if (a2 &&& (r9 ^^^ (-1 : Int32))) = 0 then (
        bnd (mR M o 0) fun o12 =>
        chk (isO M 100 o12) <|
        chk (inB (0 : Int32) (mLn M o12)) <|
        obd (f_X10_begin n o (mI M o12 ((0 : Int32)).toNatClampNeg) (0 : Int32) M) fun M17 =>
        chk (isO M17 10 o) <|
        bnd (mR M17 o 0) fun o19 =>
        chk (isO M17 100 o19) <|
        chk (inB ((2 : Int32) + a1) (mLn M17 o19)) <|
        bnd (sI M17 o19 (((2 : Int32) + a1)).toNatClampNeg a2) fun M23 =>
        obd (f_X10_apart n o M23) fun r28 =>
        some (r28, M23)
        ) else (
        some ((-1 : Int32), M)
        )
      )
    )
theorem cd_X10_base : (yX10_base.cls ≠ "java/lang/invoke/MethodHandle" ∧ yX10_base.cls ≠ "java/lang/invoke/VarHandle") ∧ (parseMethodDescriptor yX10_base.desc).map (fun d => d.parameters.length) = some 2 := ⟨⟨by decide +kernel, by decide +kernel⟩, by decide +kernel⟩
theorem k_X10_base (G : Gam) {n : Nat} {o : Nat} {a1 : Int32} {a2 : Int32} {M : Mem} {rv : (Int32 × Mem)} (hf : f_X10_base n o a1 a2 M = some rv) : Kt yX10_base cX10_base 3 (some .int) 2 46 G [.ref (gB G + o), .int a1, .int a2] M rv.2 (some (.int rv.1)) := by
  refine Kt.of (by decide) (Nat.le_of_ble_eq_true rfl) ?_
  intro p l e R s m args below meth c X hr hlk hnm
  refine s_drop [0, 1, 2] (vs' := [(0, .ref (gB G + o)), (1, .int a1), (2, .int a2)]) rfl ?_
  rw [f_X10_base] at hf
  refine s_aload_n X 0 dX10_base_0 rfl rfl ?_
  refine s_iload_n X 1 dX10_base_1 rfl rfl ?_
  obtain ⟨h1, hf⟩ := pk_chk hf
  obtain ⟨r3, hc2, hf⟩ := pk_obd hf
  refine s_callV X (ci := 10) (k_X10_isNode G hc2) rfl h1 wd1554 wd1556 wd53 wd1557 wd138 cd_X10_isNode ⟨Nat.le_of_ble_eq_true rfl, Nat.le_of_ble_eq_true rfl⟩ (Nat.le_of_ble_eq_true rfl) dX10_base_2 ?_
  have hs4 := pk_ite hf
  clear hf
  refine s_if_eq X (tgt := 23) dX10_base_5 rfl (fun c5 => ?_) (fun c5 => ?_)
  · have hf := hs4.1 c5
    refine s_iconst X (v := (-1 : Int32)) dX10_base_23 rfl ?_
    cases hf
    exact s_iret X hr hlk dX10_base_24
  · have hf := hs4.2 c5
    refine s_iload_n X 2 dX10_base_8 rfl rfl ?_
    have hs6 := pk_ite hf
    clear hf
    refine s_if_eq X (tgt := 23) dX10_base_9 rfl (fun c7 => ?_) (fun c7 => ?_)
    · have hf := hs6.1 c7
      refine s_iconst X (v := (-1 : Int32)) dX10_base_23 rfl ?_
      cases hf
      exact s_iret X hr hlk dX10_base_24
    · have hf := hs6.2 c7
      refine s_iload_n X 2 dX10_base_12 rfl rfl ?_
      refine s_aload_n X 0 dX10_base_13 rfl rfl ?_
      obtain ⟨r9, hc8, hf⟩ := pk_obd hf
      refine s_callV X (ci := 10) (k_X10_all G hc8) rfl h1 wd1542 wd1544 wd52 wd1545 wd138 cd_X10_all ⟨Nat.le_of_ble_eq_true rfl, Nat.le_of_ble_eq_true rfl⟩ (Nat.le_of_ble_eq_true rfl) dX10_base_14 ?_
      refine s_iconst X (v := (-1 : Int32)) dX10_base_17 rfl ?_
      refine s_ixor X dX10_base_18 ?_
      refine s_iand X dX10_base_19 ?_
      have hs10 := pk_ite hf
      clear hf
      refine s_if_eq X (tgt := 25) dX10_base_20 rfl (fun c11 => ?_) (fun c11 => ?_)
      · have hf := hs10.1 c11
        refine s_aload_n X 0 dX10_base_25 rfl rfl ?_
        refine s_aload_n X 0 dX10_base_26 rfl rfl ?_
        obtain ⟨o12, e13, hf⟩ := pk_bnd hf
        obtain ⟨h14, hf⟩ := pk_chk hf
        refine s_getR X (ci := 10) (k := 0) rfl (Nat.le_of_ble_eq_true rfl) h1 wd1440 (fun _ _ _ => rfl) (e13 ▸ h14) dX10_base_27 (e13 ▸ ?_)
        refine s_iconst X (v := (0 : Int32)) dX10_base_30 rfl ?_
        obtain ⟨h15, hf⟩ := pk_chk hf
        refine s_iald X h14 h15 dX10_base_31 ?_
        refine s_iconst X (v := (0 : Int32)) dX10_base_32 rfl ?_
        obtain ⟨M17, hc16, hf⟩ := pk_obd hf
        refine s_callV X (ci := 10) (k_X10_begin G hc16) rfl h1 wd1429 wd1431 wd50 wd1432 wd138 cd_X10_begin ⟨Nat.le_of_ble_eq_true rfl, Nat.le_of_ble_eq_true rfl⟩ (Nat.le_of_ble_eq_true rfl) dX10_base_33 ?_
        refine s_aload_n X 0 dX10_base_36 rfl rfl ?_
        obtain ⟨h18, hf⟩ := pk_chk hf
        obtain ⟨o19, e20, hf⟩ := pk_bnd hf
        obtain ⟨h21, hf⟩ := pk_chk hf
        refine s_getR X (ci := 10) (k := 0) rfl (Nat.le_of_ble_eq_true rfl) h18 wd1440 (fun _ _ _ => rfl) (e20 ▸ h21) dX10_base_37 (e20 ▸ ?_)
        refine s_iconst X (v := (2 : Int32)) dX10_base_40 rfl ?_
        refine s_iload_n X 1 dX10_base_41 rfl rfl ?_
        refine s_iadd X dX10_base_42 ?_
        refine s_iload_n X 2 dX10_base_43 rfl rfl ?_
        obtain ⟨h22, hf⟩ := pk_chk hf
        obtain ⟨M23, e24, hf⟩ := pk_bnd hf
        refine s_iast X h21 h22 e24 dX10_base_44 ?_
        have h25 := io_sI e24 h18
        have h26 := io_sI e24 h21
        refine s_aload_n X 0 dX10_base_45 rfl rfl ?_
        obtain ⟨r28, hc27, hf⟩ := pk_obd hf
        refine s_callV X (ci := 10) (k_X10_apart G hc27) rfl h25 wd1572 wd1573 wd1574 wd1575 wd138 cd_X10_apart ⟨Nat.le_of_ble_eq_true rfl, Nat.le_of_ble_eq_true rfl⟩ (Nat.le_of_ble_eq_true rfl) dX10_base_46 ?_
        cases hf
        exact s_iret X hr hlk dX10_base_49
      · have hf := hs10.2 c11
        refine s_iconst X (v := (-1 : Int32)) dX10_base_23 rfl ?_
        cases hf
        exact s_iret X hr hlk dX10_base_24
theorem dX9_quorum_0 : decode cX9_quorum 0 = .ok (.aload_n 0, 1) := dk_42 (by decide +kernel)
theorem dX9_quorum_1 : decode cX9_quorum 1 = .ok (.getfield 10, 3) := dk_180 (x := 0) (y := 10) (by decide +kernel) rfl
theorem dX9_quorum_4 : decode cX9_quorum 4 = .ok (.iload_n 1, 1) := dk_27 (by decide +kernel)
theorem dX9_quorum_5 : decode cX9_quorum 5 = .ok (.invokevirtual 71, 3) := dk_182 (x := 0) (y := 71) (by decide +kernel) rfl
theorem dX9_quorum_8 : decode cX9_quorum 8 = .ok (.ifCond .ne 5, 3) := dk_154 (x := 0) (y := 5) (by decide +kernel) rfl
theorem dX9_quorum_11 : decode cX9_quorum 11 = .ok (.iconst (-1), 1) := dk_2 (by decide +kernel)
theorem dX9_quorum_12 : decode cX9_quorum 12 = .ok (.ireturn, 1) := dk_172 (by decide +kernel)
theorem dX9_quorum_13 : decode cX9_quorum 13 = .ok (.iload_n 2, 1) := dk_28 (by decide +kernel)
theorem dX9_quorum_14 : decode cX9_quorum 14 = .ok (.tableswitch 59 0 2 #[26, 36, 46], 26) := by decide +kernel
theorem dX9_quorum_40 : decode cX9_quorum 40 = .ok (.aload_n 0, 1) := dk_42 (by decide +kernel)
theorem dX9_quorum_41 : decode cX9_quorum 41 = .ok (.getfield 10, 3) := dk_180 (x := 0) (y := 10) (by decide +kernel) rfl
theorem dX9_quorum_44 : decode cX9_quorum 44 = .ok (.getfield 92, 3) := dk_180 (x := 0) (y := 92) (by decide +kernel) rfl
theorem dX9_quorum_47 : decode cX9_quorum 47 = .ok (.iload_n 1, 1) := dk_27 (by decide +kernel)
theorem dX9_quorum_48 : decode cX9_quorum 48 = .ok (.iaload, 1) := dk_46 (by decide +kernel)
theorem dX9_quorum_49 : decode cX9_quorum 49 = .ok (.ireturn, 1) := dk_172 (by decide +kernel)
theorem dX9_quorum_50 : decode cX9_quorum 50 = .ok (.aload_n 0, 1) := dk_42 (by decide +kernel)
theorem dX9_quorum_51 : decode cX9_quorum 51 = .ok (.getfield 28, 3) := dk_180 (x := 0) (y := 28) (by decide +kernel) rfl
theorem dX9_quorum_54 : decode cX9_quorum 54 = .ok (.getfield 96, 3) := dk_180 (x := 0) (y := 96) (by decide +kernel) rfl
theorem dX9_quorum_57 : decode cX9_quorum 57 = .ok (.iload_n 1, 1) := dk_27 (by decide +kernel)
theorem dX9_quorum_58 : decode cX9_quorum 58 = .ok (.iaload, 1) := dk_46 (by decide +kernel)
theorem dX9_quorum_59 : decode cX9_quorum 59 = .ok (.ireturn, 1) := dk_172 (by decide +kernel)
theorem dX9_quorum_60 : decode cX9_quorum 60 = .ok (.aload_n 0, 1) := dk_42 (by decide +kernel)
theorem dX9_quorum_61 : decode cX9_quorum 61 = .ok (.getfield 28, 3) := dk_180 (x := 0) (y := 28) (by decide +kernel) rfl
theorem dX9_quorum_64 : decode cX9_quorum 64 = .ok (.getfield 99, 3) := dk_180 (x := 0) (y := 99) (by decide +kernel) rfl
theorem dX9_quorum_67 : decode cX9_quorum 67 = .ok (.iload_n 1, 1) := dk_27 (by decide +kernel)
theorem dX9_quorum_68 : decode cX9_quorum 68 = .ok (.aaload, 1) := dk_50 (by decide +kernel)
theorem dX9_quorum_69 : decode cX9_quorum 69 = .ok (.getfield 103, 3) := dk_180 (x := 0) (y := 103) (by decide +kernel) rfl
theorem dX9_quorum_72 : decode cX9_quorum 72 = .ok (.ireturn, 1) := dk_172 (by decide +kernel)
theorem dX9_quorum_73 : decode cX9_quorum 73 = .ok (.iconst (-1), 1) := dk_2 (by decide +kernel)
theorem dX9_quorum_74 : decode cX9_quorum 74 = .ok (.ireturn, 1) := dk_172 (by decide +kernel)
def f_X9_quorum (o : Nat) (a1 : Int32) (a2 : Int32) (M : Mem) : Option Int32 :=
  chk (isO M 9 o) <|
  bnd (mR M o 0) fun o2 =>
  chk (isO M 7 o2) <|
  obd (f_X7_isNode o2 a1 M) fun r6 =>
  if r6 = 0 then (
    some (-1 : Int32)
    ) else (
    if a2 = (0 : Int32) then (
      bnd (mR M o 0) fun o11 =>
      chk (isO M 7 o11) <|
      bnd (mR M o11 0) fun o14 =>
      chk (isO M 100 o14) <|
      chk (inB a1 (mLn M o14)) <|
      some (mI M o14 (a1).toNatClampNeg)
      ) else (
    if a2 = (1 : Int32) then (
      bnd (mR M o 2) fun o20 =>
      chk (isO M 2 o20) <|
      bnd (mR M o20 5) fun o23 =>
      chk (isO M 100 o23) <|
      chk (inB a1 (mLn M o23)) <|
      some (mI M o23 (a1).toNatClampNeg)
      ) else (
    if a2 = (2 : Int32) then (
      bnd (mR M o 2) fun o29 =>
      chk (isO M 2 o29) <|
      bnd (mR M o29 2) fun o32 =>
      chk (isO M 102 o32) <|
      chk (inB a1 (mLn M o32)) <|
      bnd (mR M o32 (a1).toNatClampNeg) fun o36 =>
      chk (isO M 4 o36) <|
      some (mI M o36 2)
      ) else (
    some (-1 : Int32)
    )
    )
    )
    )
theorem cd_X9_quorum : (yX9_quorum.cls ≠ "java/lang/invoke/MethodHandle" ∧ yX9_quorum.cls ≠ "java/lang/invoke/VarHandle") ∧ (parseMethodDescriptor yX9_quorum.desc).map (fun d => d.parameters.length) = some 2 := ⟨⟨by decide +kernel, by decide +kernel⟩, by decide +kernel⟩
theorem k_X9_quorum (G : Gam) {o : Nat} {a1 : Int32} {a2 : Int32} {M : Mem} {rv : Int32} (hf : f_X9_quorum o a1 a2 M = some rv) : Kt yX9_quorum cX9_quorum 3 (some .int) 1 21 G [.ref (gB G + o), .int a1, .int a2] M M (some (.int rv)) := by
  refine Kt.of (by decide) (Nat.le_of_ble_eq_true rfl) ?_
  intro p l e R s m args below meth c X hr hlk hnm
  refine s_drop [0, 1, 2] (vs' := [(0, .ref (gB G + o)), (1, .int a1), (2, .int a2)]) rfl ?_
  rw [f_X9_quorum] at hf
  refine s_aload_n X 0 dX9_quorum_0 rfl rfl ?_
  obtain ⟨h1, hf⟩ := pk_chk hf
  obtain ⟨o2, e3, hf⟩ := pk_bnd hf
  obtain ⟨h4, hf⟩ := pk_chk hf
  refine s_getR X (ci := 9) (k := 0) rfl (Nat.le_of_ble_eq_true rfl) h1 wd627 (fun _ _ _ => rfl) (e3 ▸ h4) dX9_quorum_1 (e3 ▸ ?_)
  refine s_iload_n X 1 dX9_quorum_4 rfl rfl ?_
  obtain ⟨r6, hc5, hf⟩ := pk_obd hf
  refine s_callV X (ci := 7) (k_X7_isNode G hc5) rfl h4 wd699 wd700 wd701 wd702 wd127 cd_X7_isNode ⟨Nat.le_of_ble_eq_true rfl, Nat.le_of_ble_eq_true rfl⟩ (Nat.le_of_ble_eq_true rfl) dX9_quorum_5 ?_
  have hs7 := pk_ite hf
  clear hf
  refine s_if_ne X (tgt := 13) dX9_quorum_8 rfl (fun c8 => ?_) (fun c8 => ?_)
  · have hf := hs7.2 c8
    refine s_iload_n X 2 dX9_quorum_13 rfl rfl ?_
    have hs9 := pk_ite hf
    clear hf
    by_cases c10 : a2 = (0 : Int32)
    · have hf := hs9.1 c10
      refine s_swC X (v := (0 : Int32)) (tgt := 40) dX9_quorum_14 c10 (by decide) (by decide) rfl rfl ?_
      refine s_aload_n X 0 dX9_quorum_40 rfl rfl ?_
      obtain ⟨o11, e12, hf⟩ := pk_bnd hf
      obtain ⟨h13, hf⟩ := pk_chk hf
      refine s_getR X (ci := 9) (k := 0) rfl (Nat.le_of_ble_eq_true rfl) h1 wd627 (fun _ _ _ => rfl) (e12 ▸ h13) dX9_quorum_41 (e12 ▸ ?_)
      obtain ⟨o14, e15, hf⟩ := pk_bnd hf
      obtain ⟨h16, hf⟩ := pk_chk hf
      refine s_getR X (ci := 7) (k := 0) rfl (Nat.le_of_ble_eq_true rfl) h13 wd162 (fun _ _ _ => rfl) (e15 ▸ h16) dX9_quorum_44 (e15 ▸ ?_)
      refine s_iload_n X 1 dX9_quorum_47 rfl rfl ?_
      obtain ⟨h17, hf⟩ := pk_chk hf
      refine s_iald X h16 h17 dX9_quorum_48 ?_
      cases hf
      exact s_iret X hr hlk dX9_quorum_49
    have hf := hs9.2 c10
    have hs18 := pk_ite hf
    clear hf
    by_cases c19 : a2 = (1 : Int32)
    · have hf := hs18.1 c19
      refine s_swC X (v := (1 : Int32)) (tgt := 50) dX9_quorum_14 c19 (by decide) (by decide) rfl rfl ?_
      refine s_aload_n X 0 dX9_quorum_50 rfl rfl ?_
      obtain ⟨o20, e21, hf⟩ := pk_bnd hf
      obtain ⟨h22, hf⟩ := pk_chk hf
      refine s_getR X (ci := 9) (k := 2) rfl (Nat.le_of_ble_eq_true rfl) h1 wd629 (fun _ _ _ => rfl) (e21 ▸ h22) dX9_quorum_51 (e21 ▸ ?_)
      obtain ⟨o23, e24, hf⟩ := pk_bnd hf
      obtain ⟨h25, hf⟩ := pk_chk hf
      refine s_getR X (ci := 2) (k := 5) rfl (Nat.le_of_ble_eq_true rfl) h22 wd432 (fun _ _ _ => rfl) (e24 ▸ h25) dX9_quorum_54 (e24 ▸ ?_)
      refine s_iload_n X 1 dX9_quorum_57 rfl rfl ?_
      obtain ⟨h26, hf⟩ := pk_chk hf
      refine s_iald X h25 h26 dX9_quorum_58 ?_
      cases hf
      exact s_iret X hr hlk dX9_quorum_59
    have hf := hs18.2 c19
    have hs27 := pk_ite hf
    clear hf
    by_cases c28 : a2 = (2 : Int32)
    · have hf := hs27.1 c28
      refine s_swC X (v := (2 : Int32)) (tgt := 60) dX9_quorum_14 c28 (by decide) (by decide) rfl rfl ?_
      refine s_aload_n X 0 dX9_quorum_60 rfl rfl ?_
      obtain ⟨o29, e30, hf⟩ := pk_bnd hf
      obtain ⟨h31, hf⟩ := pk_chk hf
      refine s_getR X (ci := 9) (k := 2) rfl (Nat.le_of_ble_eq_true rfl) h1 wd629 (fun _ _ _ => rfl) (e30 ▸ h31) dX9_quorum_61 (e30 ▸ ?_)
      obtain ⟨o32, e33, hf⟩ := pk_bnd hf
      obtain ⟨h34, hf⟩ := pk_chk hf
      refine s_getR X (ci := 2) (k := 2) rfl (Nat.le_of_ble_eq_true rfl) h31 wd426 (fun _ _ _ => rfl) (e33 ▸ h34) dX9_quorum_64 (e33 ▸ ?_)
      refine s_iload_n X 1 dX9_quorum_67 rfl rfl ?_
      obtain ⟨h35, hf⟩ := pk_chk hf
      obtain ⟨o36, e37, hf⟩ := pk_bnd hf
      obtain ⟨h38, hf⟩ := pk_chk hf
      refine s_aald X h34 h35 (e37 ▸ h38) dX9_quorum_68 (e37 ▸ ?_)
      refine s_getI X (ci := 4) (k := 2) rfl (Nat.le_of_ble_eq_true rfl) h38 wd335 (fun _ _ _ => rfl) dX9_quorum_69 ?_
      cases hf
      exact s_iret X hr hlk dX9_quorum_72
    have hf := hs27.2 c28
    refine s_swOut X (tgt := 73) dX9_quorum_14 (by have := sw_ne (v := (0 : Int32)) (z := 0) c10 (by decide); have := sw_ne (v := (1 : Int32)) (z := 1) c19 (by decide); have := sw_ne (v := (2 : Int32)) (z := 2) c28 (by decide); omega) rfl ?_
    refine s_iconst X (v := (-1 : Int32)) dX9_quorum_73 rfl ?_
    cases hf
    exact s_iret X hr hlk dX9_quorum_74
  · have hf := hs7.1 c8
    refine s_iconst X (v := (-1 : Int32)) dX9_quorum_11 rfl ?_
    cases hf
    exact s_iret X hr hlk dX9_quorum_12
theorem dX10_get_0 : decode cX10_get 0 = .ok (.aload_n 0, 1) := dk_42 (by decide +kernel)
theorem dX10_get_1 : decode cX10_get 1 = .ok (.getfield 7, 3) := dk_180 (x := 0) (y := 7) (by decide +kernel) rfl
theorem dX10_get_4 : decode cX10_get 4 = .ok (.bipush 18, 2) := dk_16 (x := 18) (by decide +kernel) rfl
theorem dX10_get_6 : decode cX10_get 6 = .ok (.bipush 8, 2) := dk_16 (x := 8) (by decide +kernel) rfl
theorem dX10_get_8 : decode cX10_get 8 = .ok (.iload_n 1, 1) := dk_27 (by decide +kernel)
theorem dX10_get_9 : decode cX10_get 9 = .ok (.imul, 1) := dk_104 (by decide +kernel)
theorem dX10_get_10 : decode cX10_get 10 = .ok (.iadd, 1) := dk_96 (by decide +kernel)
theorem dX10_get_11 : decode cX10_get 11 = .ok (.iload_n 2, 1) := dk_28 (by decide +kernel)
theorem dX10_get_12 : decode cX10_get 12 = .ok (.iadd, 1) := dk_96 (by decide +kernel)
theorem dX10_get_13 : decode cX10_get 13 = .ok (.iaload, 1) := dk_46 (by decide +kernel)
theorem dX10_get_14 : decode cX10_get 14 = .ok (.ireturn, 1) := dk_172 (by decide +kernel)
def f_X10_get (o : Nat) (a1 : Int32) (a2 : Int32) (M : Mem) : Option Int32 :=
  chk (isO M 10 o) <|
  bnd (mR M o 0) fun o2 =>
  chk (isO M 100 o2) <|
  chk (inB (((18 : Int32) + ((8 : Int32) * a1)) + a2) (mLn M o2)) <|
  some (mI M o2 ((((18 : Int32) + ((8 : Int32) * a1)) + a2)).toNatClampNeg)
theorem cd_X10_get : (yX10_get.cls ≠ "java/lang/invoke/MethodHandle" ∧ yX10_get.cls ≠ "java/lang/invoke/VarHandle") ∧ (parseMethodDescriptor yX10_get.desc).map (fun d => d.parameters.length) = some 2 := ⟨⟨by decide +kernel, by decide +kernel⟩, by decide +kernel⟩
theorem k_X10_get (G : Gam) {o : Nat} {a1 : Int32} {a2 : Int32} {M : Mem} {rv : Int32} (hf : f_X10_get o a1 a2 M = some rv) : Kt yX10_get cX10_get 3 (some .int) 0 0 G [.ref (gB G + o), .int a1, .int a2] M M (some (.int rv)) := by
  refine Kt.of (by decide) (Nat.le_of_ble_eq_true rfl) ?_
  intro p l e R s m args below meth c X hr hlk hnm
  refine s_drop [0, 1, 2] (vs' := [(0, .ref (gB G + o)), (1, .int a1), (2, .int a2)]) rfl ?_
  rw [f_X10_get] at hf
  refine s_aload_n X 0 dX10_get_0 rfl rfl ?_
  obtain ⟨h1, hf⟩ := pk_chk hf
  obtain ⟨o2, e3, hf⟩ := pk_bnd hf
  obtain ⟨h4, hf⟩ := pk_chk hf
  refine s_getR X (ci := 10) (k := 0) rfl (Nat.le_of_ble_eq_true rfl) h1 wd1440 (fun _ _ _ => rfl) (e3 ▸ h4) dX10_get_1 (e3 ▸ ?_)
  refine s_bipush X (v := (18 : Int32)) dX10_get_4 rfl ?_
  refine s_bipush X (v := (8 : Int32)) dX10_get_6 rfl ?_
  refine s_iload_n X 1 dX10_get_8 rfl rfl ?_
  refine s_imul X dX10_get_9 ?_
  refine s_iadd X dX10_get_10 ?_
  refine s_iload_n X 2 dX10_get_11 rfl rfl ?_
  refine s_iadd X dX10_get_12 ?_
  obtain ⟨h5, hf⟩ := pk_chk hf
  refine s_iald X h4 h5 dX10_get_13 ?_
  cases hf
  exact s_iret X hr hlk dX10_get_14
theorem dX10_brokenOnes_0 : decode cX10_brokenOnes 0 = .ok (.iconst 0, 1) := dk_3 (by decide +kernel)
theorem dX10_brokenOnes_1 : decode cX10_brokenOnes 1 = .ok (.istore_n 1, 1) := dk_60 (by decide +kernel)
theorem dX10_brokenOnes_2 : decode cX10_brokenOnes 2 = .ok (.iconst 0, 1) := dk_3 (by decide +kernel)
theorem dX10_brokenOnes_3 : decode cX10_brokenOnes 3 = .ok (.istore_n 2, 1) := dk_61 (by decide +kernel)
theorem dX10_brokenOnes_4 : decode cX10_brokenOnes 4 = .ok (.iload_n 2, 1) := dk_28 (by decide +kernel)
theorem dX10_brokenOnes_5 : decode cX10_brokenOnes 5 = .ok (.aload_n 0, 1) := dk_42 (by decide +kernel)
theorem dX10_brokenOnes_6 : decode cX10_brokenOnes 6 = .ok (.getfield 7, 3) := dk_180 (x := 0) (y := 7) (by decide +kernel) rfl
theorem dX10_brokenOnes_9 : decode cX10_brokenOnes 9 = .ok (.iconst 0, 1) := dk_3 (by decide +kernel)
theorem dX10_brokenOnes_10 : decode cX10_brokenOnes 10 = .ok (.iaload, 1) := dk_46 (by decide +kernel)
theorem dX10_brokenOnes_11 : decode cX10_brokenOnes 11 = .ok (.if_icmp .ge 21, 3) := dk_162 (x := 0) (y := 21) (by decide +kernel) rfl
theorem dX10_brokenOnes_14 : decode cX10_brokenOnes 14 = .ok (.iload_n 1, 1) := dk_27 (by decide +kernel)
theorem dX10_brokenOnes_15 : decode cX10_brokenOnes 15 = .ok (.aload_n 0, 1) := dk_42 (by decide +kernel)
theorem dX10_brokenOnes_16 : decode cX10_brokenOnes 16 = .ok (.iload_n 2, 1) := dk_28 (by decide +kernel)
theorem dX10_brokenOnes_17 : decode cX10_brokenOnes 17 = .ok (.bipush 7, 2) := dk_16 (x := 7) (by decide +kernel) rfl
theorem dX10_brokenOnes_19 : decode cX10_brokenOnes 19 = .ok (.invokevirtual 93, 3) := dk_182 (x := 0) (y := 93) (by decide +kernel) rfl
theorem dX10_brokenOnes_22 : decode cX10_brokenOnes 22 = .ok (.iload_n 2, 1) := dk_28 (by decide +kernel)
theorem dX10_brokenOnes_23 : decode cX10_brokenOnes 23 = .ok (.ishl, 1) := dk_120 (by decide +kernel)
theorem dX10_brokenOnes_24 : decode cX10_brokenOnes 24 = .ok (.ior, 1) := dk_128 (by decide +kernel)
theorem dX10_brokenOnes_25 : decode cX10_brokenOnes 25 = .ok (.istore_n 1, 1) := dk_60 (by decide +kernel)
theorem dX10_brokenOnes_26 : decode cX10_brokenOnes 26 = .ok (.iinc 2 1, 3) := dk_132 (x := 2) (y := 1) (by decide +kernel) rfl
theorem dX10_brokenOnes_29 : decode cX10_brokenOnes 29 = .ok (.goto (-25), 3) := dk_167 (x := 255) (y := 231) (by decide +kernel) rfl
theorem dX10_brokenOnes_32 : decode cX10_brokenOnes 32 = .ok (.iload_n 1, 1) := dk_27 (by decide +kernel)
theorem dX10_brokenOnes_33 : decode cX10_brokenOnes 33 = .ok (.ireturn, 1) := dk_172 (by decide +kernel)
def f_X10_brokenOnes_4 (M : Mem) : Nat → Nat → Int32 → Int32 → Option Int32
  | 0, _, _, _ => none
  | n + 1, v0, v1, v2 =>
    chk (isO M 10 v0) <|
    bnd (mR M v0 0) fun o2 =>
    chk (isO M 100 o2) <|
    chk (inB (0 : Int32) (mLn M o2)) <|
    if (mI M o2 ((0 : Int32)).toNatClampNeg) ≤ v2 then (
      some v1
      ) else (
      obd (f_X10_get v0 v2 (7 : Int32) M) fun r9 =>
      bnd (v1 ||| (r9 <<< (v2 &&& 31))) fun x10 =>
      bnd (v2 + (1 : Int32)) fun x12 =>
      f_X10_brokenOnes_4 M n v0 x10 x12
      )
def f_X10_brokenOnes (n : Nat) (o : Nat) (M : Mem) : Option Int32 :=
  f_X10_brokenOnes_4 M n o (0 : Int32) (0 : Int32)
theorem cd_X10_brokenOnes : (yX10_brokenOnes.cls ≠ "java/lang/invoke/MethodHandle" ∧ yX10_brokenOnes.cls ≠ "java/lang/invoke/VarHandle") ∧ (parseMethodDescriptor yX10_brokenOnes.desc).map (fun d => d.parameters.length) = some 0 := ⟨⟨by decide +kernel, by decide +kernel⟩, by decide +kernel⟩
section
variable {p : Program} {l : Launch} {e : Env} {R : Room} {s : State} {m : MethodId} {args : Array Value} {below : List Frame} {meth : Method} {c : Code} {G : Gam} {M0 : Mem}
theorem l_X10_brokenOnes_4 {M : Mem} {rv : Int32} (X : Cx p R s m args c G M0 cX10_brokenOnes yX10_brokenOnes.cls 3 1 22) (hr : meth.sig.returnType = (some .int)) (hlk : meth.locks = false) (hnm : meth.name = "brokenOnes") : ∀ {n : Nat} (v0 : Nat) (v1 : Int32) (v2 : Int32), f_X10_brokenOnes_4 M n v0 v1 v2 = some rv → Sg p l e R s m args below meth c (Qm below G args s (some (.int rv)) M0 M) G M0 3 4 [(0, .ref (gB G + v0)), (1, .int v1), (2, .int v2)] [] M := by
  intro n
  induction n with
  | zero => intro v0 v1 v2 hf; exact (pk_none hf).elim
  | succ n ih =>
    intro v0 v1 v2 hf
    rw [f_X10_brokenOnes_4] at hf
    refine s_iload_n X 2 dX10_brokenOnes_4 rfl rfl ?_
    refine s_aload_n X 0 dX10_brokenOnes_5 rfl rfl ?_
    obtain ⟨h1, hf⟩ := pk_chk hf
    obtain ⟨o2, e3, hf⟩ := pk_bnd hf
    obtain ⟨h4, hf⟩ := pk_chk hf
    refine s_getR X (ci := 10) (k := 0) rfl (Nat.le_of_ble_eq_true rfl) h1 wd1440 (fun _ _ _ => rfl) (e3 ▸ h4) dX10_brokenOnes_6 (e3 ▸ ?_)
    refine s_iconst X (v := (0 : Int32)) dX10_brokenOnes_9 rfl ?_
    obtain ⟨h5, hf⟩ := pk_chk hf
    refine s_iald X h4 h5 dX10_brokenOnes_10 ?_
    have hs6 := pk_ite hf
    clear hf
    refine s_icmp_ge X (tgt := 32) dX10_brokenOnes_11 rfl (fun c7 => ?_) (fun c7 => ?_)
    · have hf := hs6.1 c7
      refine s_iload_n X 1 dX10_brokenOnes_32 rfl rfl ?_
      cases hf
      exact s_iret X hr hlk dX10_brokenOnes_33
    · have hf := hs6.2 c7
      refine s_iload_n X 1 dX10_brokenOnes_14 rfl rfl ?_
      refine s_aload_n X 0 dX10_brokenOnes_15 rfl rfl ?_
      refine s_iload_n X 2 dX10_brokenOnes_16 rfl rfl ?_
      refine s_bipush X (v := (7 : Int32)) dX10_brokenOnes_17 rfl ?_
      obtain ⟨r9, hc8, hf⟩ := pk_obd hf
      refine s_callV X (ci := 10) (k_X10_get G hc8) rfl h1 wd1588 wd1590 wd57 wd1591 wd138 cd_X10_get ⟨Nat.le_of_ble_eq_true rfl, Nat.le_of_ble_eq_true rfl⟩ (Nat.le_of_ble_eq_true rfl) dX10_brokenOnes_19 ?_
      refine s_iload_n X 2 dX10_brokenOnes_22 rfl rfl ?_
      refine s_ishl X dX10_brokenOnes_23 ?_
      refine s_ior X dX10_brokenOnes_24 ?_
      obtain ⟨x10, e11, hf⟩ := pk_bnd hf
      refine s_nmI e11 ?_
      refine s_istore_n X (vs' := [(0, .ref (gB G + v0)), (1, .int x10), (2, .int v2)]) dX10_brokenOnes_25 rfl (Nat.le_of_ble_eq_true rfl) [1, 0, 2] rfl ?_
      obtain ⟨x12, e13, hf⟩ := pk_bnd hf
      refine s_iinc X (vs' := [(0, .ref (gB G + v0)), (1, .int x10), (2, .int x12)]) 2 dX10_brokenOnes_26 rfl (v := x12) e13.symm (Nat.le_of_ble_eq_true rfl) [1, 2, 0] rfl ?_
      refine s_goto X (tgt := 4) dX10_brokenOnes_29 rfl ?_
      exact ih _ _ _ hf
end
theorem k_X10_brokenOnes (G : Gam) {n : Nat} {o : Nat} {M : Mem} {rv : Int32} (hf : f_X10_brokenOnes n o M = some rv) : Kt yX10_brokenOnes cX10_brokenOnes 3 (some .int) 1 22 G [.ref (gB G + o)] M M (some (.int rv)) := by
  refine Kt.of (by decide) (Nat.le_of_ble_eq_true rfl) ?_
  intro p l e R s m args below meth c X hr hlk hnm
  refine s_drop [0] (vs' := [(0, .ref (gB G + o))]) rfl ?_
  rw [f_X10_brokenOnes] at hf
  refine s_iconst X (v := (0 : Int32)) dX10_brokenOnes_0 rfl ?_
  refine s_istore_n X (vs' := [(0, .ref (gB G + o)), (1, .int (0 : Int32))]) dX10_brokenOnes_1 rfl (Nat.le_of_ble_eq_true rfl) [1, 0] rfl ?_
  refine s_iconst X (v := (0 : Int32)) dX10_brokenOnes_2 rfl ?_
  refine s_istore_n X (vs' := [(0, .ref (gB G + o)), (1, .int (0 : Int32)), (2, .int (0 : Int32))]) dX10_brokenOnes_3 rfl (Nat.le_of_ble_eq_true rfl) [1, 2, 0] rfl ?_
  exact l_X10_brokenOnes_4 X hr hlk hnm _ _ _ hf
