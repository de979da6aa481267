def f_X9_has (a1 : Int32) (a2 : Int32) (M : Mem) : Option Int32 :=
  if ((a1 >>> (a2 &&& 31)) &&& (1 : Int32)) = 0 then (
    some (0 : Int32)
    ) else (
    some (1 : Int32)
    )
theorem cd_X9_has : (yX9_has.cls ≠ "java/lang/invoke/MethodHandle" ∧ yX9_has.cls ≠ "java/lang/invoke/VarHandle") ∧ (parseMethodDescriptor yX9_has.desc).map (fun d => d.parameters.length) = some 2 := ⟨⟨by decide +kernel, by decide +kernel⟩, by decide +kernel⟩
theorem k_X9_has (G : Gam) {a1 : Int32} {a2 : Int32} {M : Mem} {rv : Int32} (hf : f_X9_has a1 a2 M = some rv) : Kt yX9_has cX9_has 2 (some .boolean) 0 0 G [.int a1, .int a2] M M (some (.int rv)) := by
  refine Kt.of (by decide) (Nat.le_of_ble_eq_true rfl) ?_
  intro p l e R s m args below meth c X hr hlk hnm
  refine s_drop [0, 1] (vs' := [(0, .int a1), (1, .int a2)]) rfl ?_
  rw [f_X9_has] at hf
  refine s_iload_n X 0 dX9_has_0 rfl rfl ?_
  refine s_iload_n X 1 dX9_has_1 rfl rfl ?_
  refine s_ishr X dX9_has_2 ?_
  refine s_iconst X (v := (1 : Int32)) dX9_has_3 rfl ?_
  refine s_iand X dX9_has_4 ?_
  have hs1 := pk_ite hf
  clear hf
  refine s_if_eq X (tgt := 12) dX9_has_5 rfl (fun c2 => ?_) (fun c2 => ?_)
  · have hf := hs1.1 c2
    refine s_iconst X (v := (0 : Int32)) dX9_has_12 rfl ?_
    cases hf
    exact s_zret X hr rfl hlk dX9_has_13
  · have hf := hs1.2 c2
    refine s_iconst X (v := (1 : Int32)) dX9_has_8 rfl ?_
    refine s_goto X (tgt := 13) dX9_has_9 rfl ?_
    cases hf
    exact s_zret X hr rfl hlk dX9_has_13
def f_X4_rest (o : Nat) (M : Mem) : Option Mem :=
  chk (isO M 4 o) <|
  bnd (sI M o 2 (0 : Int32)) fun M2 =>
  bnd (sI M2 o 3 (0 : Int32)) fun M5 =>
  bnd (sI M5 o 4 (0 : Int32)) fun M8 =>
  bnd (sI M8 o 5 (0 : Int32)) fun M11 =>
  some M11
theorem cd_X4_rest : (yX4_rest.cls ≠ "java/lang/invoke/MethodHandle" ∧ yX4_rest.cls ≠ "java/lang/invoke/VarHandle") ∧ (parseMethodDescriptor yX4_rest.desc).map (fun d => d.parameters.length) = some 0 := ⟨⟨by decide +kernel, by decide +kernel⟩, by decide +kernel⟩
theorem k_X4_rest (G : Gam) {o : Nat} {M : Mem} {rv : Mem} (hf : f_X4_rest o M = some rv) : Kt yX4_rest cX4_rest 1 none 0 0 G [.ref (gB G + o)] M rv none := by
  refine Kt.of (by decide) (Nat.le_of_ble_eq_true rfl) ?_
  intro p l e R s m args below meth c X hr hlk hnm
  refine s_drop [0] (vs' := [(0, .ref (gB G + o))]) rfl ?_
  rw [f_X4_rest] at hf
  refine s_aload_n X 0 dX4_rest_0 rfl rfl ?_
  refine s_iconst X (v := (0 : Int32)) dX4_rest_1 rfl ?_
  obtain ⟨h1, hf⟩ := pk_chk hf
  obtain ⟨M2, e3, hf⟩ := pk_bnd hf
  refine s_putI X (ci := 4) (k := 2) rfl (Nat.le_of_ble_eq_true rfl) h1 wd333 (fun _ _ _ => rfl) rfl rfl e3 dX4_rest_2 ?_
  have h4 := io_sI e3 h1
  refine s_aload_n X 0 dX4_rest_5 rfl rfl ?_
  refine s_iconst X (v := (0 : Int32)) dX4_rest_6 rfl ?_
  obtain ⟨M5, e6, hf⟩ := pk_bnd hf
  refine s_putI X (ci := 4) (k := 3) rfl (Nat.le_of_ble_eq_true rfl) h4 wd337 (fun _ _ _ => rfl) rfl rfl e6 dX4_rest_7 ?_
  have h7 := io_sI e6 h4
  refine s_aload_n X 0 dX4_rest_10 rfl rfl ?_
  refine s_iconst X (v := (0 : Int32)) dX4_rest_11 rfl ?_
  obtain ⟨M8, e9, hf⟩ := pk_bnd hf
  refine s_putI X (ci := 4) (k := 4) rfl (Nat.le_of_ble_eq_true rfl) h7 wd341 (fun _ _ _ => rfl) rfl rfl e9 dX4_rest_12 ?_
  have h10 := io_sI e9 h7
  refine s_aload_n X 0 dX4_rest_15 rfl rfl ?_
  refine s_iconst X (v := (0 : Int32)) dX4_rest_16 rfl ?_
  obtain ⟨M11, e12, hf⟩ := pk_bnd hf
  refine s_putI X (ci := 4) (k := 5) rfl (Nat.le_of_ble_eq_true rfl) h10 wd345 (fun _ _ _ => rfl) rfl rfl e12 dX4_rest_17 ?_
  have h13 := io_sI e12 h10
  cases hf
  exact s_vret X hr hlk dX4_rest_20
def f_X4_firstWaiter_4 (M : Mem) : Nat → Nat → Int32 → Int32 → Option Int32
  | 0, _, _, _ => none
  | n + 1, v0, v1, v2 =>
    if (16 : Int32) ≤ v2 then (
      some v1
      ) else (
      chk (isO M 4 v0) <|
      obd (f_X9_has (mI M v0 9) v2 M) fun r5 =>
      if r5 = 0 then (
        bnd (v2 + (1 : Int32)) fun x8 =>
        f_X4_firstWaiter_4 M n v0 v1 x8
        ) else (
        if v1 = (-1 : Int32) then (
          bnd (v2 + (1 : Int32)) fun x12 =>
          f_X4_firstWaiter_4 M n v0 v2 x12
          ) else (
          bnd (mR M v0 10) fun o14 =>
          chk (isO M 100 o14) <|
          chk (inB v2 (mLn M o14)) <|
          bnd (mR M v0 10) fun o18 =>
          chk (isO M 100 o18) <|
          chk (inB v1 (mLn M o18)) <|
          if (mI M o18 (v1).toNatClampNeg) ≤ (mI M o14 (v2).toNatClampNeg) then (
            bnd (v2 + (1 : Int32)) fun x24 =>
            f_X4_firstWaiter_4 M n v0 v1 x24
            ) else (
            bnd (v2 + (1 : Int32)) fun x26 =>
            f_X4_firstWaiter_4 M n v0 v2 x26
            )
          )
        )
      )
def f_X4_firstWaiter (n : Nat) (o : Nat) (M : Mem) : Option Int32 :=
  f_X4_firstWaiter_4 M n o (-1 : Int32) (0 : Int32)
theorem cd_X4_firstWaiter : (yX4_firstWaiter.cls ≠ "java/lang/invoke/MethodHandle" ∧ yX4_firstWaiter.cls ≠ "java/lang/invoke/VarHandle") ∧ (parseMethodDescriptor yX4_firstWaiter.desc).map (fun d => d.parameters.length) = some 0 := ⟨⟨by decide +kernel, by decide +kernel⟩, by decide +kernel⟩
section
variable {p : Program} {l : Launch} {e : Env} {R : Room} {s : State} {m : MethodId} {args : Array Value} {below : List Frame} {meth : Method} {c : Code} {G : Gam} {M0 : Mem}
theorem l_X4_firstWaiter_4 {M : Mem} {rv : Int32} (X : Cx p R s m args c G M0 cX4_firstWaiter yX4_firstWaiter.cls 3 1 21) (hr : meth.sig.returnType = (some .int)) (hlk : meth.locks = false) (hnm : meth.name = "firstWaiter") : ∀ {n : Nat} (v0 : Nat) (v1 : Int32) (v2 : Int32), f_X4_firstWaiter_4 M n v0 v1 v2 = some rv → Sg p l e R s m args below meth c (Qm below G args s (some (.int rv)) M0 M) G M0 3 4 [(0, .ref (gB G + v0)), (1, .int v1), (2, .int v2)] [] M := by
  intro n
  induction n with
  | zero => intro v0 v1 v2 hf; exact (pk_none hf).elim
  | succ n ih =>
    intro v0 v1 v2 hf
    rw [f_X4_firstWaiter_4] at hf
    refine s_iload_n X 2 dX4_firstWaiter_4 rfl rfl ?_
    refine s_bipush X (v := (16 : Int32)) dX4_firstWaiter_5 rfl ?_
    have hs1 := pk_ite hf
    clear hf
    refine s_icmp_ge X (tgt := 49) dX4_firstWaiter_7 rfl (fun c2 => ?_) (fun c2 => ?_)
    · have hf := hs1.1 c2
      refine s_iload_n X 1 dX4_firstWaiter_49 rfl rfl ?_
      cases hf
      exact s_iret X hr hlk dX4_firstWaiter_50
    · have hf := hs1.2 c2
      refine s_aload_n X 0 dX4_firstWaiter_10 rfl rfl ?_
      obtain ⟨h3, hf⟩ := pk_chk hf
      refine s_getI X (ci := 4) (k := 9) rfl (Nat.le_of_ble_eq_true rfl) h3 wd361 (fun _ _ _ => rfl) dX4_firstWaiter_11 ?_
      refine s_iload_n X 2 dX4_firstWaiter_14 rfl rfl ?_
      obtain ⟨r5, hc4, hf⟩ := pk_obd hf
      refine s_callSN X (k_X9_has G hc4) (host := "QuorumGate") ns_9 wd712 wd713 wd126 cd_X9_has ⟨Nat.le_of_ble_eq_true rfl, Nat.le_of_ble_eq_true rfl⟩ (Nat.le_of_ble_eq_true rfl) dX4_firstWaiter_15 ?_
      have hs6 := pk_ite hf
      clear hf
      refine s_if_eq X (tgt := 43) dX4_firstWaiter_18 rfl (fun c7 => ?_) (fun c7 => ?_)
      · have hf := hs6.1 c7
        obtain ⟨x8, e9, hf⟩ := pk_bnd hf
        refine s_iinc X (vs' := [(0, .ref (gB G + v0)), (1, .int v1), (2, .int x8)]) 2 dX4_firstWaiter_43 rfl (v := x8) e9.symm (Nat.le_of_ble_eq_true rfl) [1, 2, 0] rfl ?_
        refine s_goto X (tgt := 4) dX4_firstWaiter_46 rfl ?_
        exact ih _ _ _ hf
      · have hf := hs6.2 c7
        refine s_iload_n X 1 dX4_firstWaiter_21 rfl rfl ?_
        refine s_iconst X (v := (-1 : Int32)) dX4_firstWaiter_22 rfl ?_
        have hs10 := pk_ite hf
        clear hf
        refine s_icmp_eq X (tgt := 41) dX4_firstWaiter_23 rfl (fun c11 => ?_) (fun c11 => ?_)
        · have hf := hs10.1 c11
          refine s_iload_n X 2 dX4_firstWaiter_41 rfl rfl ?_
          refine s_istore_n X (vs' := [(0, .ref (gB G + v0)), (1, .int v2), (2, .int v2)]) dX4_firstWaiter_42 rfl (Nat.le_of_ble_eq_true rfl) [1, 0, 2] rfl ?_
          obtain ⟨x12, e13, hf⟩ := pk_bnd hf
          refine s_iinc X (vs' := [(0, .ref (gB G + v0)), (1, .int v2), (2, .int x12)]) 2 dX4_firstWaiter_43 rfl (v := x12) e13.symm (Nat.le_of_ble_eq_true rfl) [1, 2, 0] rfl ?_
          refine s_goto X (tgt := 4) dX4_firstWaiter_46 rfl ?_
          exact ih _ _ _ hf
        · have hf := hs10.2 c11
          refine s_aload_n X 0 dX4_firstWaiter_26 rfl rfl ?_
          obtain ⟨o14, e15, hf⟩ := pk_bnd hf
          obtain ⟨h16, hf⟩ := pk_chk hf
          refine s_getR X (ci := 4) (k := 10) rfl (Nat.le_of_ble_eq_true rfl) h3 wd365 (fun _ _ _ => rfl) (e15 ▸ h16) dX4_firstWaiter_27 (e15 ▸ ?_)
          refine s_iload_n X 2 dX4_firstWaiter_30 rfl rfl ?_
          obtain ⟨h17, hf⟩ := pk_chk hf
          refine s_iald X h16 h17 dX4_firstWaiter_31 ?_
          refine s_aload_n X 0 dX4_firstWaiter_32 rfl rfl ?_
          obtain ⟨o18, e19, hf⟩ := pk_bnd hf
          obtain ⟨h20, hf⟩ := pk_chk hf
          refine s_getR X (ci := 4) (k := 10) rfl (Nat.le_of_ble_eq_true rfl) h3 wd365 (fun _ _ _ => rfl) (e19 ▸ h20) dX4_firstWaiter_33 (e19 ▸ ?_)
          refine s_iload_n X 1 dX4_firstWaiter_36 rfl rfl ?_
          obtain ⟨h21, hf⟩ := pk_chk hf
          refine s_iald X h20 h21 dX4_firstWaiter_37 ?_
          have hs22 := pk_ite hf
          clear hf
          refine s_icmp_ge X (tgt := 43) dX4_firstWaiter_38 rfl (fun c23 => ?_) (fun c23 => ?_)
          · have hf := hs22.1 c23
            obtain ⟨x24, e25, hf⟩ := pk_bnd hf
            refine s_iinc X (vs' := [(0, .ref (gB G + v0)), (1, .int v1), (2, .int x24)]) 2 dX4_firstWaiter_43 rfl (v := x24) e25.symm (Nat.le_of_ble_eq_true rfl) [1, 2, 0] rfl ?_
            refine s_goto X (tgt := 4) dX4_firstWaiter_46 rfl ?_
            exact ih _ _ _ hf
          · have hf := hs22.2 c23
            refine s_iload_n X 2 dX4_firstWaiter_41 rfl rfl ?_
            refine s_istore_n X (vs' := [(0, .ref (gB G + v0)), (1, .int v2), (2, .int v2)]) dX4_firstWaiter_42 rfl (Nat.le_of_ble_eq_true rfl) [1, 0, 2] rfl ?_
            obtain ⟨x26, e27, hf⟩ := pk_bnd hf
            refine s_iinc X (vs' := [(0, .ref (gB G + v0)), (1, .int v2), (2, .int x26)]) 2 dX4_firstWaiter_43 rfl (v := x26) e27.symm (Nat.le_of_ble_eq_true rfl) [1, 2, 0] rfl ?_
            refine s_goto X (tgt := 4) dX4_firstWaiter_46 rfl ?_
            exact ih _ _ _ hf
end
theorem k_X4_firstWaiter (G : Gam) {n : Nat} {o : Nat} {M : Mem} {rv : Int32} (hf : f_X4_firstWaiter n o M = some rv) : Kt yX4_firstWaiter cX4_firstWaiter 3 (some .int) 1 21 G [.ref (gB G + o)] M M (some (.int rv)) := by
  refine Kt.of (by decide) (Nat.le_of_ble_eq_true rfl) ?_
  intro p l e R s m args below meth c X hr hlk hnm
  refine s_drop [0] (vs' := [(0, .ref (gB G + o))]) rfl ?_
  rw [f_X4_firstWaiter] at hf
  refine s_iconst X (v := (-1 : Int32)) dX4_firstWaiter_0 rfl ?_
  refine s_istore_n X (vs' := [(0, .ref (gB G + o)), (1, .int (-1 : Int32))]) dX4_firstWaiter_1 rfl (Nat.le_of_ble_eq_true rfl) [1, 0] rfl ?_
  refine s_iconst X (v := (0 : Int32)) dX4_firstWaiter_2 rfl ?_
  refine s_istore_n X (vs' := [(0, .ref (gB G + o)), (1, .int (-1 : Int32)), (2, .int (0 : Int32))]) dX4_firstWaiter_3 rfl (Nat.le_of_ble_eq_true rfl) [1, 2, 0] rfl ?_
  exact l_X4_firstWaiter_4 X hr hlk hnm _ _ _ hf
def f_J9_min_7cf53 (a1 : Int32) (a2 : Int32) (M : Mem) : Option Int32 :=
  if a2 < a1 then (
    some a2
    ) else (
    some a1
    )
theorem cd_J9_min_7cf53 : (yJ9_min_7cf53.cls ≠ "java/lang/invoke/MethodHandle" ∧ yJ9_min_7cf53.cls ≠ "java/lang/invoke/VarHandle") ∧ (parseMethodDescriptor yJ9_min_7cf53.desc).map (fun d => d.parameters.length) = some 2 := ⟨⟨by decide +kernel, by decide +kernel⟩, by decide +kernel⟩
theorem k_J9_min_7cf53 (G : Gam) {a1 : Int32} {a2 : Int32} {M : Mem} {rv : Int32} (hf : f_J9_min_7cf53 a1 a2 M = some rv) : Kt yJ9_min_7cf53 cJ9_min_7cf53 2 (some .int) 0 0 G [.int a1, .int a2] M M (some (.int rv)) := by
  refine Kt.of (by decide) (Nat.le_of_ble_eq_true rfl) ?_
  intro p l e R s m args below meth c X hr hlk hnm
  refine s_drop [0, 1] (vs' := [(0, .int a1), (1, .int a2)]) rfl ?_
  rw [f_J9_min_7cf53] at hf
  refine s_iload_n X 0 dJ9_min_7cf53_0 rfl rfl ?_
  refine s_iload_n X 1 dJ9_min_7cf53_1 rfl rfl ?_
  have hs1 := pk_ite hf
  clear hf
  refine s_icmp_gt X (tgt := 9) dJ9_min_7cf53_2 rfl (fun c2 => ?_) (fun c2 => ?_)
  · have hf := hs1.1 c2
    refine s_iload_n X 1 dJ9_min_7cf53_9 rfl rfl ?_
    cases hf
    exact s_iret X hr hlk dJ9_min_7cf53_10
  · have hf := hs1.2 c2
    refine s_iload_n X 0 dJ9_min_7cf53_5 rfl rfl ?_
    refine s_goto X (tgt := 10) dJ9_min_7cf53_6 rfl ?_
    cases hf
    exact s_iret X hr hlk dJ9_min_7cf53_10
def f_J7_copyOf_59c91 (a1 : Nat) (a2 : Int32) (M : Mem) : Option (Nat × Mem) :=
  chk (isO M 100 a1) <|
  if a2 = (Int32.ofNat (mLn M a1)) then (
    none
    ) else (
    chk (¬ a2 < 0) <|
    chk (mN M + 1 ≤ CAP ∧ mU M + (a2).toNatClampNeg ≤ CAPU) <|
    bnd (mN M) fun o8 =>
    bnd (nw M 100 (a2).toNatClampNeg (a2).toNatClampNeg) fun M6 =>
    obd (f_J9_min_7cf53 (Int32.ofNat (mLn M6 a1)) a2 M6) fun r13 =>
    chk (cp_ok (0 : Int32) (0 : Int32) r13 0 (mLn M6 a1) (mLn M6 o8)) <|
    bnd (cpI M6 a1 ((0 : Int32)).toNatClampNeg o8 ((0 : Int32)).toNatClampNeg (r13).toNatClampNeg) fun M15 =>
    some (o8, M15)
    )
theorem cd_J7_copyOf_59c91 : (yJ7_copyOf_59c91.cls ≠ "java/lang/invoke/MethodHandle" ∧ yJ7_copyOf_59c91.cls ≠ "java/lang/invoke/VarHandle") ∧ (parseMethodDescriptor yJ7_copyOf_59c91.desc).map (fun d => d.parameters.length) = some 2 := ⟨⟨by decide +kernel, by decide +kernel⟩, by decide +kernel⟩
theorem k_J7_copyOf_59c91 (G : Gam) {a1 : Nat} {a2 : Int32} {M : Mem} {rv : (Nat × Mem)} (hf : f_J7_copyOf_59c91 a1 a2 M = some rv) : Kt yJ7_copyOf_59c91 cJ7_copyOf_59c91 3 (some (.array .int)) 1 28 G [.ref (gB G + a1), .int a2] M rv.2 (some (.ref (gB G + rv.1))) := by
  refine Kt.of (by decide) (Nat.le_of_ble_eq_true rfl) ?_
  intro p l e R s m args below meth c X hr hlk hnm
  refine s_drop [0, 1] (vs' := [(0, .ref (gB G + a1)), (1, .int a2)]) rfl ?_
  rw [f_J7_copyOf_59c91] at hf
  refine s_iload_n X 1 dJ7_copyOf_59c91_0 rfl rfl ?_
  refine s_aload_n X 0 dJ7_copyOf_59c91_1 rfl rfl ?_
  obtain ⟨h1, hf⟩ := pk_chk hf
  refine s_alen X h1 rfl dJ7_copyOf_59c91_2 ?_
  have hs2 := pk_ite hf
  clear hf
  refine s_icmp_ne X (tgt := 14) dJ7_copyOf_59c91_3 rfl (fun c3 => ?_) (fun c3 => ?_)
  · have hf := hs2.2 c3
    refine s_iload_n X 1 dJ7_copyOf_59c91_14 rfl rfl ?_
    obtain ⟨h4, hf⟩ := pk_chk hf
    obtain ⟨h5, hf⟩ := pk_chk hf
    obtain ⟨o8, e9, hf⟩ := pk_bnd hf
    obtain ⟨M6, e7, hf⟩ := pk_bnd hf
    refine s_newI X wd184 h4 h5 e7 dJ7_copyOf_59c91_15 (e9 ▸ ?_)
    have h10 := io_nw e7 h1
    have h11 := io_nwn e7 e9
    refine s_astore_n X (vs' := [(0, .ref (gB G + a1)), (1, .int a2), (2, .ref (gB G + o8))]) dJ7_copyOf_59c91_17 rfl (Nat.le_of_ble_eq_true rfl) [1, 2, 0] rfl ?_
    refine s_aload_n X 0 dJ7_copyOf_59c91_18 rfl rfl ?_
    refine s_iconst X (v := (0 : Int32)) dJ7_copyOf_59c91_19 rfl ?_
    refine s_aload_n X 2 dJ7_copyOf_59c91_20 rfl rfl ?_
    refine s_iconst X (v := (0 : Int32)) dJ7_copyOf_59c91_21 rfl ?_
    refine s_aload_n X 0 dJ7_copyOf_59c91_22 rfl rfl ?_
    refine s_alen X h10 rfl dJ7_copyOf_59c91_23 ?_
    refine s_iload_n X 1 dJ7_copyOf_59c91_24 rfl rfl ?_
    obtain ⟨r13, hc12, hf⟩ := pk_obd hf
    refine s_callS X (k_J9_min_7cf53 G hc12) wd960 wd889 wd890 wd142 cd_J9_min_7cf53 ⟨Nat.le_of_ble_eq_true rfl, Nat.le_of_ble_eq_true rfl⟩ (Nat.le_of_ble_eq_true rfl) dJ7_copyOf_59c91_25 ?_
    obtain ⟨h14, hf⟩ := pk_chk hf
    obtain ⟨M15, e16, hf⟩ := pk_bnd hf
    refine s_copy X wd961 wd621 wd620 wd137 h10 h11 h14.1 h14.2.1 h14.2.2.1 h14.2.2.2.1 h14.2.2.2.2 ⟨Nat.le_of_ble_eq_true rfl, Nat.le_of_ble_eq_true rfl⟩ e16 dJ7_copyOf_59c91_28 ?_
    have h17 := io_cp e16 h10
    have h18 := io_cp e16 h11
    refine s_aload_n X 2 dJ7_copyOf_59c91_31 rfl rfl ?_
    cases hf
    exact s_aret X hr (Or.inr ⟨_, rfl⟩) hlk dJ7_copyOf_59c91_32
  · have hf := hs2.1 c3
    refine s_aload_n X 0 dJ7_copyOf_59c91_6 rfl rfl ?_
    exact (pk_none hf).elim
def f_X5_put_205 (v0 : Nat) (v1 : Int32) (v2 : Int32) (v3 : Int32) (v5 : Int32) (v6 : Int32) (M : Mem) : Option Mem :=
    chk (isO M 5 v0) <|
    bnd (mR M v0 1) fun o2 =>
    chk (isO M 100 o2) <|
    chk (inB v6 (mLn M o2)) <|
    bnd (sI M o2 (v6).toNatClampNeg v5) fun M6 =>
    bnd (mR M6 v0 2) fun o10 =>
    chk (isO M6 100 o10) <|
    chk (inB v6 (mLn M6 o10)) <|
    chk (inB v6 (mLn M6 o10)) <|
    bnd (sI M6 o10 (v6).toNatClampNeg ((mI M6 o10 (v6).toNatClampNeg) + (1 : Int32))) fun M15 =>
    bnd (mR M15 v0 3) fun o20 =>
    chk (isO M15 100 o20) <|
    chk (inB v2 (mLn M15 o20)) <|
    chk (inB v2 (mLn M15 o20)) <|
    bnd (sI M15 o20 (v2).toNatClampNeg ((mI M15 o20 (v2).toNatClampNeg) ||| ((1 : Int32) <<< (v3 &&& 31)))) fun M25 =>
    bnd (mR M25 v0 4) fun o31 =>
    chk (isO M25 100 o31) <|
    chk (inB v1 (mLn M25 o31)) <|
    chk (inB v1 (mLn M25 o31)) <|
    bnd (sI M25 o31 (v1).toNatClampNeg ((mI M25 o31 (v1).toNatClampNeg) + (1 : Int32))) fun M36 =>
    bnd (sI M36 v0 10 ((mI M36 v0 10) + (1 : Int32))) fun M43 =>
    some M43
def f_X5_put_129 (v0 : Nat) (v1 : Int32) (v2 : Int32) (v3 : Int32) (v4 : Int32) (v5 : Int32) (M : Mem) : Option Mem :=
    chk (isO M 5 v0) <|
    bnd (mR M v0 5) fun o2 =>
    chk (isO M 100 o2) <|
    chk (inB v5 (mLn M o2)) <|
    bnd (sI M o2 (v5).toNatClampNeg ((v4 <<< ((3 : Int32) &&& 31)) ||| v1)) fun M6 =>
    bnd (mR M6 v0 6) fun o10 =>
    chk (isO M6 100 o10) <|
    chk (inB v5 (mLn M6 o10)) <|
    bnd (sI M6 o10 (v5).toNatClampNeg (mI M6 v0 11)) fun M14 =>
    bnd (mR M14 v0 7) fun o19 =>
    chk (isO M14 100 o19) <|
    chk (inB v5 (mLn M14 o19)) <|
    bnd (sI M14 o19 (v5).toNatClampNeg (-1 : Int32)) fun M23 =>
    bnd ((v2 * (16 : Int32)) + v3) fun x29 =>
    bnd (mR M23 v0 2) fun o31 =>
    chk (isO M23 100 o31) <|
    chk (inB x29 (mLn M23 o31)) <|
    if (mI M23 o31 (x29).toNatClampNeg) = 0 then (
      bnd (mR M23 v0 0) fun o54 =>
      chk (isO M23 100 o54) <|
      chk (inB x29 (mLn M23 o54)) <|
      bnd (sI M23 o54 (x29).toNatClampNeg v5) fun M58 =>
      f_X5_put_205 v0 v1 v2 v3 v5 x29 M58
      ) else (
      bnd (mR M23 v0 7) fun o37 =>
      chk (isO M23 100 o37) <|
      bnd (mR M23 v0 1) fun o40 =>
      chk (isO M23 100 o40) <|
      chk (inB x29 (mLn M23 o40)) <|
      chk (inB (mI M23 o40 (x29).toNatClampNeg) (mLn M23 o37)) <|
      bnd (sI M23 o37 ((mI M23 o40 (x29).toNatClampNeg)).toNatClampNeg v5) fun M45 =>
      f_X5_put_205 v0 v1 v2 v3 v5 x29 M45
      )
def f_X5_put_107 (v0 : Nat) (v1 : Int32) (v2 : Int32) (v3 : Int32) (v4 : Int32) (u0 : Int32) (M : Mem) : Option Mem :=
    chk (isO M 5 v0) <|
    if u0 = (mI M v0 9) then (
      bnd (mR M v0 7) fun o4 =>
      chk (isO M 100 o4) <|
      chk (inB u0 (mLn M o4)) <|
      bnd (sI M v0 9 (mI M o4 (u0).toNatClampNeg)) fun M8 =>
      f_X5_put_129 v0 v1 v2 v3 v4 u0 M8
      ) else (
      f_X5_put_129 v0 v1 v2 v3 v4 u0 M
      )
def f_X5_put_81 (v0 : Nat) (v1 : Int32) (v2 : Int32) (v3 : Int32) (v4 : Int32) (M : Mem) : Option Mem :=
    chk (isO M 5 v0) <|
    if (mI M v0 9) = (-1 : Int32) then (
      bnd (mI M v0 8) fun x4 =>
      bnd (sI M v0 8 (x4 + (1 : Int32))) fun M6 =>
      f_X5_put_107 v0 v1 v2 v3 v4 x4 M6
      ) else (
      f_X5_put_107 v0 v1 v2 v3 v4 (mI M v0 9) M
      )
def f_X5_put (o : Nat) (a1 : Int32) (a2 : Int32) (a3 : Int32) (a4 : Int32) (M : Mem) : Option Mem :=
  chk (isO M 5 o) <|
  if (mI M o 10) < (131072 : Int32) then (
    if (mI M o 9) = (-1 : Int32) then (
      bnd (mR M o 5) fun o6 =>
      chk (isO M 100 o6) <|
      if (mI M o 8) < (Int32.ofNat (mLn M o6)) then (
        f_X5_put_81 o a1 a2 a3 a4 M
        ) else (
        bnd (mR M o 5) fun o11 =>
        chk (isO M 100 o11) <|
        obd2 (f_J7_copyOf_59c91 o11 ((mI M o 8) * (2 : Int32)) M) fun r15 M16 =>
        chk (isO M16 5 o) <|
        chk (isO M16 100 r15) <|
        bnd (sR M16 o 5 r15) fun M18 =>
        bnd (mR M18 o 6) fun o23 =>
        chk (isO M18 100 o23) <|
        obd2 (f_J7_copyOf_59c91 o23 ((mI M18 o 8) * (2 : Int32)) M18) fun r27 M28 =>
        chk (isO M28 5 o) <|
        chk (isO M28 100 r27) <|
        bnd (sR M28 o 6 r27) fun M30 =>
        bnd (mR M30 o 7) fun o35 =>
        chk (isO M30 100 o35) <|
        obd2 (f_J7_copyOf_59c91 o35 ((mI M30 o 8) * (2 : Int32)) M30) fun r39 M40 =>
        chk (isO M40 5 o) <|
        chk (isO M40 100 r39) <|
        bnd (sR M40 o 7 r39) fun M42 =>
        f_X5_put_81 o a1 a2 a3 a4 M42
        )
      ) else (
      f_X5_put_81 o a1 a2 a3 a4 M
      )
    ) else (
    some M
    )
theorem cd_X5_put : (yX5_put.cls ≠ "java/lang/invoke/MethodHandle" ∧ yX5_put.cls ≠ "java/lang/invoke/VarHandle") ∧ (parseMethodDescriptor yX5_put.desc).map (fun d => d.parameters.length) = some 4 := ⟨⟨by decide +kernel, by decide +kernel⟩, by decide +kernel⟩
section
variable {p : Program} {l : Launch} {e : Env} {R : Room} {s : State} {m : MethodId} {args : Array Value} {below : List Frame} {meth : Method} {c : Code} {G : Gam} {M0 : Mem}
theorem l_X5_put_205 {rv : Mem} {v0 : Nat} {v1 : Int32} {v2 : Int32} {v3 : Int32} {v5 : Int32} {v6 : Int32} {M : Mem} (X : Cx p R s m args c G M0 cX5_put yX5_put.cls 7 2 50) (hr : meth.sig.returnType = none) (hlk : meth.locks = false) (hnm : meth.name = "put") (hf : f_X5_put_205 v0 v1 v2 v3 v5 v6 M = some rv) : Sg p l e R s m args below meth c (Qm below G args s none M0 rv) G M0 7 205 [(0, .ref (gB G + v0)), (1, .int v1), (2, .int v2), (3, .int v3), (5, .int v5), (6, .int v6)] [] M := by
  rw [f_X5_put_205] at hf
  refine s_aload_n X 0 dX5_put_205 rfl rfl ?_
  obtain ⟨h1, hf⟩ := pk_chk hf
  obtain ⟨o2, e3, hf⟩ := pk_bnd hf
  obtain ⟨h4, hf⟩ := pk_chk hf
  refine s_getR X (ci := 5) (k := 1) rfl (Nat.le_of_ble_eq_true rfl) h1 wd250 (fun _ _ _ => rfl) (e3 ▸ h4) dX5_put_206 (e3 ▸ ?_)
  refine s_iload X 5 dX5_put_209 rfl ?_
  refine s_iload X 4 dX5_put_211 rfl ?_
  obtain ⟨h5, hf⟩ := pk_chk hf
  obtain ⟨M6, e7, hf⟩ := pk_bnd hf
  refine s_iast X h4 h5 e7 dX5_put_213 ?_
  have h8 := io_sI e7 h1
  have h9 := io_sI e7 h4
  refine s_aload_n X 0 dX5_put_214 rfl rfl ?_
  obtain ⟨o10, e11, hf⟩ := pk_bnd hf
  obtain ⟨h12, hf⟩ := pk_chk hf
  refine s_getR X (ci := 5) (k := 2) rfl (Nat.le_of_ble_eq_true rfl) h8 wd251 (fun _ _ _ => rfl) (e11 ▸ h12) dX5_put_215 (e11 ▸ ?_)
  refine s_iload X 5 dX5_put_218 rfl ?_
  refine s_dup2 X dX5_put_220 rfl rfl ?_
  obtain ⟨h13, hf⟩ := pk_chk hf
  refine s_iald X h12 h13 dX5_put_221 ?_
  refine s_iconst X (v := (1 : Int32)) dX5_put_222 rfl ?_
  refine s_iadd X dX5_put_223 ?_
  obtain ⟨h14, hf⟩ := pk_chk hf
  obtain ⟨M15, e16, hf⟩ := pk_bnd hf
  refine s_iast X h12 h14 e16 dX5_put_224 ?_
  have h17 := io_sI e16 h8
  have h18 := io_sI e16 h9
  have h19 := io_sI e16 h12
  refine s_aload_n X 0 dX5_put_225 rfl rfl ?_
  obtain ⟨o20, e21, hf⟩ := pk_bnd hf
  obtain ⟨h22, hf⟩ := pk_chk hf
  refine s_getR X (ci := 5) (k := 3) rfl (Nat.le_of_ble_eq_true rfl) h17 wd253 (fun _ _ _ => rfl) (e21 ▸ h22) dX5_put_226 (e21 ▸ ?_)
  refine s_iload_n X 2 dX5_put_229 rfl rfl ?_
  refine s_dup2 X dX5_put_230 rfl rfl ?_
  obtain ⟨h23, hf⟩ := pk_chk hf
  refine s_iald X h22 h23 dX5_put_231 ?_
  refine s_iconst X (v := (1 : Int32)) dX5_put_232 rfl ?_
  refine s_iload_n X 3 dX5_put_233 rfl rfl ?_
  refine s_ishl X dX5_put_234 ?_
  refine s_ior X dX5_put_235 ?_
  obtain ⟨h24, hf⟩ := pk_chk hf
  obtain ⟨M25, e26, hf⟩ := pk_bnd hf
  refine s_iast X h22 h24 e26 dX5_put_236 ?_
  have h27 := io_sI e26 h17
  have h28 := io_sI e26 h18
  have h29 := io_sI e26 h19
  have h30 := io_sI e26 h22
  refine s_aload_n X 0 dX5_put_237 rfl rfl ?_
  obtain ⟨o31, e32, hf⟩ := pk_bnd hf
  obtain ⟨h33, hf⟩ := pk_chk hf
  refine s_getR X (ci := 5) (k := 4) rfl (Nat.le_of_ble_eq_true rfl) h27 wd257 (fun _ _ _ => rfl) (e32 ▸ h33) dX5_put_238 (e32 ▸ ?_)
  refine s_iload_n X 1 dX5_put_241 rfl rfl ?_
  refine s_dup2 X dX5_put_242 rfl rfl ?_
  obtain ⟨h34, hf⟩ := pk_chk hf
  refine s_iald X h33 h34 dX5_put_243 ?_
  refine s_iconst X (v := (1 : Int32)) dX5_put_244 rfl ?_
  refine s_iadd X dX5_put_245 ?_
  obtain ⟨h35, hf⟩ := pk_chk hf
  obtain ⟨M36, e37, hf⟩ := pk_bnd hf
  refine s_iast X h33 h35 e37 dX5_put_246 ?_
  have h38 := io_sI e37 h27
  have h39 := io_sI e37 h28
  have h40 := io_sI e37 h29
  have h41 := io_sI e37 h30
  have h42 := io_sI e37 h33
  refine s_aload_n X 0 dX5_put_247 rfl rfl ?_
  refine s_dup X dX5_put_248 rfl ?_
  refine s_getI X (ci := 5) (k := 10) rfl (Nat.le_of_ble_eq_true rfl) h38 wd267 (fun _ _ _ => rfl) dX5_put_249 ?_
  refine s_iconst X (v := (1 : Int32)) dX5_put_252 rfl ?_
  refine s_iadd X dX5_put_253 ?_
  obtain ⟨M43, e44, hf⟩ := pk_bnd hf
  refine s_putI X (ci := 5) (k := 10) rfl (Nat.le_of_ble_eq_true rfl) h38 wd267 (fun _ _ _ => rfl) rfl rfl e44 dX5_put_254 ?_
  have h45 := io_sI e44 h38
  have h46 := io_sI e44 h39
  have h47 := io_sI e44 h40
  have h48 := io_sI e44 h41
  have h49 := io_sI e44 h42
  cases hf
  exact s_vret X hr hlk dX5_put_257
theorem l_X5_put_129 {rv : Mem} {v0 : Nat} {v1 : Int32} {v2 : Int32} {v3 : Int32} {v4 : Int32} {v5 : Int32} {M : Mem} (X : Cx p R s m args c G M0 cX5_put yX5_put.cls 7 2 50) (hr : meth.sig.returnType = none) (hlk : meth.locks = false) (hnm : meth.name = "put") (hf : f_X5_put_129 v0 v1 v2 v3 v4 v5 M = some rv) : Sg p l e R s m args below meth c (Qm below G args s none M0 rv) G M0 7 129 [(0, .ref (gB G + v0)), (1, .int v1), (2, .int v2), (3, .int v3), (4, .int v4), (5, .int v5)] [] M := by
  rw [f_X5_put_129] at hf
  refine s_aload_n X 0 dX5_put_129 rfl rfl ?_
  obtain ⟨h1, hf⟩ := pk_chk hf
  obtain ⟨o2, e3, hf⟩ := pk_bnd hf
  obtain ⟨h4, hf⟩ := pk_chk hf
  refine s_getR X (ci := 5) (k := 5) rfl (Nat.le_of_ble_eq_true rfl) h1 wd259 (fun _ _ _ => rfl) (e3 ▸ h4) dX5_put_130 (e3 ▸ ?_)
  refine s_iload X 5 dX5_put_133 rfl ?_
  refine s_iload X 4 dX5_put_135 rfl ?_
  refine s_iconst X (v := (3 : Int32)) dX5_put_137 rfl ?_
  refine s_ishl X dX5_put_138 ?_
  refine s_iload_n X 1 dX5_put_139 rfl rfl ?_
  refine s_ior X dX5_put_140 ?_
  obtain ⟨h5, hf⟩ := pk_chk hf
  obtain ⟨M6, e7, hf⟩ := pk_bnd hf
  refine s_iast X h4 h5 e7 dX5_put_141 ?_
  have h8 := io_sI e7 h1
  have h9 := io_sI e7 h4
  refine s_aload_n X 0 dX5_put_142 rfl rfl ?_
  obtain ⟨o10, e11, hf⟩ := pk_bnd hf
  obtain ⟨h12, hf⟩ := pk_chk hf
  refine s_getR X (ci := 5) (k := 6) rfl (Nat.le_of_ble_eq_true rfl) h8 wd261 (fun _ _ _ => rfl) (e11 ▸ h12) dX5_put_143 (e11 ▸ ?_)
  refine s_iload X 5 dX5_put_146 rfl ?_
  refine s_aload_n X 0 dX5_put_148 rfl rfl ?_
  refine s_getI X (ci := 5) (k := 11) rfl (Nat.le_of_ble_eq_true rfl) h8 wd272 (fun _ _ _ => rfl) dX5_put_149 ?_
  obtain ⟨h13, hf⟩ := pk_chk hf
  obtain ⟨M14, e15, hf⟩ := pk_bnd hf
  refine s_iast X h12 h13 e15 dX5_put_152 ?_
  have h16 := io_sI e15 h8
  have h17 := io_sI e15 h9
  have h18 := io_sI e15 h12
  refine s_aload_n X 0 dX5_put_153 rfl rfl ?_
  obtain ⟨o19, e20, hf⟩ := pk_bnd hf
  obtain ⟨h21, hf⟩ := pk_chk hf
  refine s_getR X (ci := 5) (k := 7) rfl (Nat.le_of_ble_eq_true rfl) h16 wd262 (fun _ _ _ => rfl) (e20 ▸ h21) dX5_put_154 (e20 ▸ ?_)
  refine s_iload X 5 dX5_put_157 rfl ?_
  refine s_iconst X (v := (-1 : Int32)) dX5_put_159 rfl ?_
  obtain ⟨h22, hf⟩ := pk_chk hf
  obtain ⟨M23, e24, hf⟩ := pk_bnd hf
  refine s_iast X h21 h22 e24 dX5_put_160 ?_
  have h25 := io_sI e24 h16
  have h26 := io_sI e24 h17
  have h27 := io_sI e24 h18
  have h28 := io_sI e24 h21
  refine s_iload_n X 2 dX5_put_161 rfl rfl ?_
  refine s_bipush X (v := (16 : Int32)) dX5_put_162 rfl ?_
  refine s_imul X dX5_put_164 ?_
  refine s_iload_n X 3 dX5_put_165 rfl rfl ?_
  refine s_iadd X dX5_put_166 ?_
  obtain ⟨x29, e30, hf⟩ := pk_bnd hf
  refine s_nmI e30 ?_
  refine s_istore X (vs' := [(0, .ref (gB G + v0)), (1, .int v1), (2, .int v2), (3, .int v3), (4, .int v4), (5, .int v5), (6, .int x29)]) dX5_put_167 (Nat.le_of_ble_eq_true rfl) [1, 2, 3, 4, 5, 6, 0] rfl ?_
  refine s_aload_n X 0 dX5_put_169 rfl rfl ?_
  obtain ⟨o31, e32, hf⟩ := pk_bnd hf
  obtain ⟨h33, hf⟩ := pk_chk hf
  refine s_getR X (ci := 5) (k := 2) rfl (Nat.le_of_ble_eq_true rfl) h25 wd251 (fun _ _ _ => rfl) (e32 ▸ h33) dX5_put_170 (e32 ▸ ?_)
  refine s_iload X 6 dX5_put_173 rfl ?_
  obtain ⟨h34, hf⟩ := pk_chk hf
  refine s_iald X h33 h34 dX5_put_175 ?_
  have hs35 := pk_ite hf
  clear hf
  refine s_if_ne X (tgt := 191) dX5_put_176 rfl (fun c36 => ?_) (fun c36 => ?_)
  · have hf := hs35.2 c36
    refine s_aload_n X 0 dX5_put_191 rfl rfl ?_
    obtain ⟨o37, e38, hf⟩ := pk_bnd hf
    obtain ⟨h39, hf⟩ := pk_chk hf
    refine s_getR X (ci := 5) (k := 7) rfl (Nat.le_of_ble_eq_true rfl) h25 wd262 (fun _ _ _ => rfl) (e38 ▸ h39) dX5_put_192 (e38 ▸ ?_)
    refine s_aload_n X 0 dX5_put_195 rfl rfl ?_
    obtain ⟨o40, e41, hf⟩ := pk_bnd hf
    obtain ⟨h42, hf⟩ := pk_chk hf
    refine s_getR X (ci := 5) (k := 1) rfl (Nat.le_of_ble_eq_true rfl) h25 wd250 (fun _ _ _ => rfl) (e41 ▸ h42) dX5_put_196 (e41 ▸ ?_)
    refine s_iload X 6 dX5_put_199 rfl ?_
    obtain ⟨h43, hf⟩ := pk_chk hf
    refine s_iald X h42 h43 dX5_put_201 ?_
    refine s_iload X 5 dX5_put_202 rfl ?_
    obtain ⟨h44, hf⟩ := pk_chk hf
    obtain ⟨M45, e46, hf⟩ := pk_bnd hf
    refine s_iast X h39 h44 e46 dX5_put_204 ?_
    have h47 := io_sI e46 h25
    have h48 := io_sI e46 h26
    have h49 := io_sI e46 h27
    have h50 := io_sI e46 h28
    have h51 := io_sI e46 h33
    have h52 := io_sI e46 h39
    have h53 := io_sI e46 h42
    refine s_drop [0, 1, 2, 3, 5, 6] (vs' := [(0, .ref (gB G + v0)), (1, .int v1), (2, .int v2), (3, .int v3), (5, .int v5), (6, .int x29)]) rfl ?_
    exact l_X5_put_205 X hr hlk hnm hf
  · have hf := hs35.1 c36
    refine s_aload_n X 0 dX5_put_179 rfl rfl ?_
    obtain ⟨o54, e55, hf⟩ := pk_bnd hf
    obtain ⟨h56, hf⟩ := pk_chk hf
    refine s_getR X (ci := 5) (k := 0) rfl (Nat.le_of_ble_eq_true rfl) h25 wd248 (fun _ _ _ => rfl) (e55 ▸ h56) dX5_put_180 (e55 ▸ ?_)
    refine s_iload X 6 dX5_put_183 rfl ?_
    refine s_iload X 5 dX5_put_185 rfl ?_
    obtain ⟨h57, hf⟩ := pk_chk hf
    obtain ⟨M58, e59, hf⟩ := pk_bnd hf
    refine s_iast X h56 h57 e59 dX5_put_187 ?_
    have h60 := io_sI e59 h25
    have h61 := io_sI e59 h26
    have h62 := io_sI e59 h27
    have h63 := io_sI e59 h28
    have h64 := io_sI e59 h33
    have h65 := io_sI e59 h56
    refine s_goto X (tgt := 205) dX5_put_188 rfl ?_
    refine s_drop [0, 1, 2, 3, 5, 6] (vs' := [(0, .ref (gB G + v0)), (1, .int v1), (2, .int v2), (3, .int v3), (5, .int v5), (6, .int x29)]) rfl ?_
    exact l_X5_put_205 X hr hlk hnm hf
theorem l_X5_put_107 {rv : Mem} {v0 : Nat} {v1 : Int32} {v2 : Int32} {v3 : Int32} {v4 : Int32} {u0 : Int32} {M : Mem} (X : Cx p R s m args c G M0 cX5_put yX5_put.cls 7 2 50) (hr : meth.sig.returnType = none) (hlk : meth.locks = false) (hnm : meth.name = "put") (hf : f_X5_put_107 v0 v1 v2 v3 v4 u0 M = some rv) : Sg p l e R s m args below meth c (Qm below G args s none M0 rv) G M0 7 107 [(0, .ref (gB G + v0)), (1, .int v1), (2, .int v2), (3, .int v3), (4, .int v4)] [.int u0] M := by
  rw [f_X5_put_107] at hf
  refine s_istore X (vs' := [(0, .ref (gB G + v0)), (1, .int v1), (2, .int v2), (3, .int v3), (4, .int v4), (5, .int u0)]) dX5_put_107 (Nat.le_of_ble_eq_true rfl) [1, 2, 3, 4, 5, 0] rfl ?_
  refine s_iload X 5 dX5_put_109 rfl ?_
  refine s_aload_n X 0 dX5_put_111 rfl rfl ?_
  obtain ⟨h1, hf⟩ := pk_chk hf
  refine s_getI X (ci := 5) (k := 9) rfl (Nat.le_of_ble_eq_true rfl) h1 wd265 (fun _ _ _ => rfl) dX5_put_112 ?_
  have hs2 := pk_ite hf
  clear hf
  refine s_icmp_ne X (tgt := 129) dX5_put_115 rfl (fun c3 => ?_) (fun c3 => ?_)
  · have hf := hs2.2 c3
    exact l_X5_put_129 X hr hlk hnm hf
  · have hf := hs2.1 c3
    refine s_aload_n X 0 dX5_put_118 rfl rfl ?_
    refine s_aload_n X 0 dX5_put_119 rfl rfl ?_
    obtain ⟨o4, e5, hf⟩ := pk_bnd hf
    obtain ⟨h6, hf⟩ := pk_chk hf
    refine s_getR X (ci := 5) (k := 7) rfl (Nat.le_of_ble_eq_true rfl) h1 wd262 (fun _ _ _ => rfl) (e5 ▸ h6) dX5_put_120 (e5 ▸ ?_)
    refine s_iload X 5 dX5_put_123 rfl ?_
    obtain ⟨h7, hf⟩ := pk_chk hf
    refine s_iald X h6 h7 dX5_put_125 ?_
    obtain ⟨M8, e9, hf⟩ := pk_bnd hf
    refine s_putI X (ci := 5) (k := 9) rfl (Nat.le_of_ble_eq_true rfl) h1 wd265 (fun _ _ _ => rfl) rfl rfl e9 dX5_put_126 ?_
    have h10 := io_sI e9 h1
    have h11 := io_sI e9 h6
    exact l_X5_put_129 X hr hlk hnm hf
theorem l_X5_put_81 {rv : Mem} {v0 : Nat} {v1 : Int32} {v2 : Int32} {v3 : Int32} {v4 : Int32} {M : Mem} (X : Cx p R s m args c G M0 cX5_put yX5_put.cls 7 2 50) (hr : meth.sig.returnType = none) (hlk : meth.locks = false) (hnm : meth.name = "put") (hf : f_X5_put_81 v0 v1 v2 v3 v4 M = some rv) : Sg p l e R s m args below meth c (Qm below G args s none M0 rv) G M0 7 81 [(0, .ref (gB G + v0)), (1, .int v1), (2, .int v2), (3, .int v3), (4, .int v4)] [] M := by
  rw [f_X5_put_81] at hf
  refine s_aload_n X 0 dX5_put_81 rfl rfl ?_
  obtain ⟨h1, hf⟩ := pk_chk hf
  refine s_getI X (ci := 5) (k := 9) rfl (Nat.le_of_ble_eq_true rfl) h1 wd265 (fun _ _ _ => rfl) dX5_put_82 ?_
  refine s_iconst X (v := (-1 : Int32)) dX5_put_85 rfl ?_
  have hs2 := pk_ite hf
  clear hf
  refine s_icmp_ne X (tgt := 103) dX5_put_86 rfl (fun c3 => ?_) (fun c3 => ?_)
  · have hf := hs2.2 c3
    refine s_aload_n X 0 dX5_put_103 rfl rfl ?_
    refine s_getI X (ci := 5) (k := 9) rfl (Nat.le_of_ble_eq_true rfl) h1 wd265 (fun _ _ _ => rfl) dX5_put_104 ?_
    exact l_X5_put_107 X hr hlk hnm hf
  · have hf := hs2.1 c3
    refine s_aload_n X 0 dX5_put_89 rfl rfl ?_
    refine s_dup X dX5_put_90 rfl ?_
    refine s_getI X (ci := 5) (k := 8) rfl (Nat.le_of_ble_eq_true rfl) h1 wd264 (fun _ _ _ => rfl) dX5_put_91 ?_
    obtain ⟨x4, e5, hf⟩ := pk_bnd hf
    refine s_nmI e5 ?_
    refine s_dup_x1 X dX5_put_94 rfl rfl ?_
    refine s_iconst X (v := (1 : Int32)) dX5_put_95 rfl ?_
    refine s_iadd X dX5_put_96 ?_
    obtain ⟨M6, e7, hf⟩ := pk_bnd hf
    refine s_putI X (ci := 5) (k := 8) rfl (Nat.le_of_ble_eq_true rfl) h1 wd264 (fun _ _ _ => rfl) rfl rfl e7 dX5_put_97 ?_
    have h8 := io_sI e7 h1
    refine s_goto X (tgt := 107) dX5_put_100 rfl ?_
    exact l_X5_put_107 X hr hlk hnm hf
end
theorem k_X5_put (G : Gam) {o : Nat} {a1 : Int32} {a2 : Int32} {a3 : Int32} {a4 : Int32} {M : Mem} {rv : Mem} (hf : f_X5_put o a1 a2 a3 a4 M = some rv) : Kt yX5_put cX5_put 7 none 2 50 G [.ref (gB G + o), .int a1, .int a2, .int a3, .int a4] M rv none := by
  refine Kt.of (by decide) (Nat.le_of_ble_eq_true rfl) ?_
  intro p l e R s m args below meth c X hr hlk hnm
  refine s_drop [0, 1, 2, 3, 4] (vs' := [(0, .ref (gB G + o)), (1, .int a1), (2, .int a2), (3, .int a3), (4, .int a4)]) rfl ?_
  rw [f_X5_put] at hf
  refine s_aload_n X 0 dX5_put_0 rfl rfl ?_
  obtain ⟨h1, hf⟩ := pk_chk hf
  refine s_getI X (ci := 5) (k := 10) rfl (Nat.le_of_ble_eq_true rfl) h1 wd267 (fun _ _ _ => rfl) dX5_put_1 ?_
  refine s_ldc X (v := (131072 : Int32)) dX5_put_4 wd949 ?_
  have hs2 := pk_ite hf
  clear hf
  refine s_icmp_lt X (tgt := 10) dX5_put_6 rfl (fun c3 => ?_) (fun c3 => ?_)
  · have hf := hs2.1 c3
    refine s_aload_n X 0 dX5_put_10 rfl rfl ?_
    refine s_getI X (ci := 5) (k := 9) rfl (Nat.le_of_ble_eq_true rfl) h1 wd265 (fun _ _ _ => rfl) dX5_put_11 ?_
    refine s_iconst X (v := (-1 : Int32)) dX5_put_14 rfl ?_
    have hs4 := pk_ite hf
    clear hf
    refine s_icmp_ne X (tgt := 81) dX5_put_15 rfl (fun c5 => ?_) (fun c5 => ?_)
    · have hf := hs4.2 c5
      exact l_X5_put_81 X hr hlk hnm hf
    · have hf := hs4.1 c5
      refine s_aload_n X 0 dX5_put_18 rfl rfl ?_
      refine s_getI X (ci := 5) (k := 8) rfl (Nat.le_of_ble_eq_true rfl) h1 wd264 (fun _ _ _ => rfl) dX5_put_19 ?_
      refine s_aload_n X 0 dX5_put_22 rfl rfl ?_
      obtain ⟨o6, e7, hf⟩ := pk_bnd hf
      obtain ⟨h8, hf⟩ := pk_chk hf
      refine s_getR X (ci := 5) (k := 5) rfl (Nat.le_of_ble_eq_true rfl) h1 wd259 (fun _ _ _ => rfl) (e7 ▸ h8) dX5_put_23 (e7 ▸ ?_)
      refine s_alen X h8 rfl dX5_put_26 ?_
      have hs9 := pk_ite hf
      clear hf
      refine s_icmp_lt X (tgt := 81) dX5_put_27 rfl (fun c10 => ?_) (fun c10 => ?_)
      · have hf := hs9.1 c10
        exact l_X5_put_81 X hr hlk hnm hf
      · have hf := hs9.2 c10
        refine s_aload_n X 0 dX5_put_30 rfl rfl ?_
        refine s_aload_n X 0 dX5_put_31 rfl rfl ?_
        obtain ⟨o11, e12, hf⟩ := pk_bnd hf
        obtain ⟨h13, hf⟩ := pk_chk hf
        refine s_getR X (ci := 5) (k := 5) rfl (Nat.le_of_ble_eq_true rfl) h1 wd259 (fun _ _ _ => rfl) (e12 ▸ h13) dX5_put_32 (e12 ▸ ?_)
        refine s_aload_n X 0 dX5_put_35 rfl rfl ?_
        refine s_getI X (ci := 5) (k := 8) rfl (Nat.le_of_ble_eq_true rfl) h1 wd264 (fun _ _ _ => rfl) dX5_put_36 ?_
        refine s_iconst X (v := (2 : Int32)) dX5_put_39 rfl ?_
        refine s_imul X dX5_put_40 ?_
        obtain ⟨r15, M16, hc14, hf⟩ := pk_obd2 hf
        refine s_callS X (k_J7_copyOf_59c91 G hc14) wd950 wd951 wd952 wd136 cd_J7_copyOf_59c91 ⟨Nat.le_of_ble_eq_true rfl, Nat.le_of_ble_eq_true rfl⟩ (Nat.le_of_ble_eq_true rfl) dX5_put_41 ?_
        obtain ⟨h17, hf⟩ := pk_chk hf
        obtain ⟨h20, hf⟩ := pk_chk hf
        obtain ⟨M18, e19, hf⟩ := pk_bnd hf
        refine s_putR X (ci := 5) (k := 5) rfl (Nat.le_of_ble_eq_true rfl) h17 wd259 (fun _ _ _ => rfl) h20 (fun _ => ⟨rfl, rfl⟩) rfl e19 dX5_put_44 ?_
        have h21 := io_sR e19 h17
        have h22 := io_sR e19 h20
        refine s_aload_n X 0 dX5_put_47 rfl rfl ?_
        refine s_aload_n X 0 dX5_put_48 rfl rfl ?_
        obtain ⟨o23, e24, hf⟩ := pk_bnd hf
        obtain ⟨h25, hf⟩ := pk_chk hf
        refine s_getR X (ci := 5) (k := 6) rfl (Nat.le_of_ble_eq_true rfl) h21 wd261 (fun _ _ _ => rfl) (e24 ▸ h25) dX5_put_49 (e24 ▸ ?_)
        refine s_aload_n X 0 dX5_put_52 rfl rfl ?_
        refine s_getI X (ci := 5) (k := 8) rfl (Nat.le_of_ble_eq_true rfl) h21 wd264 (fun _ _ _ => rfl) dX5_put_53 ?_
        refine s_iconst X (v := (2 : Int32)) dX5_put_56 rfl ?_
        refine s_imul X dX5_put_57 ?_
        obtain ⟨r27, M28, hc26, hf⟩ := pk_obd2 hf
        refine s_callS X (k_J7_copyOf_59c91 G hc26) wd950 wd951 wd952 wd136 cd_J7_copyOf_59c91 ⟨Nat.le_of_ble_eq_true rfl, Nat.le_of_ble_eq_true rfl⟩ (Nat.le_of_ble_eq_true rfl) dX5_put_58 ?_
        obtain ⟨h29, hf⟩ := pk_chk hf
        obtain ⟨h32, hf⟩ := pk_chk hf
        obtain ⟨M30, e31, hf⟩ := pk_bnd hf
        refine s_putR X (ci := 5) (k := 6) rfl (Nat.le_of_ble_eq_true rfl) h29 wd261 (fun _ _ _ => rfl) h32 (fun _ => ⟨rfl, rfl⟩) rfl e31 dX5_put_61 ?_
        have h33 := io_sR e31 h29
        have h34 := io_sR e31 h32
        refine s_aload_n X 0 dX5_put_64 rfl rfl ?_
        refine s_aload_n X 0 dX5_put_65 rfl rfl ?_
        obtain ⟨o35, e36, hf⟩ := pk_bnd hf
        obtain ⟨h37, hf⟩ := pk_chk hf
        refine s_getR X (ci := 5) (k := 7) rfl (Nat.le_of_ble_eq_true rfl) h33 wd262 (fun _ _ _ => rfl) (e36 ▸ h37) dX5_put_66 (e36 ▸ ?_)
        refine s_aload_n X 0 dX5_put_69 rfl rfl ?_
        refine s_getI X (ci := 5) (k := 8) rfl (Nat.le_of_ble_eq_true rfl) h33 wd264 (fun _ _ _ => rfl) dX5_put_70 ?_
        refine s_iconst X (v := (2 : Int32)) dX5_put_73 rfl ?_
        refine s_imul X dX5_put_74 ?_
        obtain ⟨r39, M40, hc38, hf⟩ := pk_obd2 hf
        refine s_callS X (k_J7_copyOf_59c91 G hc38) wd950 wd951 wd952 wd136 cd_J7_copyOf_59c91 ⟨Nat.le_of_ble_eq_true rfl, Nat.le_of_ble_eq_true rfl⟩ (Nat.le_of_ble_eq_true rfl) dX5_put_75 ?_
        obtain ⟨h41, hf⟩ := pk_chk hf
        obtain ⟨h44, hf⟩ := pk_chk hf
        obtain ⟨M42, e43, hf⟩ := pk_bnd hf
        refine s_putR X (ci := 5) (k := 7) rfl (Nat.le_of_ble_eq_true rfl) h41 wd262 (fun _ _ _ => rfl) h44 (fun _ => ⟨rfl, rfl⟩) rfl e43 dX5_put_78 ?_
        have h45 := io_sR e43 h41
        have h46 := io_sR e43 h44
        exact l_X5_put_81 X hr hlk hnm hf
  · have hf := hs2.2 c3
    cases hf
    exact s_vret X hr hlk dX5_put_9
