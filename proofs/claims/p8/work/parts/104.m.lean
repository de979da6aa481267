theorem dX10_isLive_0 : decode cX10_isLive 0 = .ok (.iconst 0, 1) := dk_3 (by decide +kernel)
theorem dX10_isLive_1 : decode cX10_isLive 1 = .ok (.istore_n 2, 1) := dk_61 (by decide +kernel)
theorem dX10_isLive_2 : decode cX10_isLive 2 = .ok (.iload_n 2, 1) := dk_28 (by decide +kernel)
theorem dX10_isLive_3 : decode cX10_isLive 3 = .ok (.aload_n 0, 1) := dk_42 (by decide +kernel)
theorem dX10_isLive_4 : decode cX10_isLive 4 = .ok (.getfield 7, 3) := dk_180 (x := 0) (y := 7) (by decide +kernel) rfl
theorem dX10_isLive_7 : decode cX10_isLive 7 = .ok (.iconst 0, 1) := dk_3 (by decide +kernel)
theorem dX10_isLive_8 : decode cX10_isLive 8 = .ok (.iaload, 1) := dk_46 (by decide +kernel)
theorem dX10_isLive_9 : decode cX10_isLive 9 = .ok (.if_icmp .ge 23, 3) := dk_162 (x := 0) (y := 23) (by decide +kernel) rfl
theorem dX10_isLive_12 : decode cX10_isLive 12 = .ok (.aload_n 0, 1) := dk_42 (by decide +kernel)
theorem dX10_isLive_13 : decode cX10_isLive 13 = .ok (.iload_n 2, 1) := dk_28 (by decide +kernel)
theorem dX10_isLive_14 : decode cX10_isLive 14 = .ok (.invokevirtual 80, 3) := dk_182 (x := 0) (y := 80) (by decide +kernel) rfl
theorem dX10_isLive_17 : decode cX10_isLive 17 = .ok (.iload_n 1, 1) := dk_27 (by decide +kernel)
theorem dX10_isLive_18 : decode cX10_isLive 18 = .ok (.iconst (-1), 1) := dk_2 (by decide +kernel)
theorem dX10_isLive_19 : decode cX10_isLive 19 = .ok (.ixor, 1) := dk_130 (by decide +kernel)
theorem dX10_isLive_20 : decode cX10_isLive 20 = .ok (.iand, 1) := dk_126 (by decide +kernel)
theorem dX10_isLive_21 : decode cX10_isLive 21 = .ok (.ifCond .ne 5, 3) := dk_154 (x := 0) (y := 5) (by decide +kernel) rfl
theorem dX10_isLive_24 : decode cX10_isLive 24 = .ok (.iconst 1, 1) := dk_4 (by decide +kernel)
theorem dX10_isLive_25 : decode cX10_isLive 25 = .ok (.ireturn, 1) := dk_172 (by decide +kernel)
theorem dX10_isLive_26 : decode cX10_isLive 26 = .ok (.iinc 2 1, 3) := dk_132 (x := 2) (y := 1) (by decide +kernel) rfl
theorem dX10_isLive_29 : decode cX10_isLive 29 = .ok (.goto (-27), 3) := dk_167 (x := 255) (y := 229) (by decide +kernel) rfl
theorem dX10_isLive_32 : decode cX10_isLive 32 = .ok (.iconst 0, 1) := dk_3 (by decide +kernel)
theorem dX10_isLive_33 : decode cX10_isLive 33 = .ok (.ireturn, 1) := dk_172 (by decide +kernel)
def f_X10_isLive_2 (M : Mem) : Nat → Nat → Int32 → Int32 → Option Int32
  | 0, _, _, _ => none
  | n + 1, v0, v1, v2 =>
    chk (isO M 10 v0) <|
    bnd (mR M v0 0) fun o2 =>
    chk (isO M 100 o2) <|
    chk (inB (0 : Int32) (mLn M o2)) <|
    if (mI M o2 ((0 : Int32)).toNatClampNeg) ≤ v2 then (
      some (0 : Int32)
      ) else (
      obd (f_X10_baseOf v0 v2 M) fun r9 =>
      if (r9 &&& (v1 ^^^ (-1 : Int32))) = 0 then (
        some (1 : Int32)
        ) else (
        bnd (v2 + (1 : Int32)) fun x12 =>
        f_X10_isLive_2 M n v0 v1 x12
        )
      )
def f_X10_isLive (n : Nat) (o : Nat) (a1 : Int32) (M : Mem) : Option Int32 :=
  f_X10_isLive_2 M n o a1 (0 : Int32)
theorem cd_X10_isLive : (yX10_isLive.cls ≠ "java/lang/invoke/MethodHandle" ∧ yX10_isLive.cls ≠ "java/lang/invoke/VarHandle") ∧ (parseMethodDescriptor yX10_isLive.desc).map (fun d => d.parameters.length) = some 1 := ⟨⟨by decide +kernel, by decide +kernel⟩, by decide +kernel⟩
section
variable {p : Program} {l : Launch} {e : Env} {R : Room} {s : State} {m : MethodId} {args : Array Value} {below : List Frame} {meth : Method} {c : Code} {G : Gam} {M0 : Mem}
theorem l_X10_isLive_2 {M : Mem} {rv : Int32} (X : Cx p R s m args c G M0 cX10_isLive yX10_isLive.cls 3 1 21) (hr : meth.sig.returnType = (some .boolean)) (hlk : meth.locks = false) (hnm : meth.name = "isLive") : ∀ {n : Nat} (v0 : Nat) (v1 : Int32) (v2 : Int32), f_X10_isLive_2 M n v0 v1 v2 = some rv → Sg p l e R s m args below meth c (Qm below G args s (some (.int rv)) M0 M) G M0 3 2 [(0, .ref (gB G + v0)), (1, .int v1), (2, .int v2)] [] M := by
  intro n
  induction n with
  | zero => intro v0 v1 v2 hf; exact (pk_none hf).elim
  | succ n ih =>
    intro v0 v1 v2 hf
    rw [f_X10_isLive_2] at hf
    refine s_iload_n X 2 dX10_isLive_2 rfl rfl ?_
    refine s_aload_n X 0 dX10_isLive_3 rfl rfl ?_
    obtain ⟨h1, hf⟩ := pk_chk hf
    obtain ⟨o2, e3, hf⟩ := pk_bnd hf
    obtain ⟨h4, hf⟩ := pk_chk hf
    refine s_getR X (ci := 10) (k := 0) rfl (Nat.le_of_ble_eq_true rfl) h1 wd1440 (fun _ _ _ => rfl) (e3 ▸ h4) dX10_isLive_4 (e3 ▸ ?_)
    refine s_iconst X (v := (0 : Int32)) dX10_isLive_7 rfl ?_
    obtain ⟨h5, hf⟩ := pk_chk hf
    refine s_iald X h4 h5 dX10_isLive_8 ?_
    have hs6 := pk_ite hf
    clear hf
    refine s_icmp_ge X (tgt := 32) dX10_isLive_9 rfl (fun c7 => ?_) (fun c7 => ?_)
    · have hf := hs6.1 c7
      refine s_iconst X (v := (0 : Int32)) dX10_isLive_32 rfl ?_
      cases hf
      exact s_zret X hr (bz_n (Or.inl rfl)) hlk dX10_isLive_33
    · have hf := hs6.2 c7
      refine s_aload_n X 0 dX10_isLive_12 rfl rfl ?_
      refine s_iload_n X 2 dX10_isLive_13 rfl rfl ?_
      obtain ⟨r9, hc8, hf⟩ := pk_obd hf
      refine s_callV X (ci := 10) (k_X10_baseOf G hc8) rfl h1 wd1558 wd1560 wd54 wd1561 wd138 cd_X10_baseOf ⟨Nat.le_of_ble_eq_true rfl, Nat.le_of_ble_eq_true rfl⟩ (Nat.le_of_ble_eq_true rfl) dX10_isLive_14 ?_
      refine s_iload_n X 1 dX10_isLive_17 rfl rfl ?_
      refine s_iconst X (v := (-1 : Int32)) dX10_isLive_18 rfl ?_
      refine s_ixor X dX10_isLive_19 ?_
      refine s_iand X dX10_isLive_20 ?_
      have hs10 := pk_ite hf
      clear hf
      refine s_if_ne X (tgt := 26) dX10_isLive_21 rfl (fun c11 => ?_) (fun c11 => ?_)
      · have hf := hs10.2 c11
        obtain ⟨x12, e13, hf⟩ := pk_bnd hf
        refine s_iinc X (vs' := [(0, .ref (gB G + v0)), (1, .int v1), (2, .int x12)]) 2 dX10_isLive_26 rfl (v := x12) e13.symm (Nat.le_of_ble_eq_true rfl) [1, 2, 0] rfl ?_
        refine s_goto X (tgt := 2) dX10_isLive_29 rfl ?_
        exact ih _ _ _ hf
      · have hf := hs10.1 c11
        refine s_iconst X (v := (1 : Int32)) dX10_isLive_24 rfl ?_
        cases hf
        exact s_zret X hr (bz_n (Or.inr rfl)) hlk dX10_isLive_25
end
theorem k_X10_isLive (G : Gam) {n : Nat} {o : Nat} {a1 : Int32} {M : Mem} {rv : Int32} (hf : f_X10_isLive n o a1 M = some rv) : Kt yX10_isLive cX10_isLive 3 (some .boolean) 1 21 G [.ref (gB G + o), .int a1] M M (some (.int rv)) := by
  refine Kt.of (by decide) (Nat.le_of_ble_eq_true rfl) ?_
  intro p l e R s m args below meth c X hr hlk hnm
  refine s_drop [0, 1] (vs' := [(0, .ref (gB G + o)), (1, .int a1)]) rfl ?_
  rw [f_X10_isLive] at hf
  refine s_iconst X (v := (0 : Int32)) dX10_isLive_0 rfl ?_
  refine s_istore_n X (vs' := [(0, .ref (gB G + o)), (1, .int a1), (2, .int (0 : Int32))]) dX10_isLive_1 rfl (Nat.le_of_ble_eq_true rfl) [1, 2, 0] rfl ?_
  exact l_X10_isLive_2 X hr hlk hnm _ _ _ hf
theorem dX10_pivotal_0 : decode cX10_pivotal 0 = .ok (.aload_n 0, 1) := dk_42 (by decide +kernel)
theorem dX10_pivotal_1 : decode cX10_pivotal 1 = .ok (.iload_n 1, 1) := dk_27 (by decide +kernel)
theorem dX10_pivotal_2 : decode cX10_pivotal 2 = .ok (.invokevirtual 76, 3) := dk_182 (x := 0) (y := 76) (by decide +kernel) rfl
theorem dX10_pivotal_5 : decode cX10_pivotal 5 = .ok (.ifCond .ne 5, 3) := dk_154 (x := 0) (y := 5) (by decide +kernel) rfl
theorem dX10_pivotal_8 : decode cX10_pivotal 8 = .ok (.iconst (-1), 1) := dk_2 (by decide +kernel)
theorem dX10_pivotal_9 : decode cX10_pivotal 9 = .ok (.ireturn, 1) := dk_172 (by decide +kernel)
theorem dX10_pivotal_10 : decode cX10_pivotal 10 = .ok (.iconst 0, 1) := dk_3 (by decide +kernel)
theorem dX10_pivotal_11 : decode cX10_pivotal 11 = .ok (.istore_n 2, 1) := dk_61 (by decide +kernel)
theorem dX10_pivotal_12 : decode cX10_pivotal 12 = .ok (.iconst 0, 1) := dk_3 (by decide +kernel)
theorem dX10_pivotal_13 : decode cX10_pivotal 13 = .ok (.istore_n 3, 1) := dk_62 (by decide +kernel)
theorem dX10_pivotal_14 : decode cX10_pivotal 14 = .ok (.iload_n 3, 1) := dk_29 (by decide +kernel)
theorem dX10_pivotal_15 : decode cX10_pivotal 15 = .ok (.aload_n 0, 1) := dk_42 (by decide +kernel)
theorem dX10_pivotal_16 : decode cX10_pivotal 16 = .ok (.invokevirtual 72, 3) := dk_182 (x := 0) (y := 72) (by decide +kernel) rfl
theorem dX10_pivotal_19 : decode cX10_pivotal 19 = .ok (.if_icmp .gt 45, 3) := dk_163 (x := 0) (y := 45) (by decide +kernel) rfl
theorem dX10_pivotal_22 : decode cX10_pivotal 22 = .ok (.iload_n 2, 1) := dk_28 (by decide +kernel)
theorem dX10_pivotal_23 : decode cX10_pivotal 23 = .ok (.iload_n 3, 1) := dk_29 (by decide +kernel)
theorem dX10_pivotal_24 : decode cX10_pivotal 24 = .ok (.iload_n 1, 1) := dk_27 (by decide +kernel)
theorem dX10_pivotal_25 : decode cX10_pivotal 25 = .ok (.invokestatic 45, 3) := dk_184 (x := 0) (y := 45) (by decide +kernel) rfl
theorem dX10_pivotal_28 : decode cX10_pivotal 28 = .ok (.ifCond .ne 27, 3) := dk_154 (x := 0) (y := 27) (by decide +kernel) rfl
theorem dX10_pivotal_31 : decode cX10_pivotal 31 = .ok (.aload_n 0, 1) := dk_42 (by decide +kernel)
theorem dX10_pivotal_32 : decode cX10_pivotal 32 = .ok (.iload_n 3, 1) := dk_29 (by decide +kernel)
theorem dX10_pivotal_33 : decode cX10_pivotal 33 = .ok (.invokevirtual 131, 3) := dk_182 (x := 0) (y := 131) (by decide +kernel) rfl
theorem dX10_pivotal_36 : decode cX10_pivotal 36 = .ok (.ifCond .ne 19, 3) := dk_154 (x := 0) (y := 19) (by decide +kernel) rfl
theorem dX10_pivotal_39 : decode cX10_pivotal 39 = .ok (.aload_n 0, 1) := dk_42 (by decide +kernel)
theorem dX10_pivotal_40 : decode cX10_pivotal 40 = .ok (.iload_n 3, 1) := dk_29 (by decide +kernel)
theorem dX10_pivotal_41 : decode cX10_pivotal 41 = .ok (.iconst 1, 1) := dk_4 (by decide +kernel)
theorem dX10_pivotal_42 : decode cX10_pivotal 42 = .ok (.iload_n 1, 1) := dk_27 (by decide +kernel)
theorem dX10_pivotal_43 : decode cX10_pivotal 43 = .ok (.ishl, 1) := dk_120 (by decide +kernel)
theorem dX10_pivotal_44 : decode cX10_pivotal 44 = .ok (.ior, 1) := dk_128 (by decide +kernel)
theorem dX10_pivotal_45 : decode cX10_pivotal 45 = .ok (.invokevirtual 131, 3) := dk_182 (x := 0) (y := 131) (by decide +kernel) rfl
theorem dX10_pivotal_48 : decode cX10_pivotal 48 = .ok (.ifCond .eq 7, 3) := dk_153 (x := 0) (y := 7) (by decide +kernel) rfl
theorem dX10_pivotal_51 : decode cX10_pivotal 51 = .ok (.iconst 1, 1) := dk_4 (by decide +kernel)
theorem dX10_pivotal_52 : decode cX10_pivotal 52 = .ok (.goto 4, 3) := dk_167 (x := 0) (y := 4) (by decide +kernel) rfl
theorem dX10_pivotal_55 : decode cX10_pivotal 55 = .ok (.iconst 0, 1) := dk_3 (by decide +kernel)
theorem dX10_pivotal_56 : decode cX10_pivotal 56 = .ok (.iadd, 1) := dk_96 (by decide +kernel)
theorem dX10_pivotal_57 : decode cX10_pivotal 57 = .ok (.istore_n 2, 1) := dk_61 (by decide +kernel)
theorem dX10_pivotal_58 : decode cX10_pivotal 58 = .ok (.iinc 3 1, 3) := dk_132 (x := 3) (y := 1) (by decide +kernel) rfl
theorem dX10_pivotal_61 : decode cX10_pivotal 61 = .ok (.goto (-47), 3) := dk_167 (x := 255) (y := 209) (by decide +kernel) rfl
theorem dX10_pivotal_64 : decode cX10_pivotal 64 = .ok (.iload_n 2, 1) := dk_28 (by decide +kernel)
theorem dX10_pivotal_65 : decode cX10_pivotal 65 = .ok (.ireturn, 1) := dk_172 (by decide +kernel)
def f_X10_pivotal_14 (M : Mem) : Nat → Nat → Int32 → Int32 → Int32 → Option Int32
  | 0, _, _, _, _ => none
  | n + 1, v0, v1, v2, v3 =>
    chk (isO M 10 v0) <|
    obd (f_X10_all v0 M) fun r3 =>
    if r3 < v3 then (
      some v2
      ) else (
      obd (f_X10_has v3 v1 M) fun r7 =>
      if r7 = 0 then (
        obd (f_X10_isLive n v0 v3 M) fun r15 =>
        if r15 = 0 then (
          obd (f_X10_isLive n v0 (v3 ||| ((1 : Int32) <<< (v1 &&& 31))) M) fun r23 =>
          if r23 = 0 then (
            bnd (v2 + (0 : Int32)) fun x26 =>
            bnd (v3 + (1 : Int32)) fun x28 =>
            f_X10_pivotal_14 M n v0 v1 x26 x28
            ) else (
            bnd (v2 + (1 : Int32)) fun x30 =>
            bnd (v3 + (1 : Int32)) fun x32 =>
            f_X10_pivotal_14 M n v0 v1 x30 x32
            )
          ) else (
          bnd (v2 + (0 : Int32)) fun x18 =>
          bnd (v3 + (1 : Int32)) fun x20 =>
          f_X10_pivotal_14 M n v0 v1 x18 x20
          )
        ) else (
        bnd (v2 + (0 : Int32)) fun x10 =>
        bnd (v3 + (1 : Int32)) fun x12 =>
        f_X10_pivotal_14 M n v0 v1 x10 x12
        )
      )
def f_X10_pivotal (n : Nat) (o : Nat) (a1 : Int32) (M : Mem) : Option Int32 :=
  chk (isO M 10 o) <|
  obd (f_X10_isNode o a1 M) fun r3 =>
  if r3 = 0 then (
    some (-1 : Int32)
    ) else (
    f_X10_pivotal_14 M n o a1 (0 : Int32) (0 : Int32)
    )
theorem cd_X10_pivotal : (yX10_pivotal.cls ≠ "java/lang/invoke/MethodHandle" ∧ yX10_pivotal.cls ≠ "java/lang/invoke/VarHandle") ∧ (parseMethodDescriptor yX10_pivotal.desc).map (fun d => d.parameters.length) = some 1 := ⟨⟨by decide +kernel, by decide +kernel⟩, by decide +kernel⟩
section
variable {p : Program} {l : Launch} {e : Env} {R : Room} {s : State} {m : MethodId} {args : Array Value} {below : List Frame} {meth : Method} {c : Code} {G : Gam} {M0 : Mem}
theorem l_X10_pivotal_14 {M : Mem} {rv : Int32} (X : Cx p R s m args c G M0 cX10_pivotal yX10_pivotal.cls 4 2 43) (hr : meth.sig.returnType = (some .int)) (hlk : meth.locks = false) (hnm : meth.name = "pivotal") : ∀ {n : Nat} (v0 : Nat) (v1 : Int32) (v2 : Int32) (v3 : Int32), f_X10_pivotal_14 M n v0 v1 v2 v3 = some rv → Sg p l e R s m args below meth c (Qm below G args s (some (.int rv)) M0 M) G M0 4 14 [(0, .ref (gB G + v0)), (1, .int v1), (2, .int v2), (3, .int v3)] [] M := by
  intro n
  induction n with
  | zero => intro v0 v1 v2 v3 hf; exact (pk_none hf).elim
  | succ n ih =>
    intro v0 v1 v2 v3 hf
    rw [f_X10_pivotal_14] at hf
    refine s_iload_n X 3 dX10_pivotal_14 rfl rfl ?_
    refine s_aload_n X 0 dX10_pivotal_15 rfl rfl ?_
    obtain ⟨h1, hf⟩ := pk_chk hf
    obtain ⟨r3, hc2, hf⟩ := pk_obd hf
    refine s_callV X (ci := 10) (k_X10_all G hc2) rfl h1 wd1542 wd1544 wd52 wd1545 wd138 cd_X10_all ⟨Nat.le_of_ble_eq_true rfl, Nat.le_of_ble_eq_true rfl⟩ (Nat.le_of_ble_eq_true rfl) dX10_pivotal_16 ?_
    have hs4 := pk_ite hf
    clear hf
    refine s_icmp_gt X (tgt := 64) dX10_pivotal_19 rfl (fun c5 => ?_) (fun c5 => ?_)
    · have hf := hs4.1 c5
      refine s_iload_n X 2 dX10_pivotal_64 rfl rfl ?_
      cases hf
      exact s_iret X hr hlk dX10_pivotal_65
    · have hf := hs4.2 c5
      refine s_iload_n X 2 dX10_pivotal_22 rfl rfl ?_
      refine s_iload_n X 3 dX10_pivotal_23 rfl rfl ?_
      refine s_iload_n X 1 dX10_pivotal_24 rfl rfl ?_
      obtain ⟨r7, hc6, hf⟩ := pk_obd hf
      refine s_callS X (k_X10_has G hc6) wd1565 wd1566 wd1567 wd138 cd_X10_has ⟨Nat.le_of_ble_eq_true rfl, Nat.le_of_ble_eq_true rfl⟩ (Nat.le_of_ble_eq_true rfl) dX10_pivotal_25 ?_
      have hs8 := pk_ite hf
      clear hf
      refine s_if_ne X (tgt := 55) dX10_pivotal_28 rfl (fun c9 => ?_) (fun c9 => ?_)
      · have hf := hs8.2 c9
        refine s_iconst X (v := (0 : Int32)) dX10_pivotal_55 rfl ?_
        refine s_iadd X dX10_pivotal_56 ?_
        obtain ⟨x10, e11, hf⟩ := pk_bnd hf
        refine s_nmI e11 ?_
        refine s_istore_n X (vs' := [(0, .ref (gB G + v0)), (1, .int v1), (2, .int x10), (3, .int v3)]) dX10_pivotal_57 rfl (Nat.le_of_ble_eq_true rfl) [1, 2, 0, 3] rfl ?_
        obtain ⟨x12, e13, hf⟩ := pk_bnd hf
        refine s_iinc X (vs' := [(0, .ref (gB G + v0)), (1, .int v1), (2, .int x10), (3, .int x12)]) 3 dX10_pivotal_58 rfl (v := x12) e13.symm (Nat.le_of_ble_eq_true rfl) [1, 2, 3, 0] rfl ?_
        refine s_goto X (tgt := 14) dX10_pivotal_61 rfl ?_
        exact ih _ _ _ _ hf
      · have hf := hs8.1 c9
        refine s_aload_n X 0 dX10_pivotal_31 rfl rfl ?_
        refine s_iload_n X 3 dX10_pivotal_32 rfl rfl ?_
        obtain ⟨r15, hc14, hf⟩ := pk_obd hf
        refine s_callV X (ci := 10) (k_X10_isLive G hc14) rfl h1 wd1663 wd1665 wd64 wd1666 wd138 cd_X10_isLive ⟨Nat.le_of_ble_eq_true rfl, Nat.le_of_ble_eq_true rfl⟩ (Nat.le_of_ble_eq_true rfl) dX10_pivotal_33 ?_
        have hs16 := pk_ite hf
        clear hf
        refine s_if_ne X (tgt := 55) dX10_pivotal_36 rfl (fun c17 => ?_) (fun c17 => ?_)
        · have hf := hs16.2 c17
          refine s_iconst X (v := (0 : Int32)) dX10_pivotal_55 rfl ?_
          refine s_iadd X dX10_pivotal_56 ?_
          obtain ⟨x18, e19, hf⟩ := pk_bnd hf
          refine s_nmI e19 ?_
          refine s_istore_n X (vs' := [(0, .ref (gB G + v0)), (1, .int v1), (2, .int x18), (3, .int v3)]) dX10_pivotal_57 rfl (Nat.le_of_ble_eq_true rfl) [1, 2, 0, 3] rfl ?_
          obtain ⟨x20, e21, hf⟩ := pk_bnd hf
          refine s_iinc X (vs' := [(0, .ref (gB G + v0)), (1, .int v1), (2, .int x18), (3, .int x20)]) 3 dX10_pivotal_58 rfl (v := x20) e21.symm (Nat.le_of_ble_eq_true rfl) [1, 2, 3, 0] rfl ?_
          refine s_goto X (tgt := 14) dX10_pivotal_61 rfl ?_
          exact ih _ _ _ _ hf
        · have hf := hs16.1 c17
          refine s_aload_n X 0 dX10_pivotal_39 rfl rfl ?_
          refine s_iload_n X 3 dX10_pivotal_40 rfl rfl ?_
          refine s_iconst X (v := (1 : Int32)) dX10_pivotal_41 rfl ?_
          refine s_iload_n X 1 dX10_pivotal_42 rfl rfl ?_
          refine s_ishl X dX10_pivotal_43 ?_
          refine s_ior X dX10_pivotal_44 ?_
          obtain ⟨r23, hc22, hf⟩ := pk_obd hf
          refine s_callV X (ci := 10) (k_X10_isLive G hc22) rfl h1 wd1663 wd1665 wd64 wd1666 wd138 cd_X10_isLive ⟨Nat.le_of_ble_eq_true rfl, Nat.le_of_ble_eq_true rfl⟩ (Nat.le_of_ble_eq_true rfl) dX10_pivotal_45 ?_
          have hs24 := pk_ite hf
          clear hf
          refine s_if_eq X (tgt := 55) dX10_pivotal_48 rfl (fun c25 => ?_) (fun c25 => ?_)
          · have hf := hs24.1 c25
            refine s_iconst X (v := (0 : Int32)) dX10_pivotal_55 rfl ?_
            refine s_iadd X dX10_pivotal_56 ?_
            obtain ⟨x26, e27, hf⟩ := pk_bnd hf
            refine s_nmI e27 ?_
            refine s_istore_n X (vs' := [(0, .ref (gB G + v0)), (1, .int v1), (2, .int x26), (3, .int v3)]) dX10_pivotal_57 rfl (Nat.le_of_ble_eq_true rfl) [1, 2, 0, 3] rfl ?_
            obtain ⟨x28, e29, hf⟩ := pk_bnd hf
            refine s_iinc X (vs' := [(0, .ref (gB G + v0)), (1, .int v1), (2, .int x26), (3, .int x28)]) 3 dX10_pivotal_58 rfl (v := x28) e29.symm (Nat.le_of_ble_eq_true rfl) [1, 2, 3, 0] rfl ?_
            refine s_goto X (tgt := 14) dX10_pivotal_61 rfl ?_
            exact ih _ _ _ _ hf
          · have hf := hs24.2 c25
            refine s_iconst X (v := (1 : Int32)) dX10_pivotal_51 rfl ?_
            refine s_goto X (tgt := 56) dX10_pivotal_52 rfl ?_
            refine s_iadd X dX10_pivotal_56 ?_
            obtain ⟨x30, e31, hf⟩ := pk_bnd hf
            refine s_nmI e31 ?_
            refine s_istore_n X (vs' := [(0, .ref (gB G + v0)), (1, .int v1), (2, .int x30), (3, .int v3)]) dX10_pivotal_57 rfl (Nat.le_of_ble_eq_true rfl) [1, 2, 0, 3] rfl ?_
            obtain ⟨x32, e33, hf⟩ := pk_bnd hf
            refine s_iinc X (vs' := [(0, .ref (gB G + v0)), (1, .int v1), (2, .int x30), (3, .int x32)]) 3 dX10_pivotal_58 rfl (v := x32) e33.symm (Nat.le_of_ble_eq_true rfl) [1, 2, 3, 0] rfl ?_
            refine s_goto X (tgt := 14) dX10_pivotal_61 rfl ?_
            exact ih _ _ _ _ hf
end
theorem k_X10_pivotal (G : Gam) {n : Nat} {o : Nat} {a1 : Int32} {M : Mem} {rv : Int32} (hf : f_X10_pivotal n o a1 M = some rv) : Kt yX10_pivotal cX10_pivotal 4 (some .int) 2 43 G [.ref (gB G + o), .int a1] M M (some (.int rv)) := by
  refine Kt.of (by decide) (Nat.le_of_ble_eq_true rfl) ?_
  intro p l e R s m args below meth c X hr hlk hnm
  refine s_drop [0, 1] (vs' := [(0, .ref (gB G + o)), (1, .int a1)]) rfl ?_
  rw [f_X10_pivotal] at hf
  refine s_aload_n X 0 dX10_pivotal_0 rfl rfl ?_
  refine s_iload_n X 1 dX10_pivotal_1 rfl rfl ?_
  obtain ⟨h1, hf⟩ := pk_chk hf
  obtain ⟨r3, hc2, hf⟩ := pk_obd hf
  refine s_callV X (ci := 10) (k_X10_isNode G hc2) rfl h1 wd1554 wd1556 wd53 wd1557 wd138 cd_X10_isNode ⟨Nat.le_of_ble_eq_true rfl, Nat.le_of_ble_eq_true rfl⟩ (Nat.le_of_ble_eq_true rfl) dX10_pivotal_2 ?_
  have hs4 := pk_ite hf
  clear hf
  refine s_if_ne X (tgt := 10) dX10_pivotal_5 rfl (fun c5 => ?_) (fun c5 => ?_)
  · have hf := hs4.2 c5
    refine s_iconst X (v := (0 : Int32)) dX10_pivotal_10 rfl ?_
    refine s_istore_n X (vs' := [(0, .ref (gB G + o)), (1, .int a1), (2, .int (0 : Int32))]) dX10_pivotal_11 rfl (Nat.le_of_ble_eq_true rfl) [1, 2, 0] rfl ?_
    refine s_iconst X (v := (0 : Int32)) dX10_pivotal_12 rfl ?_
    refine s_istore_n X (vs' := [(0, .ref (gB G + o)), (1, .int a1), (2, .int (0 : Int32)), (3, .int (0 : Int32))]) dX10_pivotal_13 rfl (Nat.le_of_ble_eq_true rfl) [1, 2, 3, 0] rfl ?_
    exact l_X10_pivotal_14 X hr hlk hnm _ _ _ _ hf
  · have hf := hs4.1 c5
    refine s_iconst X (v := (-1 : Int32)) dX10_pivotal_8 rfl ?_
    cases hf
    exact s_iret X hr hlk dX10_pivotal_9
theorem dX7_sameLoads_0 : decode cX7_sameLoads 0 = .ok (.iconst 1, 1) := dk_4 (by decide +kernel)
theorem dX7_sameLoads_1 : decode cX7_sameLoads 1 = .ok (.istore_n 1, 1) := dk_60 (by decide +kernel)
theorem dX7_sameLoads_2 : decode cX7_sameLoads 2 = .ok (.iload_n 1, 1) := dk_27 (by decide +kernel)
theorem dX7_sameLoads_3 : decode cX7_sameLoads 3 = .ok (.aload_n 0, 1) := dk_42 (by decide +kernel)
theorem dX7_sameLoads_4 : decode cX7_sameLoads 4 = .ok (.getfield 40, 3) := dk_180 (x := 0) (y := 40) (by decide +kernel) rfl
theorem dX7_sameLoads_7 : decode cX7_sameLoads 7 = .ok (.if_icmp .ge 24, 3) := dk_162 (x := 0) (y := 24) (by decide +kernel) rfl
theorem dX7_sameLoads_10 : decode cX7_sameLoads 10 = .ok (.aload_n 0, 1) := dk_42 (by decide +kernel)
theorem dX7_sameLoads_11 : decode cX7_sameLoads 11 = .ok (.iload_n 1, 1) := dk_27 (by decide +kernel)
theorem dX7_sameLoads_12 : decode cX7_sameLoads 12 = .ok (.invokevirtual 74, 3) := dk_182 (x := 0) (y := 74) (by decide +kernel) rfl
theorem dX7_sameLoads_15 : decode cX7_sameLoads 15 = .ok (.aload_n 0, 1) := dk_42 (by decide +kernel)
theorem dX7_sameLoads_16 : decode cX7_sameLoads 16 = .ok (.iconst 0, 1) := dk_3 (by decide +kernel)
theorem dX7_sameLoads_17 : decode cX7_sameLoads 17 = .ok (.invokevirtual 74, 3) := dk_182 (x := 0) (y := 74) (by decide +kernel) rfl
theorem dX7_sameLoads_20 : decode cX7_sameLoads 20 = .ok (.if_icmp .eq 5, 3) := dk_159 (x := 0) (y := 5) (by decide +kernel) rfl
theorem dX7_sameLoads_23 : decode cX7_sameLoads 23 = .ok (.iconst 0, 1) := dk_3 (by decide +kernel)
theorem dX7_sameLoads_24 : decode cX7_sameLoads 24 = .ok (.ireturn, 1) := dk_172 (by decide +kernel)
theorem dX7_sameLoads_25 : decode cX7_sameLoads 25 = .ok (.iinc 1 1, 3) := dk_132 (x := 1) (y := 1) (by decide +kernel) rfl
theorem dX7_sameLoads_28 : decode cX7_sameLoads 28 = .ok (.goto (-26), 3) := dk_167 (x := 255) (y := 230) (by decide +kernel) rfl
theorem dX7_sameLoads_31 : decode cX7_sameLoads 31 = .ok (.iconst 1, 1) := dk_4 (by decide +kernel)
theorem dX7_sameLoads_32 : decode cX7_sameLoads 32 = .ok (.ireturn, 1) := dk_172 (by decide +kernel)
def f_X7_sameLoads_2 (M : Mem) : Nat → Nat → Int32 → Option Int32
  | 0, _, _ => none
  | n + 1, v0, v1 =>
    chk (isO M 7 v0) <|
    if (mI M v0 3) ≤ v1 then (
      some (1 : Int32)
      ) else (
      obd (f_X7_loadOf n v0 v1 M) fun r5 =>
      obd (f_X7_loadOf n v0 (0 : Int32) M) fun r7 =>
      if r5 = r7 then (
        bnd (v1 + (1 : Int32)) fun x10 =>
        f_X7_sameLoads_2 M n v0 x10
        ) else (
        some (0 : Int32)
        )
      )
def f_X7_sameLoads (n : Nat) (o : Nat) (M : Mem) : Option Int32 :=
  f_X7_sameLoads_2 M n o (1 : Int32)
theorem cd_X7_sameLoads : (yX7_sameLoads.cls ≠ "java/lang/invoke/MethodHandle" ∧ yX7_sameLoads.cls ≠ "java/lang/invoke/VarHandle") ∧ (parseMethodDescriptor yX7_sameLoads.desc).map (fun d => d.parameters.length) = some 0 := ⟨⟨by decide +kernel, by decide +kernel⟩, by decide +kernel⟩
section
variable {p : Program} {l : Launch} {e : Env} {R : Room} {s : State} {m : MethodId} {args : Array Value} {below : List Frame} {meth : Method} {c : Code} {G : Gam} {M0 : Mem}
theorem l_X7_sameLoads_2 {M : Mem} {rv : Int32} (X : Cx p R s m args c G M0 cX7_sameLoads yX7_sameLoads.cls 2 2 44) (hr : meth.sig.returnType = (some .boolean)) (hlk : meth.locks = false) (hnm : meth.name = "sameLoads") : ∀ {n : Nat} (v0 : Nat) (v1 : Int32), f_X7_sameLoads_2 M n v0 v1 = some rv → Sg p l e R s m args below meth c (Qm below G args s (some (.int rv)) M0 M) G M0 2 2 [(0, .ref (gB G + v0)), (1, .int v1)] [] M := by
  intro n
  induction n with
  | zero => intro v0 v1 hf; exact (pk_none hf).elim
  | succ n ih =>
    intro v0 v1 hf
    rw [f_X7_sameLoads_2] at hf
    refine s_iload_n X 1 dX7_sameLoads_2 rfl rfl ?_
    refine s_aload_n X 0 dX7_sameLoads_3 rfl rfl ?_
    obtain ⟨h1, hf⟩ := pk_chk hf
    refine s_getI X (ci := 7) (k := 3) rfl (Nat.le_of_ble_eq_true rfl) h1 wd169 (fun _ _ _ => rfl) dX7_sameLoads_4 ?_
    have hs2 := pk_ite hf
    clear hf
    refine s_icmp_ge X (tgt := 31) dX7_sameLoads_7 rfl (fun c3 => ?_) (fun c3 => ?_)
    · have hf := hs2.1 c3
      refine s_iconst X (v := (1 : Int32)) dX7_sameLoads_31 rfl ?_
      cases hf
      exact s_zret X hr (bz_n (Or.inr rfl)) hlk dX7_sameLoads_32
    · have hf := hs2.2 c3
      refine s_aload_n X 0 dX7_sameLoads_10 rfl rfl ?_
      refine s_iload_n X 1 dX7_sameLoads_11 rfl rfl ?_
      obtain ⟨r5, hc4, hf⟩ := pk_obd hf
      refine s_callV X (ci := 7) (k_X7_loadOf G hc4) rfl h1 wd918 wd756 wd757 wd758 wd127 cd_X7_loadOf ⟨Nat.le_of_ble_eq_true rfl, Nat.le_of_ble_eq_true rfl⟩ (Nat.le_of_ble_eq_true rfl) dX7_sameLoads_12 ?_
      refine s_aload_n X 0 dX7_sameLoads_15 rfl rfl ?_
      refine s_iconst X (v := (0 : Int32)) dX7_sameLoads_16 rfl ?_
      obtain ⟨r7, hc6, hf⟩ := pk_obd hf
      refine s_callV X (ci := 7) (k_X7_loadOf G hc6) rfl h1 wd918 wd756 wd757 wd758 wd127 cd_X7_loadOf ⟨Nat.le_of_ble_eq_true rfl, Nat.le_of_ble_eq_true rfl⟩ (Nat.le_of_ble_eq_true rfl) dX7_sameLoads_17 ?_
      have hs8 := pk_ite hf
      clear hf
      refine s_icmp_eq X (tgt := 25) dX7_sameLoads_20 rfl (fun c9 => ?_) (fun c9 => ?_)
      · have hf := hs8.1 c9
        obtain ⟨x10, e11, hf⟩ := pk_bnd hf
        refine s_iinc X (vs' := [(0, .ref (gB G + v0)), (1, .int x10)]) 1 dX7_sameLoads_25 rfl (v := x10) e11.symm (Nat.le_of_ble_eq_true rfl) [1, 0] rfl ?_
        refine s_goto X (tgt := 2) dX7_sameLoads_28 rfl ?_
        exact ih _ _ hf
      · have hf := hs8.2 c9
        refine s_iconst X (v := (0 : Int32)) dX7_sameLoads_23 rfl ?_
        cases hf
        exact s_zret X hr (bz_n (Or.inl rfl)) hlk dX7_sameLoads_24
end
theorem k_X7_sameLoads (G : Gam) {n : Nat} {o : Nat} {M : Mem} {rv : Int32} (hf : f_X7_sameLoads n o M = some rv) : Kt yX7_sameLoads cX7_sameLoads 2 (some .boolean) 2 44 G [.ref (gB G + o)] M M (some (.int rv)) := by
  refine Kt.of (by decide) (Nat.le_of_ble_eq_true rfl) ?_
  intro p l e R s m args below meth c X hr hlk hnm
  refine s_drop [0] (vs' := [(0, .ref (gB G + o))]) rfl ?_
  rw [f_X7_sameLoads] at hf
  refine s_iconst X (v := (1 : Int32)) dX7_sameLoads_0 rfl ?_
  refine s_istore_n X (vs' := [(0, .ref (gB G + o)), (1, .int (1 : Int32))]) dX7_sameLoads_1 rfl (Nat.le_of_ble_eq_true rfl) [1, 0] rfl ?_
  exact l_X7_sameLoads_2 X hr hlk hnm _ _ hf
theorem dX9_fair_0 : decode cX9_fair 0 = .ok (.aload_n 0, 1) := dk_42 (by decide +kernel)
theorem dX9_fair_1 : decode cX9_fair 1 = .ok (.getfield 10, 3) := dk_180 (x := 0) (y := 10) (by decide +kernel) rfl
theorem dX9_fair_4 : decode cX9_fair 4 = .ok (.invokevirtual 146, 3) := dk_182 (x := 0) (y := 146) (by decide +kernel) rfl
theorem dX9_fair_7 : decode cX9_fair 7 = .ok (.aload_n 0, 1) := dk_42 (by decide +kernel)
theorem dX9_fair_8 : decode cX9_fair 8 = .ok (.getfield 10, 3) := dk_180 (x := 0) (y := 10) (by decide +kernel) rfl
theorem dX9_fair_11 : decode cX9_fair 11 = .ok (.invokevirtual 149, 3) := dk_182 (x := 0) (y := 149) (by decide +kernel) rfl
theorem dX9_fair_14 : decode cX9_fair 14 = .ok (.if_icmp .ne 17, 3) := dk_160 (x := 0) (y := 17) (by decide +kernel) rfl
theorem dX9_fair_17 : decode cX9_fair 17 = .ok (.aload_n 0, 1) := dk_42 (by decide +kernel)
theorem dX9_fair_18 : decode cX9_fair 18 = .ok (.getfield 10, 3) := dk_180 (x := 0) (y := 10) (by decide +kernel) rfl
theorem dX9_fair_21 : decode cX9_fair 21 = .ok (.invokevirtual 161, 3) := dk_182 (x := 0) (y := 161) (by decide +kernel) rfl
theorem dX9_fair_24 : decode cX9_fair 24 = .ok (.ifCond .eq 7, 3) := dk_153 (x := 0) (y := 7) (by decide +kernel) rfl
theorem dX9_fair_27 : decode cX9_fair 27 = .ok (.iconst 1, 1) := dk_4 (by decide +kernel)
theorem dX9_fair_28 : decode cX9_fair 28 = .ok (.goto 4, 3) := dk_167 (x := 0) (y := 4) (by decide +kernel) rfl
theorem dX9_fair_31 : decode cX9_fair 31 = .ok (.iconst 0, 1) := dk_3 (by decide +kernel)
theorem dX9_fair_32 : decode cX9_fair 32 = .ok (.ireturn, 1) := dk_172 (by decide +kernel)
def f_X9_fair (n : Nat) (o : Nat) (M : Mem) : Option Int32 :=
  chk (isO M 9 o) <|
  bnd (mR M o 0) fun o2 =>
  chk (isO M 7 o2) <|
  obd (f_X7_leastSize n o2 M) fun r6 =>
  bnd (mR M o 0) fun o7 =>
  chk (isO M 7 o7) <|
  obd (f_X7_greatestSize n o7 M) fun r11 =>
  if r6 = r11 then (
    bnd (mR M o 0) fun o14 =>
    chk (isO M 7 o14) <|
    obd (f_X7_sameLoads n o14 M) fun r18 =>
    if r18 = 0 then (
      some (0 : Int32)
      ) else (
      some (1 : Int32)
      )
    ) else (
    some (0 : Int32)
    )
theorem cd_X9_fair : (yX9_fair.cls ≠ "java/lang/invoke/MethodHandle" ∧ yX9_fair.cls ≠ "java/lang/invoke/VarHandle") ∧ (parseMethodDescriptor yX9_fair.desc).map (fun d => d.parameters.length) = some 0 := ⟨⟨by decide +kernel, by decide +kernel⟩, by decide +kernel⟩
theorem k_X9_fair (G : Gam) {n : Nat} {o : Nat} {M : Mem} {rv : Int32} (hf : f_X9_fair n o M = some rv) : Kt yX9_fair cX9_fair 1 (some .boolean) 3 65 G [.ref (gB G + o)] M M (some (.int rv)) := by
  refine Kt.of (by decide) (Nat.le_of_ble_eq_true rfl) ?_
  intro p l e R s m args below meth c X hr hlk hnm
  refine s_drop [0] (vs' := [(0, .ref (gB G + o))]) rfl ?_
  rw [f_X9_fair] at hf
  refine s_aload_n X 0 dX9_fair_0 rfl rfl ?_
  obtain ⟨h1, hf⟩ := pk_chk hf
  obtain ⟨o2, e3, hf⟩ := pk_bnd hf
  obtain ⟨h4, hf⟩ := pk_chk hf
  refine s_getR X (ci := 9) (k := 0) rfl (Nat.le_of_ble_eq_true rfl) h1 wd627 (fun _ _ _ => rfl) (e3 ▸ h4) dX9_fair_1 (e3 ▸ ?_)
  obtain ⟨r6, hc5, hf⟩ := pk_obd hf
  refine s_callV X (ci := 7) (k_X7_leastSize G hc5) rfl h4 wd883 wd884 wd885 wd886 wd127 cd_X7_leastSize ⟨Nat.le_of_ble_eq_true rfl, Nat.le_of_ble_eq_true rfl⟩ (Nat.le_of_ble_eq_true rfl) dX9_fair_4 ?_
  refine s_aload_n X 0 dX9_fair_7 rfl rfl ?_
  obtain ⟨o7, e8, hf⟩ := pk_bnd hf
  obtain ⟨h9, hf⟩ := pk_chk hf
  refine s_getR X (ci := 9) (k := 0) rfl (Nat.le_of_ble_eq_true rfl) h1 wd627 (fun _ _ _ => rfl) (e8 ▸ h9) dX9_fair_8 (e8 ▸ ?_)
  obtain ⟨r11, hc10, hf⟩ := pk_obd hf
  refine s_callV X (ci := 7) (k_X7_greatestSize G hc10) rfl h9 wd891 wd892 wd893 wd894 wd127 cd_X7_greatestSize ⟨Nat.le_of_ble_eq_true rfl, Nat.le_of_ble_eq_true rfl⟩ (Nat.le_of_ble_eq_true rfl) dX9_fair_11 ?_
  have hs12 := pk_ite hf
  clear hf
  refine s_icmp_ne X (tgt := 31) dX9_fair_14 rfl (fun c13 => ?_) (fun c13 => ?_)
  · have hf := hs12.2 c13
    refine s_iconst X (v := (0 : Int32)) dX9_fair_31 rfl ?_
    cases hf
    exact s_zret X hr (bz_n (Or.inl rfl)) hlk dX9_fair_32
  · have hf := hs12.1 c13
    refine s_aload_n X 0 dX9_fair_17 rfl rfl ?_
    obtain ⟨o14, e15, hf⟩ := pk_bnd hf
    obtain ⟨h16, hf⟩ := pk_chk hf
    refine s_getR X (ci := 9) (k := 0) rfl (Nat.le_of_ble_eq_true rfl) h1 wd627 (fun _ _ _ => rfl) (e15 ▸ h16) dX9_fair_18 (e15 ▸ ?_)
    obtain ⟨r18, hc17, hf⟩ := pk_obd hf
    refine s_callV X (ci := 7) (k_X7_sameLoads G hc17) rfl h16 wd914 wd915 wd916 wd917 wd127 cd_X7_sameLoads ⟨Nat.le_of_ble_eq_true rfl, Nat.le_of_ble_eq_true rfl⟩ (Nat.le_of_ble_eq_true rfl) dX9_fair_21 ?_
    have hs19 := pk_ite hf
    clear hf
    refine s_if_eq X (tgt := 31) dX9_fair_24 rfl (fun c20 => ?_) (fun c20 => ?_)
    · have hf := hs19.1 c20
      refine s_iconst X (v := (0 : Int32)) dX9_fair_31 rfl ?_
      cases hf
      exact s_zret X hr (bz_n (Or.inl rfl)) hlk dX9_fair_32
    · have hf := hs19.2 c20
      refine s_iconst X (v := (1 : Int32)) dX9_fair_27 rfl ?_
      refine s_goto X (tgt := 32) dX9_fair_28 rfl ?_
      cases hf
      exact s_zret X hr (bz_n (Or.inr rfl)) hlk dX9_fair_32
theorem dX10_fair_0 : decode cX10_fair 0 = .ok (.iconst 1, 1) := dk_4 (by decide +kernel)
theorem dX10_fair_1 : decode cX10_fair 1 = .ok (.istore_n 1, 1) := dk_60 (by decide +kernel)
theorem dX10_fair_2 : decode cX10_fair 2 = .ok (.iload_n 1, 1) := dk_27 (by decide +kernel)
theorem dX10_fair_3 : decode cX10_fair 3 = .ok (.aload_n 0, 1) := dk_42 (by decide +kernel)
theorem dX10_fair_4 : decode cX10_fair 4 = .ok (.getfield 7, 3) := dk_180 (x := 0) (y := 7) (by decide +kernel) rfl
theorem dX10_fair_7 : decode cX10_fair 7 = .ok (.iconst 0, 1) := dk_3 (by decide +kernel)
theorem dX10_fair_8 : decode cX10_fair 8 = .ok (.iaload, 1) := dk_46 (by decide +kernel)
theorem dX10_fair_9 : decode cX10_fair 9 = .ok (.if_icmp .ge 43, 3) := dk_162 (x := 0) (y := 43) (by decide +kernel) rfl
theorem dX10_fair_12 : decode cX10_fair 12 = .ok (.aload_n 0, 1) := dk_42 (by decide +kernel)
theorem dX10_fair_13 : decode cX10_fair 13 = .ok (.iload_n 1, 1) := dk_27 (by decide +kernel)
theorem dX10_fair_14 : decode cX10_fair 14 = .ok (.invokevirtual 80, 3) := dk_182 (x := 0) (y := 80) (by decide +kernel) rfl
theorem dX10_fair_17 : decode cX10_fair 17 = .ok (.invokestatic 111, 3) := dk_184 (x := 0) (y := 111) (by decide +kernel) rfl
theorem dX10_fair_20 : decode cX10_fair 20 = .ok (.aload_n 0, 1) := dk_42 (by decide +kernel)
theorem dX10_fair_21 : decode cX10_fair 21 = .ok (.iconst 0, 1) := dk_3 (by decide +kernel)
theorem dX10_fair_22 : decode cX10_fair 22 = .ok (.invokevirtual 80, 3) := dk_182 (x := 0) (y := 80) (by decide +kernel) rfl
theorem dX10_fair_25 : decode cX10_fair 25 = .ok (.invokestatic 111, 3) := dk_184 (x := 0) (y := 111) (by decide +kernel) rfl
theorem dX10_fair_28 : decode cX10_fair 28 = .ok (.if_icmp .ne 16, 3) := dk_160 (x := 0) (y := 16) (by decide +kernel) rfl
theorem dX10_fair_31 : decode cX10_fair 31 = .ok (.aload_n 0, 1) := dk_42 (by decide +kernel)
theorem dX10_fair_32 : decode cX10_fair 32 = .ok (.iload_n 1, 1) := dk_27 (by decide +kernel)
theorem dX10_fair_33 : decode cX10_fair 33 = .ok (.invokevirtual 134, 3) := dk_182 (x := 0) (y := 134) (by decide +kernel) rfl
theorem dX10_fair_36 : decode cX10_fair 36 = .ok (.aload_n 0, 1) := dk_42 (by decide +kernel)
theorem dX10_fair_37 : decode cX10_fair 37 = .ok (.iconst 0, 1) := dk_3 (by decide +kernel)
theorem dX10_fair_38 : decode cX10_fair 38 = .ok (.invokevirtual 134, 3) := dk_182 (x := 0) (y := 134) (by decide +kernel) rfl
theorem dX10_fair_41 : decode cX10_fair 41 = .ok (.if_icmp .eq 5, 3) := dk_159 (x := 0) (y := 5) (by decide +kernel) rfl
theorem dX10_fair_44 : decode cX10_fair 44 = .ok (.iconst 0, 1) := dk_3 (by decide +kernel)
theorem dX10_fair_45 : decode cX10_fair 45 = .ok (.ireturn, 1) := dk_172 (by decide +kernel)
theorem dX10_fair_46 : decode cX10_fair 46 = .ok (.iinc 1 1, 3) := dk_132 (x := 1) (y := 1) (by decide +kernel) rfl
theorem dX10_fair_49 : decode cX10_fair 49 = .ok (.goto (-47), 3) := dk_167 (x := 255) (y := 209) (by decide +kernel) rfl
theorem dX10_fair_52 : decode cX10_fair 52 = .ok (.iconst 1, 1) := dk_4 (by decide +kernel)
theorem dX10_fair_53 : decode cX10_fair 53 = .ok (.ireturn, 1) := dk_172 (by decide +kernel)
def f_X10_fair_2 (M : Mem) : Nat → Nat → Int32 → Option Int32
  | 0, _, _ => none
  | n + 1, v0, v1 =>
    chk (isO M 10 v0) <|
    bnd (mR M v0 0) fun o2 =>
    chk (isO M 100 o2) <|
    chk (inB (0 : Int32) (mLn M o2)) <|
    if (mI M o2 ((0 : Int32)).toNatClampNeg) ≤ v1 then (
      some (1 : Int32)
      ) else (
      obd (f_X10_baseOf v0 v1 M) fun r9 =>
      obd (f_X10_many n r9 M) fun r11 =>
      obd (f_X10_baseOf v0 (0 : Int32) M) fun r13 =>
      obd (f_X10_many n r13 M) fun r15 =>
      if r11 = r15 then (
        obd (f_X10_load n v0 v1 M) fun r19 =>
        obd (f_X10_load n v0 (0 : Int32) M) fun r21 =>
        if r19 = r21 then (
          bnd (v1 + (1 : Int32)) fun x24 =>
          f_X10_fair_2 M n v0 x24
          ) else (
          some (0 : Int32)
          )
        ) else (
        some (0 : Int32)
        )
      )
def f_X10_fair (n : Nat) (o : Nat) (M : Mem) : Option Int32 :=
  f_X10_fair_2 M n o (1 : Int32)
theorem cd_X10_fair : (yX10_fair.cls ≠ "java/lang/invoke/MethodHandle" ∧ yX10_fair.cls ≠ "java/lang/invoke/VarHandle") ∧ (parseMethodDescriptor yX10_fair.desc).map (fun d => d.parameters.length) = some 0 := ⟨⟨by decide +kernel, by decide +kernel⟩, by decide +kernel⟩
section
variable {p : Program} {l : Launch} {e : Env} {R : Room} {s : State} {m : MethodId} {args : Array Value} {below : List Frame} {meth : Method} {c : Code} {G : Gam} {M0 : Mem}
theorem l_X10_fair_2 {M : Mem} {rv : Int32} (X : Cx p R s m args c G M0 cX10_fair yX10_fair.cls 2 3 66) (hr : meth.sig.returnType = (some .boolean)) (hlk : meth.locks = false) (hnm : meth.name = "fair") : ∀ {n : Nat} (v0 : Nat) (v1 : Int32), f_X10_fair_2 M n v0 v1 = some rv → Sg p l e R s m args below meth c (Qm below G args s (some (.int rv)) M0 M) G M0 2 2 [(0, .ref (gB G + v0)), (1, .int v1)] [] M := by
  intro n
  induction n with
  | zero => intro v0 v1 hf; exact (pk_none hf).elim
  | succ n ih =>
    intro v0 v1 hf
    rw [f_X10_fair_2] at hf
    refine s_iload_n X 1 dX10_fair_2 rfl rfl ?_
    refine s_aload_n X 0 dX10_fair_3 rfl rfl ?_
    obtain ⟨h1, hf⟩ := pk_chk hf
    obtain ⟨o2, e3, hf⟩ := pk_bnd hf
    obtain ⟨h4, hf⟩ := pk_chk hf
    refine s_getR X (ci := 10) (k := 0) rfl (Nat.le_of_ble_eq_true rfl) h1 wd1440 (fun _ _ _ => rfl) (e3 ▸ h4) dX10_fair_4 (e3 ▸ ?_)
    refine s_iconst X (v := (0 : Int32)) dX10_fair_7 rfl ?_
    obtain ⟨h5, hf⟩ := pk_chk hf
    refine s_iald X h4 h5 dX10_fair_8 ?_
    have hs6 := pk_ite hf
    clear hf
    refine s_icmp_ge X (tgt := 52) dX10_fair_9 rfl (fun c7 => ?_) (fun c7 => ?_)
    · have hf := hs6.1 c7
      refine s_iconst X (v := (1 : Int32)) dX10_fair_52 rfl ?_
      cases hf
      exact s_zret X hr (bz_n (Or.inr rfl)) hlk dX10_fair_53
    · have hf := hs6.2 c7
      refine s_aload_n X 0 dX10_fair_12 rfl rfl ?_
      refine s_iload_n X 1 dX10_fair_13 rfl rfl ?_
      obtain ⟨r9, hc8, hf⟩ := pk_obd hf
      refine s_callV X (ci := 10) (k_X10_baseOf G hc8) rfl h1 wd1558 wd1560 wd54 wd1561 wd138 cd_X10_baseOf ⟨Nat.le_of_ble_eq_true rfl, Nat.le_of_ble_eq_true rfl⟩ (Nat.le_of_ble_eq_true rfl) dX10_fair_14 ?_
      obtain ⟨r11, hc10, hf⟩ := pk_obd hf
      refine s_callS X (k_X10_many G hc10) wd1624 wd1625 wd1626 wd138 cd_X10_many ⟨Nat.le_of_ble_eq_true rfl, Nat.le_of_ble_eq_true rfl⟩ (Nat.le_of_ble_eq_true rfl) dX10_fair_17 ?_
      refine s_aload_n X 0 dX10_fair_20 rfl rfl ?_
      refine s_iconst X (v := (0 : Int32)) dX10_fair_21 rfl ?_
      obtain ⟨r13, hc12, hf⟩ := pk_obd hf
      refine s_callV X (ci := 10) (k_X10_baseOf G hc12) rfl h1 wd1558 wd1560 wd54 wd1561 wd138 cd_X10_baseOf ⟨Nat.le_of_ble_eq_true rfl, Nat.le_of_ble_eq_true rfl⟩ (Nat.le_of_ble_eq_true rfl) dX10_fair_22 ?_
      obtain ⟨r15, hc14, hf⟩ := pk_obd hf
      refine s_callS X (k_X10_many G hc14) wd1624 wd1625 wd1626 wd138 cd_X10_many ⟨Nat.le_of_ble_eq_true rfl, Nat.le_of_ble_eq_true rfl⟩ (Nat.le_of_ble_eq_true rfl) dX10_fair_25 ?_
      have hs16 := pk_ite hf
      clear hf
      refine s_icmp_ne X (tgt := 44) dX10_fair_28 rfl (fun c17 => ?_) (fun c17 => ?_)
      · have hf := hs16.2 c17
        refine s_iconst X (v := (0 : Int32)) dX10_fair_44 rfl ?_
        cases hf
        exact s_zret X hr (bz_n (Or.inl rfl)) hlk dX10_fair_45
      · have hf := hs16.1 c17
        refine s_aload_n X 0 dX10_fair_31 rfl rfl ?_
        refine s_iload_n X 1 dX10_fair_32 rfl rfl ?_
        obtain ⟨r19, hc18, hf⟩ := pk_obd hf
        refine s_callV X (ci := 10) (k_X10_load G hc18) rfl h1 wd1671 wd1609 wd1610 wd1611 wd138 cd_X10_load ⟨Nat.le_of_ble_eq_true rfl, Nat.le_of_ble_eq_true rfl⟩ (Nat.le_of_ble_eq_true rfl) dX10_fair_33 ?_
        refine s_aload_n X 0 dX10_fair_36 rfl rfl ?_
        refine s_iconst X (v := (0 : Int32)) dX10_fair_37 rfl ?_
        obtain ⟨r21, hc20, hf⟩ := pk_obd hf
        refine s_callV X (ci := 10) (k_X10_load G hc20) rfl h1 wd1671 wd1609 wd1610 wd1611 wd138 cd_X10_load ⟨Nat.le_of_ble_eq_true rfl, Nat.le_of_ble_eq_true rfl⟩ (Nat.le_of_ble_eq_true rfl) dX10_fair_38 ?_
        have hs22 := pk_ite hf
        clear hf
        refine s_icmp_eq X (tgt := 46) dX10_fair_41 rfl (fun c23 => ?_) (fun c23 => ?_)
        · have hf := hs22.1 c23
          obtain ⟨x24, e25, hf⟩ := pk_bnd hf
          refine s_iinc X (vs' := [(0, .ref (gB G + v0)), (1, .int x24)]) 1 dX10_fair_46 rfl (v := x24) e25.symm (Nat.le_of_ble_eq_true rfl) [1, 0] rfl ?_
          refine s_goto X (tgt := 2) dX10_fair_49 rfl ?_
          exact ih _ _ hf
        · have hf := hs22.2 c23
          refine s_iconst X (v := (0 : Int32)) dX10_fair_44 rfl ?_
          cases hf
          exact s_zret X hr (bz_n (Or.inl rfl)) hlk dX10_fair_45
end
theorem k_X10_fair (G : Gam) {n : Nat} {o : Nat} {M : Mem} {rv : Int32} (hf : f_X10_fair n o M = some rv) : Kt yX10_fair cX10_fair 2 (some .boolean) 3 66 G [.ref (gB G + o)] M M (some (.int rv)) := by
  refine Kt.of (by decide) (Nat.le_of_ble_eq_true rfl) ?_
  intro p l e R s m args below meth c X hr hlk hnm
  refine s_drop [0] (vs' := [(0, .ref (gB G + o))]) rfl ?_
  rw [f_X10_fair] at hf
  refine s_iconst X (v := (1 : Int32)) dX10_fair_0 rfl ?_
  refine s_istore_n X (vs' := [(0, .ref (gB G + o)), (1, .int (1 : Int32))]) dX10_fair_1 rfl (Nat.le_of_ble_eq_true rfl) [1, 0] rfl ?_
  exact l_X10_fair_2 X hr hlk hnm _ _ hf
theorem dX1_leastBetter_0 : decode cX1_leastBetter 0 = .ok (.iconst 0, 1) := dk_3 (by decide +kernel)
theorem dX1_leastBetter_1 : decode cX1_leastBetter 1 = .ok (.istore_n 1, 1) := dk_60 (by decide +kernel)
theorem dX1_leastBetter_2 : decode cX1_leastBetter 2 = .ok (.iload_n 1, 1) := dk_27 (by decide +kernel)
theorem dX1_leastBetter_3 : decode cX1_leastBetter 3 = .ok (.aload_n 0, 1) := dk_42 (by decide +kernel)
theorem dX1_leastBetter_4 : decode cX1_leastBetter 4 = .ok (.getfield 19, 3) := dk_180 (x := 0) (y := 19) (by decide +kernel) rfl
theorem dX1_leastBetter_7 : decode cX1_leastBetter 7 = .ok (.if_icmp .ge 42, 3) := dk_162 (x := 0) (y := 42) (by decide +kernel) rfl
theorem dX1_leastBetter_10 : decode cX1_leastBetter 10 = .ok (.aload_n 0, 1) := dk_42 (by decide +kernel)
theorem dX1_leastBetter_11 : decode cX1_leastBetter 11 = .ok (.getfield 11, 3) := dk_180 (x := 0) (y := 11) (by decide +kernel) rfl
theorem dX1_leastBetter_14 : decode cX1_leastBetter 14 = .ok (.iload_n 1, 1) := dk_27 (by decide +kernel)
theorem dX1_leastBetter_15 : decode cX1_leastBetter 15 = .ok (.laload, 1) := dk_47 (by decide +kernel)
theorem dX1_leastBetter_16 : decode cX1_leastBetter 16 = .ok (.ldc2_w 31, 3) := dk_20 (x := 0) (y := 31) (by decide +kernel) rfl
theorem dX1_leastBetter_19 : decode cX1_leastBetter 19 = .ok (.lxor, 1) := dk_131 (by decide +kernel)
theorem dX1_leastBetter_20 : decode cX1_leastBetter 20 = .ok (.aload_n 0, 1) := dk_42 (by decide +kernel)
theorem dX1_leastBetter_21 : decode cX1_leastBetter 21 = .ok (.iload_n 1, 1) := dk_27 (by decide +kernel)
theorem dX1_leastBetter_22 : decode cX1_leastBetter 22 = .ok (.invokevirtual 33, 3) := dk_182 (x := 0) (y := 33) (by decide +kernel) rfl
theorem dX1_leastBetter_25 : decode cX1_leastBetter 25 = .ok (.land, 1) := dk_127 (by decide +kernel)
theorem dX1_leastBetter_26 : decode cX1_leastBetter 26 = .ok (.lstore_n 2, 1) := dk_65 (by decide +kernel)
theorem dX1_leastBetter_27 : decode cX1_leastBetter 27 = .ok (.lload_n 2, 1) := dk_32 (by decide +kernel)
theorem dX1_leastBetter_28 : decode cX1_leastBetter 28 = .ok (.lconst 0, 1) := dk_9 (by decide +kernel)
theorem dX1_leastBetter_29 : decode cX1_leastBetter 29 = .ok (.lcmp, 1) := dk_148 (by decide +kernel)
theorem dX1_leastBetter_30 : decode cX1_leastBetter 30 = .ok (.ifCond .eq 13, 3) := dk_153 (x := 0) (y := 13) (by decide +kernel) rfl
theorem dX1_leastBetter_33 : decode cX1_leastBetter 33 = .ok (.iload_n 1, 1) := dk_27 (by decide +kernel)
theorem dX1_leastBetter_34 : decode cX1_leastBetter 34 = .ok (.bipush 6, 2) := dk_16 (x := 6) (by decide +kernel) rfl
theorem dX1_leastBetter_36 : decode cX1_leastBetter 36 = .ok (.ishl, 1) := dk_120 (by decide +kernel)
theorem dX1_leastBetter_37 : decode cX1_leastBetter 37 = .ok (.lload_n 2, 1) := dk_32 (by decide +kernel)
theorem dX1_leastBetter_38 : decode cX1_leastBetter 38 = .ok (.invokestatic 46, 3) := dk_184 (x := 0) (y := 46) (by decide +kernel) rfl
theorem dX1_leastBetter_41 : decode cX1_leastBetter 41 = .ok (.ior, 1) := dk_128 (by decide +kernel)
theorem dX1_leastBetter_42 : decode cX1_leastBetter 42 = .ok (.ireturn, 1) := dk_172 (by decide +kernel)
theorem dX1_leastBetter_43 : decode cX1_leastBetter 43 = .ok (.iinc 1 1, 3) := dk_132 (x := 1) (y := 1) (by decide +kernel) rfl
theorem dX1_leastBetter_46 : decode cX1_leastBetter 46 = .ok (.goto (-44), 3) := dk_167 (x := 255) (y := 212) (by decide +kernel) rfl
theorem dX1_leastBetter_49 : decode cX1_leastBetter 49 = .ok (.iconst (-1), 1) := dk_2 (by decide +kernel)
theorem dX1_leastBetter_50 : decode cX1_leastBetter 50 = .ok (.ireturn, 1) := dk_172 (by decide +kernel)
def f_X1_leastBetter_2 (M : Mem) : Nat → Nat → Int32 → Option Int32
  | 0, _, _ => none
  | n + 1, v0, v1 =>
    chk (isO M 1 v0) <|
    if (mI M v0 2) ≤ v1 then (
      some (-1 : Int32)
      ) else (
      bnd (mR M v0 0) fun o4 =>
      chk (isO M 101 o4) <|
      chk (inB v1 (mLn M o4)) <|
      obd (f_X1_withoutRest n v0 v1 M) fun r9 =>
      bnd (((mL M o4 (v1).toNatClampNeg) ^^^ (-1 : Int64)) &&& r9) fun x10 =>
      if (lg_cmp x10 (0 : Int64)) = 0 then (
        bnd (v1 + (1 : Int32)) fun x14 =>
        f_X1_leastBetter_2 M n v0 x14
        ) else (
        obd (f_X9_lowest x10 M) fun r17 =>
        some ((v1 <<< ((6 : Int32) &&& 31)) ||| r17)
        )
      )
def f_X1_leastBetter (n : Nat) (o : Nat) (M : Mem) : Option Int32 :=
  f_X1_leastBetter_2 M n o (0 : Int32)
theorem cd_X1_leastBetter : (yX1_leastBetter.cls ≠ "java/lang/invoke/MethodHandle" ∧ yX1_leastBetter.cls ≠ "java/lang/invoke/VarHandle") ∧ (parseMethodDescriptor yX1_leastBetter.desc).map (fun d => d.parameters.length) = some 0 := ⟨⟨by decide +kernel, by decide +kernel⟩, by decide +kernel⟩
section
variable {p : Program} {l : Launch} {e : Env} {R : Room} {s : State} {m : MethodId} {args : Array Value} {below : List Frame} {meth : Method} {c : Code} {G : Gam} {M0 : Mem}
theorem l_X1_leastBetter_2 {M : Mem} {rv : Int32} (X : Cx p R s m args c G M0 cX1_leastBetter yX1_leastBetter.cls 4 2 42) (hr : meth.sig.returnType = (some .int)) (hlk : meth.locks = false) (hnm : meth.name = "leastBetter") : ∀ {n : Nat} (v0 : Nat) (v1 : Int32), f_X1_leastBetter_2 M n v0 v1 = some rv → Sg p l e R s m args below meth c (Qm below G args s (some (.int rv)) M0 M) G M0 4 2 [(0, .ref (gB G + v0)), (1, .int v1)] [] M := by
  intro n
  induction n with
  | zero => intro v0 v1 hf; exact (pk_none hf).elim
  | succ n ih =>
    intro v0 v1 hf
    rw [f_X1_leastBetter_2] at hf
    refine s_iload_n X 1 dX1_leastBetter_2 rfl rfl ?_
    refine s_aload_n X 0 dX1_leastBetter_3 rfl rfl ?_
    obtain ⟨h1, hf⟩ := pk_chk hf
    refine s_getI X (ci := 1) (k := 2) rfl (Nat.le_of_ble_eq_true rfl) h1 wd199 (fun _ _ _ => rfl) dX1_leastBetter_4 ?_
    have hs2 := pk_ite hf
    clear hf
    refine s_icmp_ge X (tgt := 49) dX1_leastBetter_7 rfl (fun c3 => ?_) (fun c3 => ?_)
    · have hf := hs2.1 c3
      refine s_iconst X (v := (-1 : Int32)) dX1_leastBetter_49 rfl ?_
      cases hf
      exact s_iret X hr hlk dX1_leastBetter_50
    · have hf := hs2.2 c3
      refine s_aload_n X 0 dX1_leastBetter_10 rfl rfl ?_
      obtain ⟨o4, e5, hf⟩ := pk_bnd hf
      obtain ⟨h6, hf⟩ := pk_chk hf
      refine s_getR X (ci := 1) (k := 0) rfl (Nat.le_of_ble_eq_true rfl) h1 wd197 (fun _ _ _ => rfl) (e5 ▸ h6) dX1_leastBetter_11 (e5 ▸ ?_)
      refine s_iload_n X 1 dX1_leastBetter_14 rfl rfl ?_
      obtain ⟨h7, hf⟩ := pk_chk hf
      refine s_lald X h6 h7 dX1_leastBetter_15 ?_
      refine s_ldc2 X (v := (-1 : Int64)) dX1_leastBetter_16 wd821 ?_
      refine s_lxor X dX1_leastBetter_19 ?_
      refine s_aload_n X 0 dX1_leastBetter_20 rfl rfl ?_
      refine s_iload_n X 1 dX1_leastBetter_21 rfl rfl ?_
      obtain ⟨r9, hc8, hf⟩ := pk_obd hf
      refine s_callV X (ci := 1) (k_X1_withoutRest G hc8) rfl h1 wd826 wd828 wd9 wd829 wd129 cd_X1_withoutRest ⟨Nat.le_of_ble_eq_true rfl, Nat.le_of_ble_eq_true rfl⟩ (Nat.le_of_ble_eq_true rfl) dX1_leastBetter_22 ?_
      refine s_land X dX1_leastBetter_25 ?_
      obtain ⟨x10, e11, hf⟩ := pk_bnd hf
      refine s_nmL e11 ?_
      refine s_lstore_n X (vs' := [(0, .ref (gB G + v0)), (1, .int v1), (2, .long x10)]) dX1_leastBetter_26 rfl (Nat.le_of_ble_eq_true rfl) [1, 2, 0] rfl ?_
      refine s_lload_n X 2 dX1_leastBetter_27 rfl rfl ?_
      refine s_lconst X (v := (0 : Int64)) dX1_leastBetter_28 rfl ?_
      refine s_lcmp X dX1_leastBetter_29 ?_
      have hs12 := pk_ite hf
      clear hf
      refine s_if_eq X (tgt := 43) dX1_leastBetter_30 rfl (fun c13 => ?_) (fun c13 => ?_)
      · have hf := hs12.1 c13
        obtain ⟨x14, e15, hf⟩ := pk_bnd hf
        refine s_iinc X (vs' := [(0, .ref (gB G + v0)), (1, .int x14), (2, .long x10)]) 1 dX1_leastBetter_43 rfl (v := x14) e15.symm (Nat.le_of_ble_eq_true rfl) [1, 0, 2] rfl ?_
        refine s_goto X (tgt := 2) dX1_leastBetter_46 rfl ?_
        refine s_drop [0, 1] (vs' := [(0, .ref (gB G + v0)), (1, .int x14)]) rfl ?_
        exact ih _ _ hf
      · have hf := hs12.2 c13
        refine s_iload_n X 1 dX1_leastBetter_33 rfl rfl ?_
        refine s_bipush X (v := (6 : Int32)) dX1_leastBetter_34 rfl ?_
        refine s_ishl X dX1_leastBetter_36 ?_
        refine s_lload_n X 2 dX1_leastBetter_37 rfl rfl ?_
        obtain ⟨r17, hc16, hf⟩ := pk_obd hf
        refine s_callSN X (k_X9_lowest G hc16) (host := "QuorumGate") ns_7 wd739 wd740 wd126 cd_X9_lowest ⟨Nat.le_of_ble_eq_true rfl, Nat.le_of_ble_eq_true rfl⟩ (Nat.le_of_ble_eq_true rfl) dX1_leastBetter_38 ?_
        refine s_ior X dX1_leastBetter_41 ?_
        cases hf
        exact s_iret X hr hlk dX1_leastBetter_42
end
theorem k_X1_leastBetter (G : Gam) {n : Nat} {o : Nat} {M : Mem} {rv : Int32} (hf : f_X1_leastBetter n o M = some rv) : Kt yX1_leastBetter cX1_leastBetter 4 (some .int) 2 42 G [.ref (gB G + o)] M M (some (.int rv)) := by
  refine Kt.of (by decide) (Nat.le_of_ble_eq_true rfl) ?_
  intro p l e R s m args below meth c X hr hlk hnm
  refine s_drop [0] (vs' := [(0, .ref (gB G + o))]) rfl ?_
  rw [f_X1_leastBetter] at hf
  refine s_iconst X (v := (0 : Int32)) dX1_leastBetter_0 rfl ?_
  refine s_istore_n X (vs' := [(0, .ref (gB G + o)), (1, .int (0 : Int32))]) dX1_leastBetter_1 rfl (Nat.le_of_ble_eq_true rfl) [1, 0] rfl ?_
  exact l_X1_leastBetter_2 X hr hlk hnm _ _ hf
theorem dX9_better_0 : decode cX9_better 0 = .ok (.aload_n 0, 1) := dk_42 (by decide +kernel)
theorem dX9_better_1 : decode cX9_better 1 = .ok (.invokevirtual 122, 3) := dk_182 (x := 0) (y := 122) (by decide +kernel) rfl
theorem dX9_better_4 : decode cX9_better 4 = .ok (.aload_n 0, 1) := dk_42 (by decide +kernel)
theorem dX9_better_5 : decode cX9_better 5 = .ok (.getfield 19, 3) := dk_180 (x := 0) (y := 19) (by decide +kernel) rfl
theorem dX9_better_8 : decode cX9_better 8 = .ok (.getfield 155, 3) := dk_180 (x := 0) (y := 155) (by decide +kernel) rfl
theorem dX9_better_11 : decode cX9_better 11 = .ok (.invokevirtual 165, 3) := dk_182 (x := 0) (y := 165) (by decide +kernel) rfl
theorem dX9_better_14 : decode cX9_better 14 = .ok (.ireturn, 1) := dk_172 (by decide +kernel)
def f_X9_better (n : Nat) (o : Nat) (M : Mem) : Option (Int32 × Mem) :=
  chk (isO M 9 o) <|
  obd (f_X9_surveyOnce n o M) fun M3 =>
  chk (isO M3 9 o) <|
  bnd (mR M3 o 1) fun o5 =>
  chk (isO M3 8 o5) <|
  bnd (mR M3 o5 0) fun o8 =>
  chk (isO M3 1 o8) <|
  obd (f_X1_leastBetter n o8 M3) fun r12 =>
  some (r12, M3)
theorem cd_X9_better : (yX9_better.cls ≠ "java/lang/invoke/MethodHandle" ∧ yX9_better.cls ≠ "java/lang/invoke/VarHandle") ∧ (parseMethodDescriptor yX9_better.desc).map (fun d => d.parameters.length) = some 0 := ⟨⟨by decide +kernel, by decide +kernel⟩, by decide +kernel⟩
theorem k_X9_better (G : Gam) {n : Nat} {o : Nat} {M : Mem} {rv : (Int32 × Mem)} (hf : f_X9_better n o M = some rv) : Kt yX9_better cX9_better 1 (some .int) 5 110 G [.ref (gB G + o)] M rv.2 (some (.int rv.1)) := by
  refine Kt.of (by decide) (Nat.le_of_ble_eq_true rfl) ?_
  intro p l e R s m args below meth c X hr hlk hnm
  refine s_drop [0] (vs' := [(0, .ref (gB G + o))]) rfl ?_
  rw [f_X9_better] at hf
  refine s_aload_n X 0 dX9_better_0 rfl rfl ?_
  obtain ⟨h1, hf⟩ := pk_chk hf
  obtain ⟨M3, hc2, hf⟩ := pk_obd hf
  refine s_callV X (ci := 9) (k_X9_surveyOnce G hc2) rfl h1 wd784 wd786 wd5 wd787 wd126 cd_X9_surveyOnce ⟨Nat.le_of_ble_eq_true rfl, Nat.le_of_ble_eq_true rfl⟩ (Nat.le_of_ble_eq_true rfl) dX9_better_1 ?_
  refine s_aload_n X 0 dX9_better_4 rfl rfl ?_
  obtain ⟨h4, hf⟩ := pk_chk hf
  obtain ⟨o5, e6, hf⟩ := pk_bnd hf
  obtain ⟨h7, hf⟩ := pk_chk hf
  refine s_getR X (ci := 9) (k := 1) rfl (Nat.le_of_ble_eq_true rfl) h4 wd628 (fun _ _ _ => rfl) (e6 ▸ h7) dX9_better_5 (e6 ▸ ?_)
  obtain ⟨o8, e9, hf⟩ := pk_bnd hf
  obtain ⟨h10, hf⟩ := pk_chk hf
  refine s_getR X (ci := 8) (k := 0) rfl (Nat.le_of_ble_eq_true rfl) h7 wd209 (fun _ _ _ => rfl) (e9 ▸ h10) dX9_better_8 (e9 ▸ ?_)
  obtain ⟨r12, hc11, hf⟩ := pk_obd hf
  refine s_callV X (ci := 1) (k_X1_leastBetter G hc11) rfl h10 wd923 wd924 wd925 wd926 wd129 cd_X1_leastBetter ⟨Nat.le_of_ble_eq_true rfl, Nat.le_of_ble_eq_true rfl⟩ (Nat.le_of_ble_eq_true rfl) dX9_better_11 ?_
  cases hf
  exact s_iret X hr hlk dX9_better_14
theorem dX10_isBetter_0 : decode cX10_isBetter 0 = .ok (.iconst 0, 1) := dk_3 (by decide +kernel)
theorem dX10_isBetter_1 : decode cX10_isBetter 1 = .ok (.istore_n 2, 1) := dk_61 (by decide +kernel)
theorem dX10_isBetter_2 : decode cX10_isBetter 2 = .ok (.iload_n 2, 1) := dk_28 (by decide +kernel)
theorem dX10_isBetter_3 : decode cX10_isBetter 3 = .ok (.aload_n 0, 1) := dk_42 (by decide +kernel)
theorem dX10_isBetter_4 : decode cX10_isBetter 4 = .ok (.getfield 7, 3) := dk_180 (x := 0) (y := 7) (by decide +kernel) rfl
theorem dX10_isBetter_7 : decode cX10_isBetter 7 = .ok (.iconst 0, 1) := dk_3 (by decide +kernel)
theorem dX10_isBetter_8 : decode cX10_isBetter 8 = .ok (.iaload, 1) := dk_46 (by decide +kernel)
theorem dX10_isBetter_9 : decode cX10_isBetter 9 = .ok (.if_icmp .ge 33, 3) := dk_162 (x := 0) (y := 33) (by decide +kernel) rfl
theorem dX10_isBetter_12 : decode cX10_isBetter 12 = .ok (.aload_n 0, 1) := dk_42 (by decide +kernel)
theorem dX10_isBetter_13 : decode cX10_isBetter 13 = .ok (.iload_n 2, 1) := dk_28 (by decide +kernel)
theorem dX10_isBetter_14 : decode cX10_isBetter 14 = .ok (.invokevirtual 80, 3) := dk_182 (x := 0) (y := 80) (by decide +kernel) rfl
theorem dX10_isBetter_17 : decode cX10_isBetter 17 = .ok (.iload_n 1, 1) := dk_27 (by decide +kernel)
theorem dX10_isBetter_18 : decode cX10_isBetter 18 = .ok (.iand, 1) := dk_126 (by decide +kernel)
theorem dX10_isBetter_19 : decode cX10_isBetter 19 = .ok (.ifCond .eq 15, 3) := dk_153 (x := 0) (y := 15) (by decide +kernel) rfl
theorem dX10_isBetter_22 : decode cX10_isBetter 22 = .ok (.aload_n 0, 1) := dk_42 (by decide +kernel)
theorem dX10_isBetter_23 : decode cX10_isBetter 23 = .ok (.iload_n 2, 1) := dk_28 (by decide +kernel)
theorem dX10_isBetter_24 : decode cX10_isBetter 24 = .ok (.invokevirtual 80, 3) := dk_182 (x := 0) (y := 80) (by decide +kernel) rfl
theorem dX10_isBetter_27 : decode cX10_isBetter 27 = .ok (.iload_n 1, 1) := dk_27 (by decide +kernel)
theorem dX10_isBetter_28 : decode cX10_isBetter 28 = .ok (.iconst (-1), 1) := dk_2 (by decide +kernel)
theorem dX10_isBetter_29 : decode cX10_isBetter 29 = .ok (.ixor, 1) := dk_130 (by decide +kernel)
theorem dX10_isBetter_30 : decode cX10_isBetter 30 = .ok (.iand, 1) := dk_126 (by decide +kernel)
theorem dX10_isBetter_31 : decode cX10_isBetter 31 = .ok (.ifCond .ne 5, 3) := dk_154 (x := 0) (y := 5) (by decide +kernel) rfl
theorem dX10_isBetter_34 : decode cX10_isBetter 34 = .ok (.iconst 0, 1) := dk_3 (by decide +kernel)
theorem dX10_isBetter_35 : decode cX10_isBetter 35 = .ok (.ireturn, 1) := dk_172 (by decide +kernel)
theorem dX10_isBetter_36 : decode cX10_isBetter 36 = .ok (.iinc 2 1, 3) := dk_132 (x := 2) (y := 1) (by decide +kernel) rfl
theorem dX10_isBetter_39 : decode cX10_isBetter 39 = .ok (.goto (-37), 3) := dk_167 (x := 255) (y := 219) (by decide +kernel) rfl
theorem dX10_isBetter_42 : decode cX10_isBetter 42 = .ok (.iconst 1, 1) := dk_4 (by decide +kernel)
theorem dX10_isBetter_43 : decode cX10_isBetter 43 = .ok (.ireturn, 1) := dk_172 (by decide +kernel)
def f_X10_isBetter_2 (M : Mem) : Nat → Nat → Int32 → Int32 → Option Int32
  | 0, _, _, _ => none
  | n + 1, v0, v1, v2 =>
    chk (isO M 10 v0) <|
    bnd (mR M v0 0) fun o2 =>
    chk (isO M 100 o2) <|
    chk (inB (0 : Int32) (mLn M o2)) <|
    if (mI M o2 ((0 : Int32)).toNatClampNeg) ≤ v2 then (
      some (1 : Int32)
      ) else (
      obd (f_X10_baseOf v0 v2 M) fun r9 =>
      if (r9 &&& v1) = 0 then (
        some (0 : Int32)
        ) else (
        obd (f_X10_baseOf v0 v2 M) fun r13 =>
        if (r13 &&& (v1 ^^^ (-1 : Int32))) = 0 then (
          some (0 : Int32)
          ) else (
          bnd (v2 + (1 : Int32)) fun x16 =>
          f_X10_isBetter_2 M n v0 v1 x16
          )
        )
      )
def f_X10_isBetter (n : Nat) (o : Nat) (a1 : Int32) (M : Mem) : Option Int32 :=
  f_X10_isBetter_2 M n o a1 (0 : Int32)
theorem cd_X10_isBetter : (yX10_isBetter.cls ≠ "java/lang/invoke/MethodHandle" ∧ yX10_isBetter.cls ≠ "java/lang/invoke/VarHandle") ∧ (parseMethodDescriptor yX10_isBetter.desc).map (fun d => d.parameters.length) = some 1 := ⟨⟨by decide +kernel, by decide +kernel⟩, by decide +kernel⟩
section
variable {p : Program} {l : Launch} {e : Env} {R : Room} {s : State} {m : MethodId} {args : Array Value} {below : List Frame} {meth : Method} {c : Code} {G : Gam} {M0 : Mem}
theorem l_X10_isBetter_2 {M : Mem} {rv : Int32} (X : Cx p R s m args c G M0 cX10_isBetter yX10_isBetter.cls 3 1 21) (hr : meth.sig.returnType = (some .boolean)) (hlk : meth.locks = false) (hnm : meth.name = "isBetter") : ∀ {n : Nat} (v0 : Nat) (v1 : Int32) (v2 : Int32), f_X10_isBetter_2 M n v0 v1 v2 = some rv → Sg p l e R s m args below meth c (Qm below G args s (some (.int rv)) M0 M) G M0 3 2 [(0, .ref (gB G + v0)), (1, .int v1), (2, .int v2)] [] M := by
  intro n
  induction n with
  | zero => intro v0 v1 v2 hf; exact (pk_none hf).elim
  | succ n ih =>
    intro v0 v1 v2 hf
    rw [f_X10_isBetter_2] at hf
    refine s_iload_n X 2 dX10_isBetter_2 rfl rfl ?_
    refine s_aload_n X 0 dX10_isBetter_3 rfl rfl ?_
    obtain ⟨h1, hf⟩ := pk_chk hf
    obtain ⟨o2, e3, hf⟩ := pk_bnd hf
    obtain ⟨h4, hf⟩ := pk_chk hf
    refine s_getR X (ci := 10) (k := 0) rfl (Nat.le_of_ble_eq_true rfl) h1 wd1440 (fun _ _ _ => rfl) (e3 ▸ h4) dX10_isBetter_4 (e3 ▸ ?_)
    refine s_iconst X (v := (0 : Int32)) dX10_isBetter_7 rfl ?_
    obtain ⟨h5, hf⟩ := pk_chk hf
    refine s_iald X h4 h5 dX10_isBetter_8 ?_
    have hs6 := pk_ite hf
    clear hf
    refine s_icmp_ge X (tgt := 42) dX10_isBetter_9 rfl (fun c7 => ?_) (fun c7 => ?_)
    · have hf := hs6.1 c7
      refine s_iconst X (v := (1 : Int32)) dX10_isBetter_42 rfl ?_
      cases hf
      exact s_zret X hr (bz_n (Or.inr rfl)) hlk dX10_isBetter_43
    · have hf := hs6.2 c7
      refine s_aload_n X 0 dX10_isBetter_12 rfl rfl ?_
      refine s_iload_n X 2 dX10_isBetter_13 rfl rfl ?_
      obtain ⟨r9, hc8, hf⟩ := pk_obd hf
      refine s_callV X (ci := 10) (k_X10_baseOf G hc8) rfl h1 wd1558 wd1560 wd54 wd1561 wd138 cd_X10_baseOf ⟨Nat.le_of_ble_eq_true rfl, Nat.le_of_ble_eq_true rfl⟩ (Nat.le_of_ble_eq_true rfl) dX10_isBetter_14 ?_
      refine s_iload_n X 1 dX10_isBetter_17 rfl rfl ?_
      refine s_iand X dX10_isBetter_18 ?_
      have hs10 := pk_ite hf
      clear hf
      refine s_if_eq X (tgt := 34) dX10_isBetter_19 rfl (fun c11 => ?_) (fun c11 => ?_)
      · have hf := hs10.1 c11
        refine s_iconst X (v := (0 : Int32)) dX10_isBetter_34 rfl ?_
        cases hf
        exact s_zret X hr (bz_n (Or.inl rfl)) hlk dX10_isBetter_35
      · have hf := hs10.2 c11
        refine s_aload_n X 0 dX10_isBetter_22 rfl rfl ?_
        refine s_iload_n X 2 dX10_isBetter_23 rfl rfl ?_
        obtain ⟨r13, hc12, hf⟩ := pk_obd hf
        refine s_callV X (ci := 10) (k_X10_baseOf G hc12) rfl h1 wd1558 wd1560 wd54 wd1561 wd138 cd_X10_baseOf ⟨Nat.le_of_ble_eq_true rfl, Nat.le_of_ble_eq_true rfl⟩ (Nat.le_of_ble_eq_true rfl) dX10_isBetter_24 ?_
        refine s_iload_n X 1 dX10_isBetter_27 rfl rfl ?_
        refine s_iconst X (v := (-1 : Int32)) dX10_isBetter_28 rfl ?_
        refine s_ixor X dX10_isBetter_29 ?_
        refine s_iand X dX10_isBetter_30 ?_
        have hs14 := pk_ite hf
        clear hf
        refine s_if_ne X (tgt := 36) dX10_isBetter_31 rfl (fun c15 => ?_) (fun c15 => ?_)
        · have hf := hs14.2 c15
          obtain ⟨x16, e17, hf⟩ := pk_bnd hf
          refine s_iinc X (vs' := [(0, .ref (gB G + v0)), (1, .int v1), (2, .int x16)]) 2 dX10_isBetter_36 rfl (v := x16) e17.symm (Nat.le_of_ble_eq_true rfl) [1, 2, 0] rfl ?_
          refine s_goto X (tgt := 2) dX10_isBetter_39 rfl ?_
          exact ih _ _ _ hf
        · have hf := hs14.1 c15
          refine s_iconst X (v := (0 : Int32)) dX10_isBetter_34 rfl ?_
          cases hf
          exact s_zret X hr (bz_n (Or.inl rfl)) hlk dX10_isBetter_35
end
theorem k_X10_isBetter (G : Gam) {n : Nat} {o : Nat} {a1 : Int32} {M : Mem} {rv : Int32} (hf : f_X10_isBetter n o a1 M = some rv) : Kt yX10_isBetter cX10_isBetter 3 (some .boolean) 1 21 G [.ref (gB G + o), .int a1] M M (some (.int rv)) := by
  refine Kt.of (by decide) (Nat.le_of_ble_eq_true rfl) ?_
  intro p l e R s m args below meth c X hr hlk hnm
  refine s_drop [0, 1] (vs' := [(0, .ref (gB G + o)), (1, .int a1)]) rfl ?_
  rw [f_X10_isBetter] at hf
  refine s_iconst X (v := (0 : Int32)) dX10_isBetter_0 rfl ?_
  refine s_istore_n X (vs' := [(0, .ref (gB G + o)), (1, .int a1), (2, .int (0 : Int32))]) dX10_isBetter_1 rfl (Nat.le_of_ble_eq_true rfl) [1, 2, 0] rfl ?_
  exact l_X10_isBetter_2 X hr hlk hnm _ _ _ hf
theorem dX10_better_0 : decode cX10_better 0 = .ok (.iconst 1, 1) := dk_4 (by decide +kernel)
theorem dX10_better_1 : decode cX10_better 1 = .ok (.istore_n 1, 1) := dk_60 (by decide +kernel)
theorem dX10_better_2 : decode cX10_better 2 = .ok (.iload_n 1, 1) := dk_27 (by decide +kernel)
theorem dX10_better_3 : decode cX10_better 3 = .ok (.aload_n 0, 1) := dk_42 (by decide +kernel)
theorem dX10_better_4 : decode cX10_better 4 = .ok (.invokevirtual 72, 3) := dk_182 (x := 0) (y := 72) (by decide +kernel) rfl
theorem dX10_better_7 : decode cX10_better 7 = .ok (.if_icmp .gt 19, 3) := dk_163 (x := 0) (y := 19) (by decide +kernel) rfl
theorem dX10_better_10 : decode cX10_better 10 = .ok (.aload_n 0, 1) := dk_42 (by decide +kernel)
theorem dX10_better_11 : decode cX10_better 11 = .ok (.iload_n 1, 1) := dk_27 (by decide +kernel)
theorem dX10_better_12 : decode cX10_better 12 = .ok (.invokevirtual 137, 3) := dk_182 (x := 0) (y := 137) (by decide +kernel) rfl
theorem dX10_better_15 : decode cX10_better 15 = .ok (.ifCond .eq 5, 3) := dk_153 (x := 0) (y := 5) (by decide +kernel) rfl
theorem dX10_better_18 : decode cX10_better 18 = .ok (.iload_n 1, 1) := dk_27 (by decide +kernel)
theorem dX10_better_19 : decode cX10_better 19 = .ok (.ireturn, 1) := dk_172 (by decide +kernel)
theorem dX10_better_20 : decode cX10_better 20 = .ok (.iinc 1 1, 3) := dk_132 (x := 1) (y := 1) (by decide +kernel) rfl
theorem dX10_better_23 : decode cX10_better 23 = .ok (.goto (-21), 3) := dk_167 (x := 255) (y := 235) (by decide +kernel) rfl
theorem dX10_better_26 : decode cX10_better 26 = .ok (.iconst (-1), 1) := dk_2 (by decide +kernel)
theorem dX10_better_27 : decode cX10_better 27 = .ok (.ireturn, 1) := dk_172 (by decide +kernel)
def f_X10_better_2 (M : Mem) : Nat → Nat → Int32 → Option Int32
  | 0, _, _ => none
  | n + 1, v0, v1 =>
    chk (isO M 10 v0) <|
    obd (f_X10_all v0 M) fun r3 =>
    if r3 < v1 then (
      some (-1 : Int32)
      ) else (
      obd (f_X10_isBetter n v0 v1 M) fun r7 =>
      if r7 = 0 then (
        bnd (v1 + (1 : Int32)) fun x10 =>
        f_X10_better_2 M n v0 x10
        ) else (
        some v1
        )
      )
def f_X10_better (n : Nat) (o : Nat) (M : Mem) : Option Int32 :=
  f_X10_better_2 M n o (1 : Int32)
theorem cd_X10_better : (yX10_better.cls ≠ "java/lang/invoke/MethodHandle" ∧ yX10_better.cls ≠ "java/lang/invoke/VarHandle") ∧ (parseMethodDescriptor yX10_better.desc).map (fun d => d.parameters.length) = some 0 := ⟨⟨by decide +kernel, by decide +kernel⟩, by decide +kernel⟩
section
variable {p : Program} {l : Launch} {e : Env} {R : Room} {s : State} {m : MethodId} {args : Array Value} {below : List Frame} {meth : Method} {c : Code} {G : Gam} {M0 : Mem}
theorem l_X10_better_2 {M : Mem} {rv : Int32} (X : Cx p R s m args c G M0 cX10_better yX10_better.cls 2 2 43) (hr : meth.sig.returnType = (some .int)) (hlk : meth.locks = false) (hnm : meth.name = "better") : ∀ {n : Nat} (v0 : Nat) (v1 : Int32), f_X10_better_2 M n v0 v1 = some rv → Sg p l e R s m args below meth c (Qm below G args s (some (.int rv)) M0 M) G M0 2 2 [(0, .ref (gB G + v0)), (1, .int v1)] [] M := by
  intro n
  induction n with
  | zero => intro v0 v1 hf; exact (pk_none hf).elim
  | succ n ih =>
    intro v0 v1 hf
    rw [f_X10_better_2] at hf
    refine s_iload_n X 1 dX10_better_2 rfl rfl ?_
    refine s_aload_n X 0 dX10_better_3 rfl rfl ?_
    obtain ⟨h1, hf⟩ := pk_chk hf
    obtain ⟨r3, hc2, hf⟩ := pk_obd hf
    refine s_callV X (ci := 10) (k_X10_all G hc2) rfl h1 wd1542 wd1544 wd52 wd1545 wd138 cd_X10_all ⟨Nat.le_of_ble_eq_true rfl, Nat.le_of_ble_eq_true rfl⟩ (Nat.le_of_ble_eq_true rfl) dX10_better_4 ?_
    have hs4 := pk_ite hf
    clear hf
    refine s_icmp_gt X (tgt := 26) dX10_better_7 rfl (fun c5 => ?_) (fun c5 => ?_)
    · have hf := hs4.1 c5
      refine s_iconst X (v := (-1 : Int32)) dX10_better_26 rfl ?_
      cases hf
      exact s_iret X hr hlk dX10_better_27
    · have hf := hs4.2 c5
      refine s_aload_n X 0 dX10_better_10 rfl rfl ?_
      refine s_iload_n X 1 dX10_better_11 rfl rfl ?_
      obtain ⟨r7, hc6, hf⟩ := pk_obd hf
      refine s_callV X (ci := 10) (k_X10_isBetter G hc6) rfl h1 wd1676 wd1678 wd65 wd1679 wd138 cd_X10_isBetter ⟨Nat.le_of_ble_eq_true rfl, Nat.le_of_ble_eq_true rfl⟩ (Nat.le_of_ble_eq_true rfl) dX10_better_12 ?_
      have hs8 := pk_ite hf
      clear hf
      refine s_if_eq X (tgt := 20) dX10_better_15 rfl (fun c9 => ?_) (fun c9 => ?_)
      · have hf := hs8.1 c9
        obtain ⟨x10, e11, hf⟩ := pk_bnd hf
        refine s_iinc X (vs' := [(0, .ref (gB G + v0)), (1, .int x10)]) 1 dX10_better_20 rfl (v := x10) e11.symm (Nat.le_of_ble_eq_true rfl) [1, 0] rfl ?_
        refine s_goto X (tgt := 2) dX10_better_23 rfl ?_
        exact ih _ _ hf
      · have hf := hs8.2 c9
        refine s_iload_n X 1 dX10_better_18 rfl rfl ?_
        cases hf
        exact s_iret X hr hlk dX10_better_19
end
theorem k_X10_better (G : Gam) {n : Nat} {o : Nat} {M : Mem} {rv : Int32} (hf : f_X10_better n o M = some rv) : Kt yX10_better cX10_better 2 (some .int) 2 43 G [.ref (gB G + o)] M M (some (.int rv)) := by
  refine Kt.of (by decide) (Nat.le_of_ble_eq_true rfl) ?_
  intro p l e R s m args below meth c X hr hlk hnm
  refine s_drop [0] (vs' := [(0, .ref (gB G + o))]) rfl ?_
  rw [f_X10_better] at hf
  refine s_iconst X (v := (1 : Int32)) dX10_better_0 rfl ?_
  refine s_istore_n X (vs' := [(0, .ref (gB G + o)), (1, .int (1 : Int32))]) dX10_better_1 rfl (Nat.le_of_ble_eq_true rfl) [1, 0] rfl ?_
  exact l_X10_better_2 X hr hlk hnm _ _ hf
theorem dX2_mayAsk_0 : decode cX2_mayAsk 0 = .ok (.aload_n 0, 1) := dk_42 (by decide +kernel)
theorem dX2_mayAsk_1 : decode cX2_mayAsk 1 = .ok (.getfield 55, 3) := dk_180 (x := 0) (y := 55) (by decide +kernel) rfl
theorem dX2_mayAsk_4 : decode cX2_mayAsk 4 = .ok (.aload_n 0, 1) := dk_42 (by decide +kernel)
theorem dX2_mayAsk_5 : decode cX2_mayAsk 5 = .ok (.getfield 59, 3) := dk_180 (x := 0) (y := 59) (by decide +kernel) rfl
theorem dX2_mayAsk_8 : decode cX2_mayAsk 8 = .ok (.ior, 1) := dk_128 (by decide +kernel)
theorem dX2_mayAsk_9 : decode cX2_mayAsk 9 = .ok (.aload_n 0, 1) := dk_42 (by decide +kernel)
theorem dX2_mayAsk_10 : decode cX2_mayAsk 10 = .ok (.getfield 62, 3) := dk_180 (x := 0) (y := 62) (by decide +kernel) rfl
theorem dX2_mayAsk_13 : decode cX2_mayAsk 13 = .ok (.ior, 1) := dk_128 (by decide +kernel)
theorem dX2_mayAsk_14 : decode cX2_mayAsk 14 = .ok (.iload_n 1, 1) := dk_27 (by decide +kernel)
theorem dX2_mayAsk_15 : decode cX2_mayAsk 15 = .ok (.invokestatic 108, 3) := dk_184 (x := 0) (y := 108) (by decide +kernel) rfl
theorem dX2_mayAsk_18 : decode cX2_mayAsk 18 = .ok (.ifCond .ne 16, 3) := dk_154 (x := 0) (y := 16) (by decide +kernel) rfl
theorem dX2_mayAsk_21 : decode cX2_mayAsk 21 = .ok (.aload_n 0, 1) := dk_42 (by decide +kernel)
theorem dX2_mayAsk_22 : decode cX2_mayAsk 22 = .ok (.getfield 36, 3) := dk_180 (x := 0) (y := 36) (by decide +kernel) rfl
theorem dX2_mayAsk_25 : decode cX2_mayAsk 25 = .ok (.iload_n 1, 1) := dk_27 (by decide +kernel)
theorem dX2_mayAsk_26 : decode cX2_mayAsk 26 = .ok (.iaload, 1) := dk_46 (by decide +kernel)
theorem dX2_mayAsk_27 : decode cX2_mayAsk 27 = .ok (.ifCond .eq 7, 3) := dk_153 (x := 0) (y := 7) (by decide +kernel) rfl
theorem dX2_mayAsk_30 : decode cX2_mayAsk 30 = .ok (.iconst 1, 1) := dk_4 (by decide +kernel)
theorem dX2_mayAsk_31 : decode cX2_mayAsk 31 = .ok (.goto 4, 3) := dk_167 (x := 0) (y := 4) (by decide +kernel) rfl
theorem dX2_mayAsk_34 : decode cX2_mayAsk 34 = .ok (.iconst 0, 1) := dk_3 (by decide +kernel)
theorem dX2_mayAsk_35 : decode cX2_mayAsk 35 = .ok (.ireturn, 1) := dk_172 (by decide +kernel)
def f_X2_mayAsk (o : Nat) (a1 : Int32) (M : Mem) : Option Int32 :=
  chk (isO M 2 o) <|
  obd (f_X9_has (((mI M o 7) ||| (mI M o 8)) ||| (mI M o 9)) a1 M) fun r3 =>
  if r3 = 0 then (
    bnd (mR M o 5) fun o6 =>
    chk (isO M 100 o6) <|
    chk (inB a1 (mLn M o6)) <|
    if (mI M o6 (a1).toNatClampNeg) = 0 then (
      some (0 : Int32)
      ) else (
      some (1 : Int32)
      )
    ) else (
    some (0 : Int32)
    )
theorem cd_X2_mayAsk : (yX2_mayAsk.cls ≠ "java/lang/invoke/MethodHandle" ∧ yX2_mayAsk.cls ≠ "java/lang/invoke/VarHandle") ∧ (parseMethodDescriptor yX2_mayAsk.desc).map (fun d => d.parameters.length) = some 1 := ⟨⟨by decide +kernel, by decide +kernel⟩, by decide +kernel⟩
theorem k_X2_mayAsk (G : Gam) {o : Nat} {a1 : Int32} {M : Mem} {rv : Int32} (hf : f_X2_mayAsk o a1 M = some rv) : Kt yX2_mayAsk cX2_mayAsk 2 (some .boolean) 1 21 G [.ref (gB G + o), .int a1] M M (some (.int rv)) := by
  refine Kt.of (by decide) (Nat.le_of_ble_eq_true rfl) ?_
  intro p l e R s m args below meth c X hr hlk hnm
  refine s_drop [0, 1] (vs' := [(0, .ref (gB G + o)), (1, .int a1)]) rfl ?_
  rw [f_X2_mayAsk] at hf
  refine s_aload_n X 0 dX2_mayAsk_0 rfl rfl ?_
  obtain ⟨h1, hf⟩ := pk_chk hf
  refine s_getI X (ci := 2) (k := 7) rfl (Nat.le_of_ble_eq_true rfl) h1 wd434 (fun _ _ _ => rfl) dX2_mayAsk_1 ?_
  refine s_aload_n X 0 dX2_mayAsk_4 rfl rfl ?_
  refine s_getI X (ci := 2) (k := 8) rfl (Nat.le_of_ble_eq_true rfl) h1 wd438 (fun _ _ _ => rfl) dX2_mayAsk_5 ?_
  refine s_ior X dX2_mayAsk_8 ?_
  refine s_aload_n X 0 dX2_mayAsk_9 rfl rfl ?_
  refine s_getI X (ci := 2) (k := 9) rfl (Nat.le_of_ble_eq_true rfl) h1 wd441 (fun _ _ _ => rfl) dX2_mayAsk_10 ?_
  refine s_ior X dX2_mayAsk_13 ?_
  refine s_iload_n X 1 dX2_mayAsk_14 rfl rfl ?_
  obtain ⟨r3, hc2, hf⟩ := pk_obd hf
  refine s_callSN X (k_X9_has G hc2) (host := "QuorumGate") ns_8 wd712 wd713 wd126 cd_X9_has ⟨Nat.le_of_ble_eq_true rfl, Nat.le_of_ble_eq_true rfl⟩ (Nat.le_of_ble_eq_true rfl) dX2_mayAsk_15 ?_
  have hs4 := pk_ite hf
  clear hf
  refine s_if_ne X (tgt := 34) dX2_mayAsk_18 rfl (fun c5 => ?_) (fun c5 => ?_)
  · have hf := hs4.2 c5
    refine s_iconst X (v := (0 : Int32)) dX2_mayAsk_34 rfl ?_
    cases hf
    exact s_zret X hr (bz_n (Or.inl rfl)) hlk dX2_mayAsk_35
  · have hf := hs4.1 c5
    refine s_aload_n X 0 dX2_mayAsk_21 rfl rfl ?_
    obtain ⟨o6, e7, hf⟩ := pk_bnd hf
    obtain ⟨h8, hf⟩ := pk_chk hf
    refine s_getR X (ci := 2) (k := 5) rfl (Nat.le_of_ble_eq_true rfl) h1 wd431 (fun _ _ _ => rfl) (e7 ▸ h8) dX2_mayAsk_22 (e7 ▸ ?_)
    refine s_iload_n X 1 dX2_mayAsk_25 rfl rfl ?_
    obtain ⟨h9, hf⟩ := pk_chk hf
    refine s_iald X h8 h9 dX2_mayAsk_26 ?_
    have hs10 := pk_ite hf
    clear hf
    refine s_if_eq X (tgt := 34) dX2_mayAsk_27 rfl (fun c11 => ?_) (fun c11 => ?_)
    · have hf := hs10.1 c11
      refine s_iconst X (v := (0 : Int32)) dX2_mayAsk_34 rfl ?_
      cases hf
      exact s_zret X hr (bz_n (Or.inl rfl)) hlk dX2_mayAsk_35
    · have hf := hs10.2 c11
      refine s_iconst X (v := (1 : Int32)) dX2_mayAsk_30 rfl ?_
      refine s_goto X (tgt := 35) dX2_mayAsk_31 rfl ?_
      cases hf
      exact s_zret X hr (bz_n (Or.inr rfl)) hlk dX2_mayAsk_35
theorem dJ7_copyOf_59c91_0 : decode cJ7_copyOf_59c91 0 = .ok (.iload_n 1, 1) := dk_27 (by decide +kernel)
theorem dJ7_copyOf_59c91_1 : decode cJ7_copyOf_59c91 1 = .ok (.aload_n 0, 1) := dk_42 (by decide +kernel)
theorem dJ7_copyOf_59c91_2 : decode cJ7_copyOf_59c91 2 = .ok (.arraylength, 1) := dk_190 (by decide +kernel)
theorem dJ7_copyOf_59c91_3 : decode cJ7_copyOf_59c91 3 = .ok (.if_icmp .ne 11, 3) := dk_160 (x := 0) (y := 11) (by decide +kernel) rfl
theorem dJ7_copyOf_59c91_6 : decode cJ7_copyOf_59c91 6 = .ok (.aload_n 0, 1) := dk_42 (by decide +kernel)
theorem dJ7_copyOf_59c91_7 : decode cJ7_copyOf_59c91 7 = .ok (.invokevirtual 316, 3) := dk_182 (x := 1) (y := 60) (by decide +kernel) rfl
theorem dJ7_copyOf_59c91_10 : decode cJ7_copyOf_59c91 10 = .ok (.checkcast 317, 3) := dk_192 (x := 1) (y := 61) (by decide +kernel) rfl
theorem dJ7_copyOf_59c91_13 : decode cJ7_copyOf_59c91 13 = .ok (.areturn, 1) := dk_176 (by decide +kernel)
theorem dJ7_copyOf_59c91_14 : decode cJ7_copyOf_59c91 14 = .ok (.iload_n 1, 1) := dk_27 (by decide +kernel)
theorem dJ7_copyOf_59c91_15 : decode cJ7_copyOf_59c91 15 = .ok (.newarray .int, 2) := dk_na_10 (by decide +kernel)
theorem dJ7_copyOf_59c91_17 : decode cJ7_copyOf_59c91 17 = .ok (.astore_n 2, 1) := dk_77 (by decide +kernel)
theorem dJ7_copyOf_59c91_18 : decode cJ7_copyOf_59c91 18 = .ok (.aload_n 0, 1) := dk_42 (by decide +kernel)
theorem dJ7_copyOf_59c91_19 : decode cJ7_copyOf_59c91 19 = .ok (.iconst 0, 1) := dk_3 (by decide +kernel)
theorem dJ7_copyOf_59c91_20 : decode cJ7_copyOf_59c91 20 = .ok (.aload_n 2, 1) := dk_44 (by decide +kernel)
theorem dJ7_copyOf_59c91_21 : decode cJ7_copyOf_59c91 21 = .ok (.iconst 0, 1) := dk_3 (by decide +kernel)
theorem dJ7_copyOf_59c91_22 : decode cJ7_copyOf_59c91 22 = .ok (.aload_n 0, 1) := dk_42 (by decide +kernel)
theorem dJ7_copyOf_59c91_23 : decode cJ7_copyOf_59c91 23 = .ok (.arraylength, 1) := dk_190 (by decide +kernel)
theorem dJ7_copyOf_59c91_24 : decode cJ7_copyOf_59c91 24 = .ok (.iload_n 1, 1) := dk_27 (by decide +kernel)
theorem dJ7_copyOf_59c91_25 : decode cJ7_copyOf_59c91 25 = .ok (.invokestatic 304, 3) := dk_184 (x := 1) (y := 48) (by decide +kernel) rfl
theorem dJ7_copyOf_59c91_28 : decode cJ7_copyOf_59c91 28 = .ok (.invokestatic 150, 3) := dk_184 (x := 0) (y := 150) (by decide +kernel) rfl
theorem dJ7_copyOf_59c91_31 : decode cJ7_copyOf_59c91 31 = .ok (.aload_n 2, 1) := dk_44 (by decide +kernel)
theorem dJ7_copyOf_59c91_32 : decode cJ7_copyOf_59c91 32 = .ok (.areturn, 1) := dk_176 (by decide +kernel)
def f_J7_copyOf_59c91 (a1 : Nat) (a2 : Int32) (M : Mem) : Option (Nat × Mem) :=
  chk (isO M 100 a1) <|
  if a2 = (Int32.ofNat (mLn M a1)) then (
    none
    ) else (
    chk (¬ a2 < 0) <|
    chk (mN M + 1 ≤ CAP ∧ mU M + (a2).toNatClampNeg ≤ CAPU) <|
    bnd (mN M) fun o8 =>
    bnd (nw M 100 (a2).toNatClampNeg (a2).toNatClampNeg) fun M6 =>
    chk (cp_ok (0 : Int32) (0 : Int32) (if a2 < (Int32.ofNat (mLn M6 a1)) then a2 else (Int32.ofNat (mLn M6 a1))) 0 (mLn M6 a1) (mLn M6 o8)) <|
    bnd (cpI M6 a1 ((0 : Int32)).toNatClampNeg o8 ((0 : Int32)).toNatClampNeg ((if a2 < (Int32.ofNat (mLn M6 a1)) then a2 else (Int32.ofNat (mLn M6 a1)))).toNatClampNeg) fun M13 =>
    some (o8, M13)
    )
theorem cd_J7_copyOf_59c91 : (yJ7_copyOf_59c91.cls ≠ "java/lang/invoke/MethodHandle" ∧ yJ7_copyOf_59c91.cls ≠ "java/lang/invoke/VarHandle") ∧ (parseMethodDescriptor yJ7_copyOf_59c91.desc).map (fun d => d.parameters.length) = some 2 := ⟨⟨by decide +kernel, by decide +kernel⟩, by decide +kernel⟩
theorem k_J7_copyOf_59c91 (G : Gam) {a1 : Nat} {a2 : Int32} {M : Mem} {rv : (Nat × Mem)} (hf : f_J7_copyOf_59c91 a1 a2 M = some rv) : Kt yJ7_copyOf_59c91 cJ7_copyOf_59c91 3 (some (.array .int)) 1 28 G [.ref (gB G + a1), .int a2] M rv.2 (some (.ref (gB G + rv.1))) := by
  refine Kt.of (by decide) (Nat.le_of_ble_eq_true rfl) ?_
  intro p l e R s m args below meth c X hr hlk hnm
  refine s_drop [0, 1] (vs' := [(0, .ref (gB G + a1)), (1, .int a2)]) rfl ?_
  rw [f_J7_copyOf_59c91] at hf
  refine s_iload_n X 1 dJ7_copyOf_59c91_0 rfl rfl ?_
  refine s_aload_n X 0 dJ7_copyOf_59c91_1 rfl rfl ?_
  obtain ⟨h1, hf⟩ := pk_chk hf
  refine s_alen X h1 rfl dJ7_copyOf_59c91_2 ?_
  have hs2 := pk_ite hf
  clear hf
  refine s_icmp_ne X (tgt := 14) dJ7_copyOf_59c91_3 rfl (fun c3 => ?_) (fun c3 => ?_)
  · have hf := hs2.2 c3
    refine s_iload_n X 1 dJ7_copyOf_59c91_14 rfl rfl ?_
    obtain ⟨h4, hf⟩ := pk_chk hf
    obtain ⟨h5, hf⟩ := pk_chk hf
    obtain ⟨o8, e9, hf⟩ := pk_bnd hf
    obtain ⟨M6, e7, hf⟩ := pk_bnd hf
    refine s_newI X wd184 h4 h5 e7 dJ7_copyOf_59c91_15 (e9 ▸ ?_)
    have h10 := io_nw e7 h1
    have h11 := io_nwn e7 e9
    refine s_astore_n X (vs' := [(0, .ref (gB G + a1)), (1, .int a2), (2, .ref (gB G + o8))]) dJ7_copyOf_59c91_17 rfl (Nat.le_of_ble_eq_true rfl) [1, 2, 0] rfl ?_
    refine s_aload_n X 0 dJ7_copyOf_59c91_18 rfl rfl ?_
    refine s_iconst X (v := (0 : Int32)) dJ7_copyOf_59c91_19 rfl ?_
    refine s_aload_n X 2 dJ7_copyOf_59c91_20 rfl rfl ?_
    refine s_iconst X (v := (0 : Int32)) dJ7_copyOf_59c91_21 rfl ?_
    refine s_aload_n X 0 dJ7_copyOf_59c91_22 rfl rfl ?_
    refine s_alen X h10 rfl dJ7_copyOf_59c91_23 ?_
    refine s_iload_n X 1 dJ7_copyOf_59c91_24 rfl rfl ?_
    refine s_mmin X wd960 wd889 wd142 wd890 ⟨Nat.le_of_ble_eq_true rfl, Nat.le_of_ble_eq_true rfl⟩ dJ7_copyOf_59c91_25 ?_
    obtain ⟨h12, hf⟩ := pk_chk hf
    obtain ⟨M13, e14, hf⟩ := pk_bnd hf
    refine s_copy X wd961 wd621 wd620 wd137 h10 h11 h12.1 h12.2.1 h12.2.2.1 h12.2.2.2.1 h12.2.2.2.2 ⟨Nat.le_of_ble_eq_true rfl, Nat.le_of_ble_eq_true rfl⟩ e14 dJ7_copyOf_59c91_28 ?_
    have h15 := io_cp e14 h10
    have h16 := io_cp e14 h11
    refine s_aload_n X 2 dJ7_copyOf_59c91_31 rfl rfl ?_
    cases hf
    exact s_aret X hr (Or.inr ⟨_, rfl⟩) hlk dJ7_copyOf_59c91_32
  · have hf := hs2.1 c3
    refine s_aload_n X 0 dJ7_copyOf_59c91_6 rfl rfl ?_
    exact (pk_none hf).elim
theorem dX5_put_0 : decode cX5_put 0 = .ok (.aload_n 0, 1) := dk_42 (by decide +kernel)
theorem dX5_put_1 : decode cX5_put 1 = .ok (.getfield 40, 3) := dk_180 (x := 0) (y := 40) (by decide +kernel) rfl
theorem dX5_put_4 : decode cX5_put 4 = .ok (.ldc 43, 2) := dk_18 (x := 43) (by decide +kernel)
theorem dX5_put_6 : decode cX5_put 6 = .ok (.if_icmp .lt 4, 3) := dk_161 (x := 0) (y := 4) (by decide +kernel) rfl
theorem dX5_put_9 : decode cX5_put 9 = .ok (.return_, 1) := dk_177 (by decide +kernel)
theorem dX5_put_10 : decode cX5_put 10 = .ok (.aload_n 0, 1) := dk_42 (by decide +kernel)
theorem dX5_put_11 : decode cX5_put 11 = .ok (.getfield 36, 3) := dk_180 (x := 0) (y := 36) (by decide +kernel) rfl
theorem dX5_put_14 : decode cX5_put 14 = .ok (.iconst (-1), 1) := dk_2 (by decide +kernel)
theorem dX5_put_15 : decode cX5_put 15 = .ok (.if_icmp .ne 66, 3) := dk_160 (x := 0) (y := 66) (by decide +kernel) rfl
theorem dX5_put_18 : decode cX5_put 18 = .ok (.aload_n 0, 1) := dk_42 (by decide +kernel)
theorem dX5_put_19 : decode cX5_put 19 = .ok (.getfield 44, 3) := dk_180 (x := 0) (y := 44) (by decide +kernel) rfl
theorem dX5_put_22 : decode cX5_put 22 = .ok (.aload_n 0, 1) := dk_42 (by decide +kernel)
theorem dX5_put_23 : decode cX5_put 23 = .ok (.getfield 27, 3) := dk_180 (x := 0) (y := 27) (by decide +kernel) rfl
theorem dX5_put_26 : decode cX5_put 26 = .ok (.arraylength, 1) := dk_190 (by decide +kernel)
theorem dX5_put_27 : decode cX5_put 27 = .ok (.if_icmp .lt 54, 3) := dk_161 (x := 0) (y := 54) (by decide +kernel) rfl
theorem dX5_put_30 : decode cX5_put 30 = .ok (.aload_n 0, 1) := dk_42 (by decide +kernel)
theorem dX5_put_31 : decode cX5_put 31 = .ok (.aload_n 0, 1) := dk_42 (by decide +kernel)
theorem dX5_put_32 : decode cX5_put 32 = .ok (.getfield 27, 3) := dk_180 (x := 0) (y := 27) (by decide +kernel) rfl
theorem dX5_put_35 : decode cX5_put 35 = .ok (.aload_n 0, 1) := dk_42 (by decide +kernel)
theorem dX5_put_36 : decode cX5_put 36 = .ok (.getfield 44, 3) := dk_180 (x := 0) (y := 44) (by decide +kernel) rfl
theorem dX5_put_39 : decode cX5_put 39 = .ok (.iconst 2, 1) := dk_5 (by decide +kernel)
theorem dX5_put_40 : decode cX5_put 40 = .ok (.imul, 1) := dk_104 (by decide +kernel)
theorem dX5_put_41 : decode cX5_put 41 = .ok (.invokestatic 47, 3) := dk_184 (x := 0) (y := 47) (by decide +kernel) rfl
theorem dX5_put_44 : decode cX5_put 44 = .ok (.putfield 27, 3) := dk_181 (x := 0) (y := 27) (by decide +kernel) rfl
theorem dX5_put_47 : decode cX5_put 47 = .ok (.aload_n 0, 1) := dk_42 (by decide +kernel)
theorem dX5_put_48 : decode cX5_put 48 = .ok (.aload_n 0, 1) := dk_42 (by decide +kernel)
theorem dX5_put_49 : decode cX5_put 49 = .ok (.getfield 30, 3) := dk_180 (x := 0) (y := 30) (by decide +kernel) rfl
theorem dX5_put_52 : decode cX5_put 52 = .ok (.aload_n 0, 1) := dk_42 (by decide +kernel)
theorem dX5_put_53 : decode cX5_put 53 = .ok (.getfield 44, 3) := dk_180 (x := 0) (y := 44) (by decide +kernel) rfl
theorem dX5_put_56 : decode cX5_put 56 = .ok (.iconst 2, 1) := dk_5 (by decide +kernel)
theorem dX5_put_57 : decode cX5_put 57 = .ok (.imul, 1) := dk_104 (by decide +kernel)
theorem dX5_put_58 : decode cX5_put 58 = .ok (.invokestatic 47, 3) := dk_184 (x := 0) (y := 47) (by decide +kernel) rfl
theorem dX5_put_61 : decode cX5_put 61 = .ok (.putfield 30, 3) := dk_181 (x := 0) (y := 30) (by decide +kernel) rfl
theorem dX5_put_64 : decode cX5_put 64 = .ok (.aload_n 0, 1) := dk_42 (by decide +kernel)
theorem dX5_put_65 : decode cX5_put 65 = .ok (.aload_n 0, 1) := dk_42 (by decide +kernel)
theorem dX5_put_66 : decode cX5_put 66 = .ok (.getfield 33, 3) := dk_180 (x := 0) (y := 33) (by decide +kernel) rfl
theorem dX5_put_69 : decode cX5_put 69 = .ok (.aload_n 0, 1) := dk_42 (by decide +kernel)
theorem dX5_put_70 : decode cX5_put 70 = .ok (.getfield 44, 3) := dk_180 (x := 0) (y := 44) (by decide +kernel) rfl
theorem dX5_put_73 : decode cX5_put 73 = .ok (.iconst 2, 1) := dk_5 (by decide +kernel)
theorem dX5_put_74 : decode cX5_put 74 = .ok (.imul, 1) := dk_104 (by decide +kernel)
theorem dX5_put_75 : decode cX5_put 75 = .ok (.invokestatic 47, 3) := dk_184 (x := 0) (y := 47) (by decide +kernel) rfl
theorem dX5_put_78 : decode cX5_put 78 = .ok (.putfield 33, 3) := dk_181 (x := 0) (y := 33) (by decide +kernel) rfl
theorem dX5_put_81 : decode cX5_put 81 = .ok (.aload_n 0, 1) := dk_42 (by decide +kernel)
theorem dX5_put_82 : decode cX5_put 82 = .ok (.getfield 36, 3) := dk_180 (x := 0) (y := 36) (by decide +kernel) rfl
theorem dX5_put_85 : decode cX5_put 85 = .ok (.iconst (-1), 1) := dk_2 (by decide +kernel)
theorem dX5_put_86 : decode cX5_put 86 = .ok (.if_icmp .ne 17, 3) := dk_160 (x := 0) (y := 17) (by decide +kernel) rfl
theorem dX5_put_89 : decode cX5_put 89 = .ok (.aload_n 0, 1) := dk_42 (by decide +kernel)
theorem dX5_put_90 : decode cX5_put 90 = .ok (.dup, 1) := dk_89 (by decide +kernel)
theorem dX5_put_91 : decode cX5_put 91 = .ok (.getfield 44, 3) := dk_180 (x := 0) (y := 44) (by decide +kernel) rfl
theorem dX5_put_94 : decode cX5_put 94 = .ok (.dup_x1, 1) := dk_90 (by decide +kernel)
theorem dX5_put_95 : decode cX5_put 95 = .ok (.iconst 1, 1) := dk_4 (by decide +kernel)
theorem dX5_put_96 : decode cX5_put 96 = .ok (.iadd, 1) := dk_96 (by decide +kernel)
theorem dX5_put_97 : decode cX5_put 97 = .ok (.putfield 44, 3) := dk_181 (x := 0) (y := 44) (by decide +kernel) rfl
theorem dX5_put_100 : decode cX5_put 100 = .ok (.goto 7, 3) := dk_167 (x := 0) (y := 7) (by decide +kernel) rfl
theorem dX5_put_103 : decode cX5_put 103 = .ok (.aload_n 0, 1) := dk_42 (by decide +kernel)
theorem dX5_put_104 : decode cX5_put 104 = .ok (.getfield 36, 3) := dk_180 (x := 0) (y := 36) (by decide +kernel) rfl
theorem dX5_put_107 : decode cX5_put 107 = .ok (.istore 5, 2) := dk_54 (x := 5) (by decide +kernel)
theorem dX5_put_109 : decode cX5_put 109 = .ok (.iload 5, 2) := dk_21 (x := 5) (by decide +kernel)
theorem dX5_put_111 : decode cX5_put 111 = .ok (.aload_n 0, 1) := dk_42 (by decide +kernel)
theorem dX5_put_112 : decode cX5_put 112 = .ok (.getfield 36, 3) := dk_180 (x := 0) (y := 36) (by decide +kernel) rfl
theorem dX5_put_115 : decode cX5_put 115 = .ok (.if_icmp .ne 14, 3) := dk_160 (x := 0) (y := 14) (by decide +kernel) rfl
theorem dX5_put_118 : decode cX5_put 118 = .ok (.aload_n 0, 1) := dk_42 (by decide +kernel)
theorem dX5_put_119 : decode cX5_put 119 = .ok (.aload_n 0, 1) := dk_42 (by decide +kernel)
theorem dX5_put_120 : decode cX5_put 120 = .ok (.getfield 33, 3) := dk_180 (x := 0) (y := 33) (by decide +kernel) rfl
theorem dX5_put_123 : decode cX5_put 123 = .ok (.iload 5, 2) := dk_21 (x := 5) (by decide +kernel)
theorem dX5_put_125 : decode cX5_put 125 = .ok (.iaload, 1) := dk_46 (by decide +kernel)
theorem dX5_put_126 : decode cX5_put 126 = .ok (.putfield 36, 3) := dk_181 (x := 0) (y := 36) (by decide +kernel) rfl
theorem dX5_put_129 : decode cX5_put 129 = .ok (.aload_n 0, 1) := dk_42 (by decide +kernel)
theorem dX5_put_130 : decode cX5_put 130 = .ok (.getfield 27, 3) := dk_180 (x := 0) (y := 27) (by decide +kernel) rfl
theorem dX5_put_133 : decode cX5_put 133 = .ok (.iload 5, 2) := dk_21 (x := 5) (by decide +kernel)
theorem dX5_put_135 : decode cX5_put 135 = .ok (.iload 4, 2) := dk_21 (x := 4) (by decide +kernel)
theorem dX5_put_137 : decode cX5_put 137 = .ok (.iconst 3, 1) := dk_6 (by decide +kernel)
theorem dX5_put_138 : decode cX5_put 138 = .ok (.ishl, 1) := dk_120 (by decide +kernel)
theorem dX5_put_139 : decode cX5_put 139 = .ok (.iload_n 1, 1) := dk_27 (by decide +kernel)
theorem dX5_put_140 : decode cX5_put 140 = .ok (.ior, 1) := dk_128 (by decide +kernel)
theorem dX5_put_141 : decode cX5_put 141 = .ok (.iastore, 1) := dk_79 (by decide +kernel)
theorem dX5_put_142 : decode cX5_put 142 = .ok (.aload_n 0, 1) := dk_42 (by decide +kernel)
theorem dX5_put_143 : decode cX5_put 143 = .ok (.getfield 30, 3) := dk_180 (x := 0) (y := 30) (by decide +kernel) rfl
theorem dX5_put_146 : decode cX5_put 146 = .ok (.iload 5, 2) := dk_21 (x := 5) (by decide +kernel)
theorem dX5_put_148 : decode cX5_put 148 = .ok (.aload_n 0, 1) := dk_42 (by decide +kernel)
theorem dX5_put_149 : decode cX5_put 149 = .ok (.getfield 53, 3) := dk_180 (x := 0) (y := 53) (by decide +kernel) rfl
theorem dX5_put_152 : decode cX5_put 152 = .ok (.iastore, 1) := dk_79 (by decide +kernel)
theorem dX5_put_153 : decode cX5_put 153 = .ok (.aload_n 0, 1) := dk_42 (by decide +kernel)
theorem dX5_put_154 : decode cX5_put 154 = .ok (.getfield 33, 3) := dk_180 (x := 0) (y := 33) (by decide +kernel) rfl
theorem dX5_put_157 : decode cX5_put 157 = .ok (.iload 5, 2) := dk_21 (x := 5) (by decide +kernel)
theorem dX5_put_159 : decode cX5_put 159 = .ok (.iconst (-1), 1) := dk_2 (by decide +kernel)
theorem dX5_put_160 : decode cX5_put 160 = .ok (.iastore, 1) := dk_79 (by decide +kernel)
theorem dX5_put_161 : decode cX5_put 161 = .ok (.iload_n 2, 1) := dk_28 (by decide +kernel)
theorem dX5_put_162 : decode cX5_put 162 = .ok (.bipush 16, 2) := dk_16 (x := 16) (by decide +kernel) rfl
theorem dX5_put_164 : decode cX5_put 164 = .ok (.imul, 1) := dk_104 (by decide +kernel)
theorem dX5_put_165 : decode cX5_put 165 = .ok (.iload_n 3, 1) := dk_29 (by decide +kernel)
theorem dX5_put_166 : decode cX5_put 166 = .ok (.iadd, 1) := dk_96 (by decide +kernel)
theorem dX5_put_167 : decode cX5_put 167 = .ok (.istore 6, 2) := dk_54 (x := 6) (by decide +kernel)
theorem dX5_put_169 : decode cX5_put 169 = .ok (.aload_n 0, 1) := dk_42 (by decide +kernel)
theorem dX5_put_170 : decode cX5_put 170 = .ok (.getfield 18, 3) := dk_180 (x := 0) (y := 18) (by decide +kernel) rfl
theorem dX5_put_173 : decode cX5_put 173 = .ok (.iload 6, 2) := dk_21 (x := 6) (by decide +kernel)
theorem dX5_put_175 : decode cX5_put 175 = .ok (.iaload, 1) := dk_46 (by decide +kernel)
theorem dX5_put_176 : decode cX5_put 176 = .ok (.ifCond .ne 15, 3) := dk_154 (x := 0) (y := 15) (by decide +kernel) rfl
theorem dX5_put_179 : decode cX5_put 179 = .ok (.aload_n 0, 1) := dk_42 (by decide +kernel)
theorem dX5_put_180 : decode cX5_put 180 = .ok (.getfield 9, 3) := dk_180 (x := 0) (y := 9) (by decide +kernel) rfl
theorem dX5_put_183 : decode cX5_put 183 = .ok (.iload 6, 2) := dk_21 (x := 6) (by decide +kernel)
theorem dX5_put_185 : decode cX5_put 185 = .ok (.iload 5, 2) := dk_21 (x := 5) (by decide +kernel)
theorem dX5_put_187 : decode cX5_put 187 = .ok (.iastore, 1) := dk_79 (by decide +kernel)
theorem dX5_put_188 : decode cX5_put 188 = .ok (.goto 17, 3) := dk_167 (x := 0) (y := 17) (by decide +kernel) rfl
theorem dX5_put_191 : decode cX5_put 191 = .ok (.aload_n 0, 1) := dk_42 (by decide +kernel)
theorem dX5_put_192 : decode cX5_put 192 = .ok (.getfield 33, 3) := dk_180 (x := 0) (y := 33) (by decide +kernel) rfl
theorem dX5_put_195 : decode cX5_put 195 = .ok (.aload_n 0, 1) := dk_42 (by decide +kernel)
theorem dX5_put_196 : decode cX5_put 196 = .ok (.getfield 15, 3) := dk_180 (x := 0) (y := 15) (by decide +kernel) rfl
theorem dX5_put_199 : decode cX5_put 199 = .ok (.iload 6, 2) := dk_21 (x := 6) (by decide +kernel)
theorem dX5_put_201 : decode cX5_put 201 = .ok (.iaload, 1) := dk_46 (by decide +kernel)
theorem dX5_put_202 : decode cX5_put 202 = .ok (.iload 5, 2) := dk_21 (x := 5) (by decide +kernel)
theorem dX5_put_204 : decode cX5_put 204 = .ok (.iastore, 1) := dk_79 (by decide +kernel)
theorem dX5_put_205 : decode cX5_put 205 = .ok (.aload_n 0, 1) := dk_42 (by decide +kernel)
theorem dX5_put_206 : decode cX5_put 206 = .ok (.getfield 15, 3) := dk_180 (x := 0) (y := 15) (by decide +kernel) rfl
theorem dX5_put_209 : decode cX5_put 209 = .ok (.iload 6, 2) := dk_21 (x := 6) (by decide +kernel)
theorem dX5_put_211 : decode cX5_put 211 = .ok (.iload 5, 2) := dk_21 (x := 5) (by decide +kernel)
theorem dX5_put_213 : decode cX5_put 213 = .ok (.iastore, 1) := dk_79 (by decide +kernel)
theorem dX5_put_214 : decode cX5_put 214 = .ok (.aload_n 0, 1) := dk_42 (by decide +kernel)
theorem dX5_put_215 : decode cX5_put 215 = .ok (.getfield 18, 3) := dk_180 (x := 0) (y := 18) (by decide +kernel) rfl
theorem dX5_put_218 : decode cX5_put 218 = .ok (.iload 6, 2) := dk_21 (x := 6) (by decide +kernel)
theorem dX5_put_220 : decode cX5_put 220 = .ok (.dup2, 1) := dk_92 (by decide +kernel)
theorem dX5_put_221 : decode cX5_put 221 = .ok (.iaload, 1) := dk_46 (by decide +kernel)
theorem dX5_put_222 : decode cX5_put 222 = .ok (.iconst 1, 1) := dk_4 (by decide +kernel)
theorem dX5_put_223 : decode cX5_put 223 = .ok (.iadd, 1) := dk_96 (by decide +kernel)
theorem dX5_put_224 : decode cX5_put 224 = .ok (.iastore, 1) := dk_79 (by decide +kernel)
theorem dX5_put_225 : decode cX5_put 225 = .ok (.aload_n 0, 1) := dk_42 (by decide +kernel)
theorem dX5_put_226 : decode cX5_put 226 = .ok (.getfield 21, 3) := dk_180 (x := 0) (y := 21) (by decide +kernel) rfl
theorem dX5_put_229 : decode cX5_put 229 = .ok (.iload_n 2, 1) := dk_28 (by decide +kernel)
theorem dX5_put_230 : decode cX5_put 230 = .ok (.dup2, 1) := dk_92 (by decide +kernel)
theorem dX5_put_231 : decode cX5_put 231 = .ok (.iaload, 1) := dk_46 (by decide +kernel)
theorem dX5_put_232 : decode cX5_put 232 = .ok (.iconst 1, 1) := dk_4 (by decide +kernel)
theorem dX5_put_233 : decode cX5_put 233 = .ok (.iload_n 3, 1) := dk_29 (by decide +kernel)
theorem dX5_put_234 : decode cX5_put 234 = .ok (.ishl, 1) := dk_120 (by decide +kernel)
theorem dX5_put_235 : decode cX5_put 235 = .ok (.ior, 1) := dk_128 (by decide +kernel)
theorem dX5_put_236 : decode cX5_put 236 = .ok (.iastore, 1) := dk_79 (by decide +kernel)
theorem dX5_put_237 : decode cX5_put 237 = .ok (.aload_n 0, 1) := dk_42 (by decide +kernel)
theorem dX5_put_238 : decode cX5_put 238 = .ok (.getfield 24, 3) := dk_180 (x := 0) (y := 24) (by decide +kernel) rfl
theorem dX5_put_241 : decode cX5_put 241 = .ok (.iload_n 1, 1) := dk_27 (by decide +kernel)
theorem dX5_put_242 : decode cX5_put 242 = .ok (.dup2, 1) := dk_92 (by decide +kernel)
theorem dX5_put_243 : decode cX5_put 243 = .ok (.iaload, 1) := dk_46 (by decide +kernel)
theorem dX5_put_244 : decode cX5_put 244 = .ok (.iconst 1, 1) := dk_4 (by decide +kernel)
theorem dX5_put_245 : decode cX5_put 245 = .ok (.iadd, 1) := dk_96 (by decide +kernel)
theorem dX5_put_246 : decode cX5_put 246 = .ok (.iastore, 1) := dk_79 (by decide +kernel)
theorem dX5_put_247 : decode cX5_put 247 = .ok (.aload_n 0, 1) := dk_42 (by decide +kernel)
theorem dX5_put_248 : decode cX5_put 248 = .ok (.dup, 1) := dk_89 (by decide +kernel)
theorem dX5_put_249 : decode cX5_put 249 = .ok (.getfield 40, 3) := dk_180 (x := 0) (y := 40) (by decide +kernel) rfl
theorem dX5_put_252 : decode cX5_put 252 = .ok (.iconst 1, 1) := dk_4 (by decide +kernel)
theorem dX5_put_253 : decode cX5_put 253 = .ok (.iadd, 1) := dk_96 (by decide +kernel)
theorem dX5_put_254 : decode cX5_put 254 = .ok (.putfield 40, 3) := dk_181 (x := 0) (y := 40) (by decide +kernel) rfl
theorem dX5_put_257 : decode cX5_put 257 = .ok (.return_, 1) := dk_177 (by decide +kernel)
def f_X5_put_205 (v0 : Nat) (v1 : Int32) (v2 : Int32) (v3 : Int32) (v5 : Int32) (v6 : Int32) (M : Mem) : Option Mem :=
    chk (isO M 5 v0) <|
    bnd (mR M v0 1) fun o2 =>
    chk (isO M 100 o2) <|
    chk (inB v6 (mLn M o2)) <|
    bnd (sI M o2 (v6).toNatClampNeg v5) fun M6 =>
    bnd (mR M6 v0 2) fun o10 =>
    chk (isO M6 100 o10) <|
    chk (inB v6 (mLn M6 o10)) <|
    chk (inB v6 (mLn M6 o10)) <|
    bnd (sI M6 o10 (v6).toNatClampNeg ((mI M6 o10 (v6).toNatClampNeg) + (1 : Int32))) fun M15 =>
    bnd (mR M15 v0 3) fun o20 =>
    chk (isO M15 100 o20) <|
    chk (inB v2 (mLn M15 o20)) <|
    chk (inB v2 (mLn M15 o20)) <|
    bnd (sI M15 o20 (v2).toNatClampNeg ((mI M15 o20 (v2).toNatClampNeg) ||| ((1 : Int32) <<< (v3 &&& 31)))) fun M25 =>
    bnd (mR M25 v0 4) fun o31 =>
    chk (isO M25 100 o31) <|
    chk (inB v1 (mLn M25 o31)) <|
    chk (inB v1 (mLn M25 o31)) <|
    bnd (sI M25 o31 (v1).toNatClampNeg ((mI M25 o31 (v1).toNatClampNeg) + (1 : Int32))) fun M36 =>
    bnd (sI M36 v0 10 ((mI M36 v0 10) + (1 : Int32))) fun M43 =>
    some M43
def f_X5_put_129 (v0 : Nat) (v1 : Int32) (v2 : Int32) (v3 : Int32) (v4 : Int32) (v5 : Int32) (M : Mem) : Option Mem :=
    chk (isO M 5 v0) <|
    bnd (mR M v0 5) fun o2 =>
    chk (isO M 100 o2) <|
    chk (inB v5 (mLn M o2)) <|
    bnd (sI M o2 (v5).toNatClampNeg ((v4 <<< ((3 : Int32) &&& 31)) ||| v1)) fun M6 =>
    bnd (mR M6 v0 6) fun o10 =>
    chk (isO M6 100 o10) <|
    chk (inB v5 (mLn M6 o10)) <|
    bnd (sI M6 o10 (v5).toNatClampNeg (mI M6 v0 11)) fun M14 =>
    bnd (mR M14 v0 7) fun o19 =>
    chk (isO M14 100 o19) <|
    chk (inB v5 (mLn M14 o19)) <|
    bnd (sI M14 o19 (v5).toNatClampNeg (-1 : Int32)) fun M23 =>
    bnd ((v2 * (16 : Int32)) + v3) fun x29 =>
    bnd (mR M23 v0 2) fun o31 =>
    chk (isO M23 100 o31) <|
    chk (inB x29 (mLn M23 o31)) <|
    if (mI M23 o31 (x29).toNatClampNeg) = 0 then (
      bnd (mR M23 v0 0) fun o54 =>
      chk (isO M23 100 o54) <|
      chk (inB x29 (mLn M23 o54)) <|
      bnd (sI M23 o54 (x29).toNatClampNeg v5) fun M58 =>
      f_X5_put_205 v0 v1 v2 v3 v5 x29 M58
      ) else (
      bnd (mR M23 v0 7) fun o37 =>
      chk (isO M23 100 o37) <|
      bnd (mR M23 v0 1) fun o40 =>
      chk (isO M23 100 o40) <|
      chk (inB x29 (mLn M23 o40)) <|
      chk (inB (mI M23 o40 (x29).toNatClampNeg) (mLn M23 o37)) <|
      bnd (sI M23 o37 ((mI M23 o40 (x29).toNatClampNeg)).toNatClampNeg v5) fun M45 =>
      f_X5_put_205 v0 v1 v2 v3 v5 x29 M45
      )
def f_X5_put_107 (v0 : Nat) (v1 : Int32) (v2 : Int32) (v3 : Int32) (v4 : Int32) (u0 : Int32) (M : Mem) : Option Mem :=
    chk (isO M 5 v0) <|
    if u0 = (mI M v0 9) then (
      bnd (mR M v0 7) fun o4 =>
      chk (isO M 100 o4) <|
      chk (inB u0 (mLn M o4)) <|
      bnd (sI M v0 9 (mI M o4 (u0).toNatClampNeg)) fun M8 =>
      f_X5_put_129 v0 v1 v2 v3 v4 u0 M8
      ) else (
      f_X5_put_129 v0 v1 v2 v3 v4 u0 M
      )
def f_X5_put_81 (v0 : Nat) (v1 : Int32) (v2 : Int32) (v3 : Int32) (v4 : Int32) (M : Mem) : Option Mem :=
    chk (isO M 5 v0) <|
    if (mI M v0 9) = (-1 : Int32) then (
      bnd (mI M v0 8) fun x4 =>
      bnd (sI M v0 8 (x4 + (1 : Int32))) fun M6 =>
      f_X5_put_107 v0 v1 v2 v3 v4 x4 M6
      ) else (
      f_X5_put_107 v0 v1 v2 v3 v4 (mI M v0 9) M
      )
def f_X5_put (o : Nat) (a1 : Int32) (a2 : Int32) (a3 : Int32) (a4 : Int32) (M : Mem) : Option Mem :=
  chk (isO M 5 o) <|
  if (mI M o 10) < (131072 : Int32) then (
    if (mI M o 9) = (-1 : Int32) then (
      bnd (mR M o 5) fun o6 =>
      chk (isO M 100 o6) <|
      if (mI M o 8) < (Int32.ofNat (mLn M o6)) then (
        f_X5_put_81 o a1 a2 a3 a4 M
        ) else (
        bnd (mR M o 5) fun o11 =>
        chk (isO M 100 o11) <|
        obd2 (f_J7_copyOf_59c91 o11 ((mI M o 8) * (2 : Int32)) M) fun r15 M16 =>
        chk (isO M16 5 o) <|
        chk (isO M16 100 r15) <|
        bnd (sR M16 o 5 r15) fun M18 =>
        bnd (mR M18 o 6) fun o23 =>
        chk (isO M18 100 o23) <|
        obd2 (f_J7_copyOf_59c91 o23 ((mI M18 o 8) * (2 : Int32)) M18) fun r27 M28 =>
        chk (isO M28 5 o) <|
        chk (isO M28 100 r27) <|
        bnd (sR M28 o 6 r27) fun M30 =>
        bnd (mR M30 o 7) fun o35 =>
        chk (isO M30 100 o35) <|
        obd2 (f_J7_copyOf_59c91 o35 ((mI M30 o 8) * (2 : Int32)) M30) fun r39 M40 =>
        chk (isO M40 5 o) <|
        chk (isO M40 100 r39) <|
        bnd (sR M40 o 7 r39) fun M42 =>
        f_X5_put_81 o a1 a2 a3 a4 M42
        )
      ) else (
      f_X5_put_81 o a1 a2 a3 a4 M
      )
    ) else (
    some M
    )
theorem cd_X5_put : (yX5_put.cls ≠ "java/lang/invoke/MethodHandle" ∧ yX5_put.cls ≠ "java/lang/invoke/VarHandle") ∧ (parseMethodDescriptor yX5_put.desc).map (fun d => d.parameters.length) = some 4 := ⟨⟨by decide +kernel, by decide +kernel⟩, by decide +kernel⟩
section
variable {p : Program} {l : Launch} {e : Env} {R : Room} {s : State} {m : MethodId} {args : Array Value} {below : List Frame} {meth : Method} {c : Code} {G : Gam} {M0 : Mem}
theorem l_X5_put_205 {rv : Mem} {v0 : Nat} {v1 : Int32} {v2 : Int32} {v3 : Int32} {v5 : Int32} {v6 : Int32} {M : Mem} (X : Cx p R s m args c G M0 cX5_put yX5_put.cls 7 2 50) (hr : meth.sig.returnType = none) (hlk : meth.locks = false) (hnm : meth.name = "put") (hf : f_X5_put_205 v0 v1 v2 v3 v5 v6 M = some rv) : Sg p l e R s m args below meth c (Qm below G args s none M0 rv) G M0 7 205 [(0, .ref (gB G + v0)), (1, .int v1), (2, .int v2), (3, .int v3), (5, .int v5), (6, .int v6)] [] M := by
  rw [f_X5_put_205] at hf
  refine s_aload_n X 0 dX5_put_205 rfl rfl ?_
  obtain ⟨h1, hf⟩ := pk_chk hf
  obtain ⟨o2, e3, hf⟩ := pk_bnd hf
  obtain ⟨h4, hf⟩ := pk_chk hf
  refine s_getR X (ci := 5) (k := 1) rfl (Nat.le_of_ble_eq_true rfl) h1 wd250 (fun _ _ _ => rfl) (e3 ▸ h4) dX5_put_206 (e3 ▸ ?_)
  refine s_iload X 5 dX5_put_209 rfl ?_
  refine s_iload X 4 dX5_put_211 rfl ?_
  obtain ⟨h5, hf⟩ := pk_chk hf
  obtain ⟨M6, e7, hf⟩ := pk_bnd hf
  refine s_iast X h4 h5 e7 dX5_put_213 ?_
  have h8 := io_sI e7 h1
  have h9 := io_sI e7 h4
  refine s_aload_n X 0 dX5_put_214 rfl rfl ?_
  obtain ⟨o10, e11, hf⟩ := pk_bnd hf
  obtain ⟨h12, hf⟩ := pk_chk hf
  refine s_getR X (ci := 5) (k := 2) rfl (Nat.le_of_ble_eq_true rfl) h8 wd251 (fun _ _ _ => rfl) (e11 ▸ h12) dX5_put_215 (e11 ▸ ?_)
  refine s_iload X 5 dX5_put_218 rfl ?_
  refine s_dup2 X dX5_put_220 rfl rfl ?_
  obtain ⟨h13, hf⟩ := pk_chk hf
  refine s_iald X h12 h13 dX5_put_221 ?_
  refine s_iconst X (v := (1 : Int32)) dX5_put_222 rfl ?_
  refine s_iadd X dX5_put_223 ?_
  obtain ⟨h14, hf⟩ := pk_chk hf
  obtain ⟨M15, e16, hf⟩ := pk_bnd hf
  refine s_iast X h12 h14 e16 dX5_put_224 ?_
  have h17 := io_sI e16 h8
  have h18 := io_sI e16 h9
  have h19 := io_sI e16 h12
  refine s_aload_n X 0 dX5_put_225 rfl rfl ?_
  obtain ⟨o20, e21, hf⟩ := pk_bnd hf
  obtain ⟨h22, hf⟩ := pk_chk hf
  refine s_getR X (ci := 5) (k := 3) rfl (Nat.le_of_ble_eq_true rfl) h17 wd253 (fun _ _ _ => rfl) (e21 ▸ h22) dX5_put_226 (e21 ▸ ?_)
  refine s_iload_n X 2 dX5_put_229 rfl rfl ?_
  refine s_dup2 X dX5_put_230 rfl rfl ?_
  obtain ⟨h23, hf⟩ := pk_chk hf
  refine s_iald X h22 h23 dX5_put_231 ?_
  refine s_iconst X (v := (1 : Int32)) dX5_put_232 rfl ?_
  refine s_iload_n X 3 dX5_put_233 rfl rfl ?_
  refine s_ishl X dX5_put_234 ?_
  refine s_ior X dX5_put_235 ?_
  obtain ⟨h24, hf⟩ := pk_chk hf
  obtain ⟨M25, e26, hf⟩ := pk_bnd hf
  refine s_iast X h22 h24 e26 dX5_put_236 ?_
  have h27 := io_sI e26 h17
  have h28 := io_sI e26 h18
  have h29 := io_sI e26 h19
  have h30 := io_sI e26 h22
  refine s_aload_n X 0 dX5_put_237 rfl rfl ?_
  obtain ⟨o31, e32, hf⟩ := pk_bnd hf
  obtain ⟨h33, hf⟩ := pk_chk hf
  refine s_getR X (ci := 5) (k := 4) rfl (Nat.le_of_ble_eq_true rfl) h27 wd257 (fun _ _ _ => rfl) (e32 ▸ h33) dX5_put_238 (e32 ▸ ?_)
  refine s_iload_n X 1 dX5_put_241 rfl rfl ?_
  refine s_dup2 X dX5_put_242 rfl rfl ?_
  obtain ⟨h34, hf⟩ := pk_chk hf
  refine s_iald X h33 h34 dX5_put_243 ?_
  refine s_iconst X (v := (1 : Int32)) dX5_put_244 rfl ?_
  refine s_iadd X dX5_put_245 ?_
  obtain ⟨h35, hf⟩ := pk_chk hf
  obtain ⟨M36, e37, hf⟩ := pk_bnd hf
  refine s_iast X h33 h35 e37 dX5_put_246 ?_
  have h38 := io_sI e37 h27
  have h39 := io_sI e37 h28
  have h40 := io_sI e37 h29
  have h41 := io_sI e37 h30
  have h42 := io_sI e37 h33
  refine s_aload_n X 0 dX5_put_247 rfl rfl ?_
  refine s_dup X dX5_put_248 rfl ?_
  refine s_getI X (ci := 5) (k := 10) rfl (Nat.le_of_ble_eq_true rfl) h38 wd267 (fun _ _ _ => rfl) dX5_put_249 ?_
  refine s_iconst X (v := (1 : Int32)) dX5_put_252 rfl ?_
  refine s_iadd X dX5_put_253 ?_
  obtain ⟨M43, e44, hf⟩ := pk_bnd hf
  refine s_putI X (ci := 5) (k := 10) rfl (Nat.le_of_ble_eq_true rfl) h38 wd267 (fun _ _ _ => rfl) rfl rfl e44 dX5_put_254 ?_
  have h45 := io_sI e44 h38
  have h46 := io_sI e44 h39
  have h47 := io_sI e44 h40
  have h48 := io_sI e44 h41
  have h49 := io_sI e44 h42
  cases hf
  exact s_vret X hr hlk dX5_put_257
theorem l_X5_put_129 {rv : Mem} {v0 : Nat} {v1 : Int32} {v2 : Int32} {v3 : Int32} {v4 : Int32} {v5 : Int32} {M : Mem} (X : Cx p R s m args c G M0 cX5_put yX5_put.cls 7 2 50) (hr : meth.sig.returnType = none) (hlk : meth.locks = false) (hnm : meth.name = "put") (hf : f_X5_put_129 v0 v1 v2 v3 v4 v5 M = some rv) : Sg p l e R s m args below meth c (Qm below G args s none M0 rv) G M0 7 129 [(0, .ref (gB G + v0)), (1, .int v1), (2, .int v2), (3, .int v3), (4, .int v4), (5, .int v5)] [] M := by
  rw [f_X5_put_129] at hf
  refine s_aload_n X 0 dX5_put_129 rfl rfl ?_
  obtain ⟨h1, hf⟩ := pk_chk hf
  obtain ⟨o2, e3, hf⟩ := pk_bnd hf
  obtain ⟨h4, hf⟩ := pk_chk hf
  refine s_getR X (ci := 5) (k := 5) rfl (Nat.le_of_ble_eq_true rfl) h1 wd259 (fun _ _ _ => rfl) (e3 ▸ h4) dX5_put_130 (e3 ▸ ?_)
  refine s_iload X 5 dX5_put_133 rfl ?_
  refine s_iload X 4 dX5_put_135 rfl ?_
  refine s_iconst X (v := (3 : Int32)) dX5_put_137 rfl ?_
  refine s_ishl X dX5_put_138 ?_
  refine s_iload_n X 1 dX5_put_139 rfl rfl ?_
  refine s_ior X dX5_put_140 ?_
  obtain ⟨h5, hf⟩ := pk_chk hf
  obtain ⟨M6, e7, hf⟩ := pk_bnd hf
  refine s_iast X h4 h5 e7 dX5_put_141 ?_
  have h8 := io_sI e7 h1
  have h9 := io_sI e7 h4
  refine s_aload_n X 0 dX5_put_142 rfl rfl ?_
  obtain ⟨o10, e11, hf⟩ := pk_bnd hf
  obtain ⟨h12, hf⟩ := pk_chk hf
  refine s_getR X (ci := 5) (k := 6) rfl (Nat.le_of_ble_eq_true rfl) h8 wd261 (fun _ _ _ => rfl) (e11 ▸ h12) dX5_put_143 (e11 ▸ ?_)
  refine s_iload X 5 dX5_put_146 rfl ?_
  refine s_aload_n X 0 dX5_put_148 rfl rfl ?_
  refine s_getI X (ci := 5) (k := 11) rfl (Nat.le_of_ble_eq_true rfl) h8 wd272 (fun _ _ _ => rfl) dX5_put_149 ?_
  obtain ⟨h13, hf⟩ := pk_chk hf
  obtain ⟨M14, e15, hf⟩ := pk_bnd hf
  refine s_iast X h12 h13 e15 dX5_put_152 ?_
  have h16 := io_sI e15 h8
  have h17 := io_sI e15 h9
  have h18 := io_sI e15 h12
  refine s_aload_n X 0 dX5_put_153 rfl rfl ?_
  obtain ⟨o19, e20, hf⟩ := pk_bnd hf
  obtain ⟨h21, hf⟩ := pk_chk hf
  refine s_getR X (ci := 5) (k := 7) rfl (Nat.le_of_ble_eq_true rfl) h16 wd262 (fun _ _ _ => rfl) (e20 ▸ h21) dX5_put_154 (e20 ▸ ?_)
  refine s_iload X 5 dX5_put_157 rfl ?_
  refine s_iconst X (v := (-1 : Int32)) dX5_put_159 rfl ?_
  obtain ⟨h22, hf⟩ := pk_chk hf
  obtain ⟨M23, e24, hf⟩ := pk_bnd hf
  refine s_iast X h21 h22 e24 dX5_put_160 ?_
  have h25 := io_sI e24 h16
  have h26 := io_sI e24 h17
  have h27 := io_sI e24 h18
  have h28 := io_sI e24 h21
  refine s_iload_n X 2 dX5_put_161 rfl rfl ?_
  refine s_bipush X (v := (16 : Int32)) dX5_put_162 rfl ?_
  refine s_imul X dX5_put_164 ?_
  refine s_iload_n X 3 dX5_put_165 rfl rfl ?_
  refine s_iadd X dX5_put_166 ?_
  obtain ⟨x29, e30, hf⟩ := pk_bnd hf
  refine s_nmI e30 ?_
  refine s_istore X (vs' := [(0, .ref (gB G + v0)), (1, .int v1), (2, .int v2), (3, .int v3), (4, .int v4), (5, .int v5), (6, .int x29)]) dX5_put_167 (Nat.le_of_ble_eq_true rfl) [1, 2, 3, 4, 5, 6, 0] rfl ?_
  refine s_aload_n X 0 dX5_put_169 rfl rfl ?_
  obtain ⟨o31, e32, hf⟩ := pk_bnd hf
  obtain ⟨h33, hf⟩ := pk_chk hf
  refine s_getR X (ci := 5) (k := 2) rfl (Nat.le_of_ble_eq_true rfl) h25 wd251 (fun _ _ _ => rfl) (e32 ▸ h33) dX5_put_170 (e32 ▸ ?_)
  refine s_iload X 6 dX5_put_173 rfl ?_
  obtain ⟨h34, hf⟩ := pk_chk hf
  refine s_iald X h33 h34 dX5_put_175 ?_
  have hs35 := pk_ite hf
  clear hf
  refine s_if_ne X (tgt := 191) dX5_put_176 rfl (fun c36 => ?_) (fun c36 => ?_)
  · have hf := hs35.2 c36
    refine s_aload_n X 0 dX5_put_191 rfl rfl ?_
    obtain ⟨o37, e38, hf⟩ := pk_bnd hf
    obtain ⟨h39, hf⟩ := pk_chk hf
    refine s_getR X (ci := 5) (k := 7) rfl (Nat.le_of_ble_eq_true rfl) h25 wd262 (fun _ _ _ => rfl) (e38 ▸ h39) dX5_put_192 (e38 ▸ ?_)
    refine s_aload_n X 0 dX5_put_195 rfl rfl ?_
    obtain ⟨o40, e41, hf⟩ := pk_bnd hf
    obtain ⟨h42, hf⟩ := pk_chk hf
    refine s_getR X (ci := 5) (k := 1) rfl (Nat.le_of_ble_eq_true rfl) h25 wd250 (fun _ _ _ => rfl) (e41 ▸ h42) dX5_put_196 (e41 ▸ ?_)
    refine s_iload X 6 dX5_put_199 rfl ?_
    obtain ⟨h43, hf⟩ := pk_chk hf
    refine s_iald X h42 h43 dX5_put_201 ?_
    refine s_iload X 5 dX5_put_202 rfl ?_
    obtain ⟨h44, hf⟩ := pk_chk hf
    obtain ⟨M45, e46, hf⟩ := pk_bnd hf
    refine s_iast X h39 h44 e46 dX5_put_204 ?_
    have h47 := io_sI e46 h25
    have h48 := io_sI e46 h26
    have h49 := io_sI e46 h27
    have h50 := io_sI e46 h28
    have h51 := io_sI e46 h33
    have h52 := io_sI e46 h39
    have h53 := io_sI e46 h42
    refine s_drop [0, 1, 2, 3, 5, 6] (vs' := [(0, .ref (gB G + v0)), (1, .int v1), (2, .int v2), (3, .int v3), (5, .int v5), (6, .int x29)]) rfl ?_
    exact l_X5_put_205 X hr hlk hnm hf
  · have hf := hs35.1 c36
    refine s_aload_n X 0 dX5_put_179 rfl rfl ?_
    obtain ⟨o54, e55, hf⟩ := pk_bnd hf
    obtain ⟨h56, hf⟩ := pk_chk hf
    refine s_getR X (ci := 5) (k := 0) rfl (Nat.le_of_ble_eq_true rfl) h25 wd248 (fun _ _ _ => rfl) (e55 ▸ h56) dX5_put_180 (e55 ▸ ?_)
    refine s_iload X 6 dX5_put_183 rfl ?_
    refine s_iload X 5 dX5_put_185 rfl ?_
    obtain ⟨h57, hf⟩ := pk_chk hf
    obtain ⟨M58, e59, hf⟩ := pk_bnd hf
    refine s_iast X h56 h57 e59 dX5_put_187 ?_
    have h60 := io_sI e59 h25
    have h61 := io_sI e59 h26
    have h62 := io_sI e59 h27
    have h63 := io_sI e59 h28
    have h64 := io_sI e59 h33
    have h65 := io_sI e59 h56
    refine s_goto X (tgt := 205) dX5_put_188 rfl ?_
    refine s_drop [0, 1, 2, 3, 5, 6] (vs' := [(0, .ref (gB G + v0)), (1, .int v1), (2, .int v2), (3, .int v3), (5, .int v5), (6, .int x29)]) rfl ?_
    exact l_X5_put_205 X hr hlk hnm hf
theorem l_X5_put_107 {rv : Mem} {v0 : Nat} {v1 : Int32} {v2 : Int32} {v3 : Int32} {v4 : Int32} {u0 : Int32} {M : Mem} (X : Cx p R s m args c G M0 cX5_put yX5_put.cls 7 2 50) (hr : meth.sig.returnType = none) (hlk : meth.locks = false) (hnm : meth.name = "put") (hf : f_X5_put_107 v0 v1 v2 v3 v4 u0 M = some rv) : Sg p l e R s m args below meth c (Qm below G args s none M0 rv) G M0 7 107 [(0, .ref (gB G + v0)), (1, .int v1), (2, .int v2), (3, .int v3), (4, .int v4)] [.int u0] M := by
  rw [f_X5_put_107] at hf
  refine s_istore X (vs' := [(0, .ref (gB G + v0)), (1, .int v1), (2, .int v2), (3, .int v3), (4, .int v4), (5, .int u0)]) dX5_put_107 (Nat.le_of_ble_eq_true rfl) [1, 2, 3, 4, 5, 0] rfl ?_
  refine s_iload X 5 dX5_put_109 rfl ?_
  refine s_aload_n X 0 dX5_put_111 rfl rfl ?_
  obtain ⟨h1, hf⟩ := pk_chk hf
  refine s_getI X (ci := 5) (k := 9) rfl (Nat.le_of_ble_eq_true rfl) h1 wd265 (fun _ _ _ => rfl) dX5_put_112 ?_
  have hs2 := pk_ite hf
  clear hf
  refine s_icmp_ne X (tgt := 129) dX5_put_115 rfl (fun c3 => ?_) (fun c3 => ?_)
  · have hf := hs2.2 c3
    exact l_X5_put_129 X hr hlk hnm hf
  · have hf := hs2.1 c3
    refine s_aload_n X 0 dX5_put_118 rfl rfl ?_
    refine s_aload_n X 0 dX5_put_119 rfl rfl ?_
    obtain ⟨o4, e5, hf⟩ := pk_bnd hf
    obtain ⟨h6, hf⟩ := pk_chk hf
    refine s_getR X (ci := 5) (k := 7) rfl (Nat.le_of_ble_eq_true rfl) h1 wd262 (fun _ _ _ => rfl) (e5 ▸ h6) dX5_put_120 (e5 ▸ ?_)
    refine s_iload X 5 dX5_put_123 rfl ?_
    obtain ⟨h7, hf⟩ := pk_chk hf
    refine s_iald X h6 h7 dX5_put_125 ?_
    obtain ⟨M8, e9, hf⟩ := pk_bnd hf
    refine s_putI X (ci := 5) (k := 9) rfl (Nat.le_of_ble_eq_true rfl) h1 wd265 (fun _ _ _ => rfl) rfl rfl e9 dX5_put_126 ?_
    have h10 := io_sI e9 h1
    have h11 := io_sI e9 h6
    exact l_X5_put_129 X hr hlk hnm hf
theorem l_X5_put_81 {rv : Mem} {v0 : Nat} {v1 : Int32} {v2 : Int32} {v3 : Int32} {v4 : Int32} {M : Mem} (X : Cx p R s m args c G M0 cX5_put yX5_put.cls 7 2 50) (hr : meth.sig.returnType = none) (hlk : meth.locks = false) (hnm : meth.name = "put") (hf : f_X5_put_81 v0 v1 v2 v3 v4 M = some rv) : Sg p l e R s m args below meth c (Qm below G args s none M0 rv) G M0 7 81 [(0, .ref (gB G + v0)), (1, .int v1), (2, .int v2), (3, .int v3), (4, .int v4)] [] M := by
  rw [f_X5_put_81] at hf
  refine s_aload_n X 0 dX5_put_81 rfl rfl ?_
  obtain ⟨h1, hf⟩ := pk_chk hf
  refine s_getI X (ci := 5) (k := 9) rfl (Nat.le_of_ble_eq_true rfl) h1 wd265 (fun _ _ _ => rfl) dX5_put_82 ?_
  refine s_iconst X (v := (-1 : Int32)) dX5_put_85 rfl ?_
  have hs2 := pk_ite hf
  clear hf
  refine s_icmp_ne X (tgt := 103) dX5_put_86 rfl (fun c3 => ?_) (fun c3 => ?_)
  · have hf := hs2.2 c3
    refine s_aload_n X 0 dX5_put_103 rfl rfl ?_
    refine s_getI X (ci := 5) (k := 9) rfl (Nat.le_of_ble_eq_true rfl) h1 wd265 (fun _ _ _ => rfl) dX5_put_104 ?_
    exact l_X5_put_107 X hr hlk hnm hf
  · have hf := hs2.1 c3
    refine s_aload_n X 0 dX5_put_89 rfl rfl ?_
    refine s_dup X dX5_put_90 rfl ?_
    refine s_getI X (ci := 5) (k := 8) rfl (Nat.le_of_ble_eq_true rfl) h1 wd264 (fun _ _ _ => rfl) dX5_put_91 ?_
    obtain ⟨x4, e5, hf⟩ := pk_bnd hf
    refine s_nmI e5 ?_
    refine s_dup_x1 X dX5_put_94 rfl rfl ?_
    refine s_iconst X (v := (1 : Int32)) dX5_put_95 rfl ?_
    refine s_iadd X dX5_put_96 ?_
    obtain ⟨M6, e7, hf⟩ := pk_bnd hf
    refine s_putI X (ci := 5) (k := 8) rfl (Nat.le_of_ble_eq_true rfl) h1 wd264 (fun _ _ _ => rfl) rfl rfl e7 dX5_put_97 ?_
    have h8 := io_sI e7 h1
    refine s_goto X (tgt := 107) dX5_put_100 rfl ?_
    exact l_X5_put_107 X hr hlk hnm hf
end
theorem k_X5_put (G : Gam) {o : Nat} {a1 : Int32} {a2 : Int32} {a3 : Int32} {a4 : Int32} {M : Mem} {rv : Mem} (hf : f_X5_put o a1 a2 a3 a4 M = some rv) : Kt yX5_put cX5_put 7 none 2 50 G [.ref (gB G + o), .int a1, .int a2, .int a3, .int a4] M rv none := by
  refine Kt.of (by decide) (Nat.le_of_ble_eq_true rfl) ?_
  intro p l e R s m args below meth c X hr hlk hnm
  refine s_drop [0, 1, 2, 3, 4] (vs' := [(0, .ref (gB G + o)), (1, .int a1), (2, .int a2), (3, .int a3), (4, .int a4)]) rfl ?_
  rw [f_X5_put] at hf
  refine s_aload_n X 0 dX5_put_0 rfl rfl ?_
  obtain ⟨h1, hf⟩ := pk_chk hf
  refine s_getI X (ci := 5) (k := 10) rfl (Nat.le_of_ble_eq_true rfl) h1 wd267 (fun _ _ _ => rfl) dX5_put_1 ?_
  refine s_ldc X (v := (131072 : Int32)) dX5_put_4 wd949 ?_
  have hs2 := pk_ite hf
  clear hf
  refine s_icmp_lt X (tgt := 10) dX5_put_6 rfl (fun c3 => ?_) (fun c3 => ?_)
  · have hf := hs2.1 c3
    refine s_aload_n X 0 dX5_put_10 rfl rfl ?_
    refine s_getI X (ci := 5) (k := 9) rfl (Nat.le_of_ble_eq_true rfl) h1 wd265 (fun _ _ _ => rfl) dX5_put_11 ?_
    refine s_iconst X (v := (-1 : Int32)) dX5_put_14 rfl ?_
    have hs4 := pk_ite hf
    clear hf
    refine s_icmp_ne X (tgt := 81) dX5_put_15 rfl (fun c5 => ?_) (fun c5 => ?_)
    · have hf := hs4.2 c5
      exact l_X5_put_81 X hr hlk hnm hf
    · have hf := hs4.1 c5
      refine s_aload_n X 0 dX5_put_18 rfl rfl ?_
      refine s_getI X (ci := 5) (k := 8) rfl (Nat.le_of_ble_eq_true rfl) h1 wd264 (fun _ _ _ => rfl) dX5_put_19 ?_
      refine s_aload_n X 0 dX5_put_22 rfl rfl ?_
      obtain ⟨o6, e7, hf⟩ := pk_bnd hf
      obtain ⟨h8, hf⟩ := pk_chk hf
      refine s_getR X (ci := 5) (k := 5) rfl (Nat.le_of_ble_eq_true rfl) h1 wd259 (fun _ _ _ => rfl) (e7 ▸ h8) dX5_put_23 (e7 ▸ ?_)
      refine s_alen X h8 rfl dX5_put_26 ?_
      have hs9 := pk_ite hf
      clear hf
      refine s_icmp_lt X (tgt := 81) dX5_put_27 rfl (fun c10 => ?_) (fun c10 => ?_)
      · have hf := hs9.1 c10
        exact l_X5_put_81 X hr hlk hnm hf
      · have hf := hs9.2 c10
        refine s_aload_n X 0 dX5_put_30 rfl rfl ?_
        refine s_aload_n X 0 dX5_put_31 rfl rfl ?_
        obtain ⟨o11, e12, hf⟩ := pk_bnd hf
        obtain ⟨h13, hf⟩ := pk_chk hf
        refine s_getR X (ci := 5) (k := 5) rfl (Nat.le_of_ble_eq_true rfl) h1 wd259 (fun _ _ _ => rfl) (e12 ▸ h13) dX5_put_32 (e12 ▸ ?_)
        refine s_aload_n X 0 dX5_put_35 rfl rfl ?_
        refine s_getI X (ci := 5) (k := 8) rfl (Nat.le_of_ble_eq_true rfl) h1 wd264 (fun _ _ _ => rfl) dX5_put_36 ?_
        refine s_iconst X (v := (2 : Int32)) dX5_put_39 rfl ?_
        refine s_imul X dX5_put_40 ?_
        obtain ⟨r15, M16, hc14, hf⟩ := pk_obd2 hf
        refine s_callS X (k_J7_copyOf_59c91 G hc14) wd950 wd951 wd952 wd136 cd_J7_copyOf_59c91 ⟨Nat.le_of_ble_eq_true rfl, Nat.le_of_ble_eq_true rfl⟩ (Nat.le_of_ble_eq_true rfl) dX5_put_41 ?_
        obtain ⟨h17, hf⟩ := pk_chk hf
        obtain ⟨h20, hf⟩ := pk_chk hf
        obtain ⟨M18, e19, hf⟩ := pk_bnd hf
        refine s_putR X (ci := 5) (k := 5) rfl (Nat.le_of_ble_eq_true rfl) h17 wd259 (fun _ _ _ => rfl) h20 (fun _ => ⟨rfl, rfl⟩) rfl e19 dX5_put_44 ?_
        have h21 := io_sR e19 h17
        have h22 := io_sR e19 h20
        refine s_aload_n X 0 dX5_put_47 rfl rfl ?_
        refine s_aload_n X 0 dX5_put_48 rfl rfl ?_
        obtain ⟨o23, e24, hf⟩ := pk_bnd hf
        obtain ⟨h25, hf⟩ := pk_chk hf
        refine s_getR X (ci := 5) (k := 6) rfl (Nat.le_of_ble_eq_true rfl) h21 wd261 (fun _ _ _ => rfl) (e24 ▸ h25) dX5_put_49 (e24 ▸ ?_)
        refine s_aload_n X 0 dX5_put_52 rfl rfl ?_
        refine s_getI X (ci := 5) (k := 8) rfl (Nat.le_of_ble_eq_true rfl) h21 wd264 (fun _ _ _ => rfl) dX5_put_53 ?_
        refine s_iconst X (v := (2 : Int32)) dX5_put_56 rfl ?_
        refine s_imul X dX5_put_57 ?_
        obtain ⟨r27, M28, hc26, hf⟩ := pk_obd2 hf
        refine s_callS X (k_J7_copyOf_59c91 G hc26) wd950 wd951 wd952 wd136 cd_J7_copyOf_59c91 ⟨Nat.le_of_ble_eq_true rfl, Nat.le_of_ble_eq_true rfl⟩ (Nat.le_of_ble_eq_true rfl) dX5_put_58 ?_
        obtain ⟨h29, hf⟩ := pk_chk hf
        obtain ⟨h32, hf⟩ := pk_chk hf
        obtain ⟨M30, e31, hf⟩ := pk_bnd hf
        refine s_putR X (ci := 5) (k := 6) rfl (Nat.le_of_ble_eq_true rfl) h29 wd261 (fun _ _ _ => rfl) h32 (fun _ => ⟨rfl, rfl⟩) rfl e31 dX5_put_61 ?_
        have h33 := io_sR e31 h29
        have h34 := io_sR e31 h32
        refine s_aload_n X 0 dX5_put_64 rfl rfl ?_
        refine s_aload_n X 0 dX5_put_65 rfl rfl ?_
        obtain ⟨o35, e36, hf⟩ := pk_bnd hf
        obtain ⟨h37, hf⟩ := pk_chk hf
        refine s_getR X (ci := 5) (k := 7) rfl (Nat.le_of_ble_eq_true rfl) h33 wd262 (fun _ _ _ => rfl) (e36 ▸ h37) dX5_put_66 (e36 ▸ ?_)
        refine s_aload_n X 0 dX5_put_69 rfl rfl ?_
        refine s_getI X (ci := 5) (k := 8) rfl (Nat.le_of_ble_eq_true rfl) h33 wd264 (fun _ _ _ => rfl) dX5_put_70 ?_
        refine s_iconst X (v := (2 : Int32)) dX5_put_73 rfl ?_
        refine s_imul X dX5_put_74 ?_
        obtain ⟨r39, M40, hc38, hf⟩ := pk_obd2 hf
        refine s_callS X (k_J7_copyOf_59c91 G hc38) wd950 wd951 wd952 wd136 cd_J7_copyOf_59c91 ⟨Nat.le_of_ble_eq_true rfl, Nat.le_of_ble_eq_true rfl⟩ (Nat.le_of_ble_eq_true rfl) dX5_put_75 ?_
        obtain ⟨h41, hf⟩ := pk_chk hf
        obtain ⟨h44, hf⟩ := pk_chk hf
        obtain ⟨M42, e43, hf⟩ := pk_bnd hf
        refine s_putR X (ci := 5) (k := 7) rfl (Nat.le_of_ble_eq_true rfl) h41 wd262 (fun _ _ _ => rfl) h44 (fun _ => ⟨rfl, rfl⟩) rfl e43 dX5_put_78 ?_
        have h45 := io_sR e43 h41
        have h46 := io_sR e43 h44
        exact l_X5_put_81 X hr hlk hnm hf
  · have hf := hs2.2 c3
    cases hf
    exact s_vret X hr hlk dX5_put_9
theorem dX2_sendToAll_0 : decode cX2_sendToAll 0 = .ok (.iconst 0, 1) := dk_3 (by decide +kernel)
theorem dX2_sendToAll_1 : decode cX2_sendToAll 1 = .ok (.istore 4, 2) := dk_54 (x := 4) (by decide +kernel)
theorem dX2_sendToAll_3 : decode cX2_sendToAll 3 = .ok (.iload 4, 2) := dk_21 (x := 4) (by decide +kernel)
theorem dX2_sendToAll_5 : decode cX2_sendToAll 5 = .ok (.aload_n 0, 1) := dk_42 (by decide +kernel)
theorem dX2_sendToAll_6 : decode cX2_sendToAll 6 = .ok (.getfield 43, 3) := dk_180 (x := 0) (y := 43) (by decide +kernel) rfl
theorem dX2_sendToAll_9 : decode cX2_sendToAll 9 = .ok (.getfield 94, 3) := dk_180 (x := 0) (y := 94) (by decide +kernel) rfl
theorem dX2_sendToAll_12 : decode cX2_sendToAll 12 = .ok (.if_icmp .ge 38, 3) := dk_162 (x := 0) (y := 38) (by decide +kernel) rfl
theorem dX2_sendToAll_15 : decode cX2_sendToAll 15 = .ok (.iload_n 3, 1) := dk_29 (by decide +kernel)
theorem dX2_sendToAll_16 : decode cX2_sendToAll 16 = .ok (.iload 4, 2) := dk_21 (x := 4) (by decide +kernel)
theorem dX2_sendToAll_18 : decode cX2_sendToAll 18 = .ok (.invokestatic 108, 3) := dk_184 (x := 0) (y := 108) (by decide +kernel) rfl
theorem dX2_sendToAll_21 : decode cX2_sendToAll 21 = .ok (.ifCond .eq 23, 3) := dk_153 (x := 0) (y := 23) (by decide +kernel) rfl
theorem dX2_sendToAll_24 : decode cX2_sendToAll 24 = .ok (.aload_n 0, 1) := dk_42 (by decide +kernel)
theorem dX2_sendToAll_25 : decode cX2_sendToAll 25 = .ok (.getfield 12, 3) := dk_180 (x := 0) (y := 12) (by decide +kernel) rfl
theorem dX2_sendToAll_28 : decode cX2_sendToAll 28 = .ok (.iload_n 1, 1) := dk_27 (by decide +kernel)
theorem dX2_sendToAll_29 : decode cX2_sendToAll 29 = .ok (.iload_n 2, 1) := dk_28 (by decide +kernel)
theorem dX2_sendToAll_30 : decode cX2_sendToAll 30 = .ok (.iload 4, 2) := dk_21 (x := 4) (by decide +kernel)
theorem dX2_sendToAll_32 : decode cX2_sendToAll 32 = .ok (.aload_n 0, 1) := dk_42 (by decide +kernel)
theorem dX2_sendToAll_33 : decode cX2_sendToAll 33 = .ok (.getfield 20, 3) := dk_180 (x := 0) (y := 20) (by decide +kernel) rfl
theorem dX2_sendToAll_36 : decode cX2_sendToAll 36 = .ok (.iload_n 2, 1) := dk_28 (by decide +kernel)
theorem dX2_sendToAll_37 : decode cX2_sendToAll 37 = .ok (.aaload, 1) := dk_50 (by decide +kernel)
theorem dX2_sendToAll_38 : decode cX2_sendToAll 38 = .ok (.getfield 118, 3) := dk_180 (x := 0) (y := 118) (by decide +kernel) rfl
theorem dX2_sendToAll_41 : decode cX2_sendToAll 41 = .ok (.invokevirtual 147, 3) := dk_182 (x := 0) (y := 147) (by decide +kernel) rfl
theorem dX2_sendToAll_44 : decode cX2_sendToAll 44 = .ok (.iinc 4 1, 3) := dk_132 (x := 4) (y := 1) (by decide +kernel) rfl
theorem dX2_sendToAll_47 : decode cX2_sendToAll 47 = .ok (.goto (-44), 3) := dk_167 (x := 255) (y := 212) (by decide +kernel) rfl
theorem dX2_sendToAll_50 : decode cX2_sendToAll 50 = .ok (.return_, 1) := dk_177 (by decide +kernel)
def f_X2_sendToAll_3 : Nat → Nat → Int32 → Int32 → Int32 → Int32 → Mem → Option Mem
  | 0, _, _, _, _, _, _ => none
  | n + 1, v0, v1, v2, v3, v4, M =>
    chk (isO M 2 v0) <|
    bnd (mR M v0 0) fun o2 =>
    chk (isO M 7 o2) <|
    if (mI M o2 3) ≤ v4 then (
      some M
      ) else (
      obd (f_X9_has v3 v4 M) fun r8 =>
      if r8 = 0 then (
        bnd (v4 + (1 : Int32)) fun x11 =>
        f_X2_sendToAll_3 n v0 v1 v2 v3 x11 M
        ) else (
        bnd (mR M v0 1) fun o13 =>
        chk (isO M 5 o13) <|
        bnd (mR M v0 2) fun o16 =>
        chk (isO M 102 o16) <|
        chk (inB v2 (mLn M o16)) <|
        bnd (mR M o16 (v2).toNatClampNeg) fun o20 =>
        chk (isO M 4 o20) <|
        obd (f_X5_put o13 v1 v2 v4 (mI M o20 1) M) fun M24 =>
        bnd (v4 + (1 : Int32)) fun x25 =>
        f_X2_sendToAll_3 n v0 v1 v2 v3 x25 M24
        )
      )
def f_X2_sendToAll (n : Nat) (o : Nat) (a1 : Int32) (a2 : Int32) (a3 : Int32) (M : Mem) : Option Mem :=
  f_X2_sendToAll_3 n o a1 a2 a3 (0 : Int32) M
theorem cd_X2_sendToAll : (yX2_sendToAll.cls ≠ "java/lang/invoke/MethodHandle" ∧ yX2_sendToAll.cls ≠ "java/lang/invoke/VarHandle") ∧ (parseMethodDescriptor yX2_sendToAll.desc).map (fun d => d.parameters.length) = some 3 := ⟨⟨by decide +kernel, by decide +kernel⟩, by decide +kernel⟩
section
variable {p : Program} {l : Launch} {e : Env} {R : Room} {s : State} {m : MethodId} {args : Array Value} {below : List Frame} {meth : Method} {c : Code} {G : Gam} {M0 : Mem}
theorem l_X2_sendToAll_3 {rv : Mem} (X : Cx p R s m args c G M0 cX2_sendToAll yX2_sendToAll.cls 5 3 76) (hr : meth.sig.returnType = none) (hlk : meth.locks = false) (hnm : meth.name = "sendToAll") : ∀ {n : Nat} (v0 : Nat) (v1 : Int32) (v2 : Int32) (v3 : Int32) (v4 : Int32) (M : Mem), f_X2_sendToAll_3 n v0 v1 v2 v3 v4 M = some rv → Sg p l e R s m args below meth c (Qm below G args s none M0 rv) G M0 5 3 [(0, .ref (gB G + v0)), (1, .int v1), (2, .int v2), (3, .int v3), (4, .int v4)] [] M := by
  intro n
  induction n with
  | zero => intro v0 v1 v2 v3 v4 M hf; exact (pk_none hf).elim
  | succ n ih =>
    intro v0 v1 v2 v3 v4 M hf
    rw [f_X2_sendToAll_3] at hf
    refine s_iload X 4 dX2_sendToAll_3 rfl ?_
    refine s_aload_n X 0 dX2_sendToAll_5 rfl rfl ?_
    obtain ⟨h1, hf⟩ := pk_chk hf
    obtain ⟨o2, e3, hf⟩ := pk_bnd hf
    obtain ⟨h4, hf⟩ := pk_chk hf
    refine s_getR X (ci := 2) (k := 0) rfl (Nat.le_of_ble_eq_true rfl) h1 wd416 (fun _ _ _ => rfl) (e3 ▸ h4) dX2_sendToAll_6 (e3 ▸ ?_)
    refine s_getI X (ci := 7) (k := 3) rfl (Nat.le_of_ble_eq_true rfl) h4 wd166 (fun _ _ _ => rfl) dX2_sendToAll_9 ?_
    have hs5 := pk_ite hf
    clear hf
    refine s_icmp_ge X (tgt := 50) dX2_sendToAll_12 rfl (fun c6 => ?_) (fun c6 => ?_)
    · have hf := hs5.1 c6
      cases hf
      exact s_vret X hr hlk dX2_sendToAll_50
    · have hf := hs5.2 c6
      refine s_iload_n X 3 dX2_sendToAll_15 rfl rfl ?_
      refine s_iload X 4 dX2_sendToAll_16 rfl ?_
      obtain ⟨r8, hc7, hf⟩ := pk_obd hf
      refine s_callSN X (k_X9_has G hc7) (host := "QuorumGate") ns_8 wd712 wd713 wd126 cd_X9_has ⟨Nat.le_of_ble_eq_true rfl, Nat.le_of_ble_eq_true rfl⟩ (Nat.le_of_ble_eq_true rfl) dX2_sendToAll_18 ?_
      have hs9 := pk_ite hf
      clear hf
      refine s_if_eq X (tgt := 44) dX2_sendToAll_21 rfl (fun c10 => ?_) (fun c10 => ?_)
      · have hf := hs9.1 c10
        obtain ⟨x11, e12, hf⟩ := pk_bnd hf
        refine s_iinc X (vs' := [(0, .ref (gB G + v0)), (1, .int v1), (2, .int v2), (3, .int v3), (4, .int x11)]) 4 dX2_sendToAll_44 rfl (v := x11) e12.symm (Nat.le_of_ble_eq_true rfl) [1, 2, 3, 4, 0] rfl ?_
        refine s_goto X (tgt := 3) dX2_sendToAll_47 rfl ?_
        exact ih _ _ _ _ _ _ hf
      · have hf := hs9.2 c10
        refine s_aload_n X 0 dX2_sendToAll_24 rfl rfl ?_
        obtain ⟨o13, e14, hf⟩ := pk_bnd hf
        obtain ⟨h15, hf⟩ := pk_chk hf
        refine s_getR X (ci := 2) (k := 1) rfl (Nat.le_of_ble_eq_true rfl) h1 wd419 (fun _ _ _ => rfl) (e14 ▸ h15) dX2_sendToAll_25 (e14 ▸ ?_)
        refine s_iload_n X 1 dX2_sendToAll_28 rfl rfl ?_
        refine s_iload_n X 2 dX2_sendToAll_29 rfl rfl ?_
        refine s_iload X 4 dX2_sendToAll_30 rfl ?_
        refine s_aload_n X 0 dX2_sendToAll_32 rfl rfl ?_
        obtain ⟨o16, e17, hf⟩ := pk_bnd hf
        obtain ⟨h18, hf⟩ := pk_chk hf
        refine s_getR X (ci := 2) (k := 2) rfl (Nat.le_of_ble_eq_true rfl) h1 wd423 (fun _ _ _ => rfl) (e17 ▸ h18) dX2_sendToAll_33 (e17 ▸ ?_)
        refine s_iload_n X 2 dX2_sendToAll_36 rfl rfl ?_
        obtain ⟨h19, hf⟩ := pk_chk hf
        obtain ⟨o20, e21, hf⟩ := pk_bnd hf
        obtain ⟨h22, hf⟩ := pk_chk hf
        refine s_aald X h18 h19 (e21 ▸ h22) dX2_sendToAll_37 (e21 ▸ ?_)
        refine s_getI X (ci := 4) (k := 1) rfl (Nat.le_of_ble_eq_true rfl) h22 wd331 (fun _ _ _ => rfl) dX2_sendToAll_38 ?_
        obtain ⟨M24, hc23, hf⟩ := pk_obd hf
        refine s_callV X (ci := 5) (k_X5_put G hc23) rfl h15 wd945 wd946 wd947 wd948 wd131 cd_X5_put ⟨Nat.le_of_ble_eq_true rfl, Nat.le_of_ble_eq_true rfl⟩ (Nat.le_of_ble_eq_true rfl) dX2_sendToAll_41 ?_
        obtain ⟨x25, e26, hf⟩ := pk_bnd hf
        refine s_iinc X (vs' := [(0, .ref (gB G + v0)), (1, .int v1), (2, .int v2), (3, .int v3), (4, .int x25)]) 4 dX2_sendToAll_44 rfl (v := x25) e26.symm (Nat.le_of_ble_eq_true rfl) [1, 2, 3, 4, 0] rfl ?_
        refine s_goto X (tgt := 3) dX2_sendToAll_47 rfl ?_
        exact ih _ _ _ _ _ _ hf
end
theorem k_X2_sendToAll (G : Gam) {n : Nat} {o : Nat} {a1 : Int32} {a2 : Int32} {a3 : Int32} {M : Mem} {rv : Mem} (hf : f_X2_sendToAll n o a1 a2 a3 M = some rv) : Kt yX2_sendToAll cX2_sendToAll 5 none 3 76 G [.ref (gB G + o), .int a1, .int a2, .int a3] M rv none := by
  refine Kt.of (by decide) (Nat.le_of_ble_eq_true rfl) ?_
  intro p l e R s m args below meth c X hr hlk hnm
  refine s_drop [0, 1, 2, 3] (vs' := [(0, .ref (gB G + o)), (1, .int a1), (2, .int a2), (3, .int a3)]) rfl ?_
  rw [f_X2_sendToAll] at hf
  refine s_iconst X (v := (0 : Int32)) dX2_sendToAll_0 rfl ?_
  refine s_istore X (vs' := [(0, .ref (gB G + o)), (1, .int a1), (2, .int a2), (3, .int a3), (4, .int (0 : Int32))]) dX2_sendToAll_1 (Nat.le_of_ble_eq_true rfl) [1, 2, 3, 4, 0] rfl ?_
  exact l_X2_sendToAll_3 X hr hlk hnm _ _ _ _ _ _ hf
theorem dX2_startAsking_0 : decode cX2_startAsking 0 = .ok (.aload_n 0, 1) := dk_42 (by decide +kernel)
theorem dX2_startAsking_1 : decode cX2_startAsking 1 = .ok (.getfield 20, 3) := dk_180 (x := 0) (y := 20) (by decide +kernel) rfl
theorem dX2_startAsking_4 : decode cX2_startAsking 4 = .ok (.iload_n 1, 1) := dk_27 (by decide +kernel)
theorem dX2_startAsking_5 : decode cX2_startAsking 5 = .ok (.aaload, 1) := dk_50 (by decide +kernel)
theorem dX2_startAsking_6 : decode cX2_startAsking 6 = .ok (.astore_n 2, 1) := dk_77 (by decide +kernel)
theorem dX2_startAsking_7 : decode cX2_startAsking 7 = .ok (.aload_n 2, 1) := dk_44 (by decide +kernel)
theorem dX2_startAsking_8 : decode cX2_startAsking 8 = .ok (.dup, 1) := dk_89 (by decide +kernel)
theorem dX2_startAsking_9 : decode cX2_startAsking 9 = .ok (.getfield 115, 3) := dk_180 (x := 0) (y := 115) (by decide +kernel) rfl
theorem dX2_startAsking_12 : decode cX2_startAsking 12 = .ok (.iconst 1, 1) := dk_4 (by decide +kernel)
theorem dX2_startAsking_13 : decode cX2_startAsking 13 = .ok (.iadd, 1) := dk_96 (by decide +kernel)
theorem dX2_startAsking_14 : decode cX2_startAsking 14 = .ok (.putfield 115, 3) := dk_181 (x := 0) (y := 115) (by decide +kernel) rfl
theorem dX2_startAsking_17 : decode cX2_startAsking 17 = .ok (.aload_n 2, 1) := dk_44 (by decide +kernel)
theorem dX2_startAsking_18 : decode cX2_startAsking 18 = .ok (.aload_n 2, 1) := dk_44 (by decide +kernel)
theorem dX2_startAsking_19 : decode cX2_startAsking 19 = .ok (.getfield 115, 3) := dk_180 (x := 0) (y := 115) (by decide +kernel) rfl
theorem dX2_startAsking_22 : decode cX2_startAsking 22 = .ok (.putfield 118, 3) := dk_181 (x := 0) (y := 118) (by decide +kernel) rfl
theorem dX2_startAsking_25 : decode cX2_startAsking 25 = .ok (.aload_n 2, 1) := dk_44 (by decide +kernel)
theorem dX2_startAsking_26 : decode cX2_startAsking 26 = .ok (.invokevirtual 121, 3) := dk_182 (x := 0) (y := 121) (by decide +kernel) rfl
theorem dX2_startAsking_29 : decode cX2_startAsking 29 = .ok (.aload_n 2, 1) := dk_44 (by decide +kernel)
theorem dX2_startAsking_30 : decode cX2_startAsking 30 = .ok (.aload_n 0, 1) := dk_42 (by decide +kernel)
theorem dX2_startAsking_31 : decode cX2_startAsking 31 = .ok (.getfield 36, 3) := dk_180 (x := 0) (y := 36) (by decide +kernel) rfl
theorem dX2_startAsking_34 : decode cX2_startAsking 34 = .ok (.iload_n 1, 1) := dk_27 (by decide +kernel)
theorem dX2_startAsking_35 : decode cX2_startAsking 35 = .ok (.iaload, 1) := dk_46 (by decide +kernel)
theorem dX2_startAsking_36 : decode cX2_startAsking 36 = .ok (.putfield 124, 3) := dk_181 (x := 0) (y := 124) (by decide +kernel) rfl
theorem dX2_startAsking_39 : decode cX2_startAsking 39 = .ok (.aload_n 2, 1) := dk_44 (by decide +kernel)
theorem dX2_startAsking_40 : decode cX2_startAsking 40 = .ok (.aload_n 0, 1) := dk_42 (by decide +kernel)
theorem dX2_startAsking_41 : decode cX2_startAsking 41 = .ok (.getfield 65, 3) := dk_180 (x := 0) (y := 65) (by decide +kernel) rfl
theorem dX2_startAsking_44 : decode cX2_startAsking 44 = .ok (.putfield 127, 3) := dk_181 (x := 0) (y := 127) (by decide +kernel) rfl
theorem dX2_startAsking_47 : decode cX2_startAsking 47 = .ok (.aload_n 2, 1) := dk_44 (by decide +kernel)
theorem dX2_startAsking_48 : decode cX2_startAsking 48 = .ok (.iconst 0, 1) := dk_3 (by decide +kernel)
theorem dX2_startAsking_49 : decode cX2_startAsking 49 = .ok (.putfield 130, 3) := dk_181 (x := 0) (y := 130) (by decide +kernel) rfl
theorem dX2_startAsking_52 : decode cX2_startAsking 52 = .ok (.aload_n 0, 1) := dk_42 (by decide +kernel)
theorem dX2_startAsking_53 : decode cX2_startAsking 53 = .ok (.dup, 1) := dk_89 (by decide +kernel)
theorem dX2_startAsking_54 : decode cX2_startAsking 54 = .ok (.getfield 59, 3) := dk_180 (x := 0) (y := 59) (by decide +kernel) rfl
theorem dX2_startAsking_57 : decode cX2_startAsking 57 = .ok (.iconst 1, 1) := dk_4 (by decide +kernel)
theorem dX2_startAsking_58 : decode cX2_startAsking 58 = .ok (.iload_n 1, 1) := dk_27 (by decide +kernel)
theorem dX2_startAsking_59 : decode cX2_startAsking 59 = .ok (.ishl, 1) := dk_120 (by decide +kernel)
theorem dX2_startAsking_60 : decode cX2_startAsking 60 = .ok (.ior, 1) := dk_128 (by decide +kernel)
theorem dX2_startAsking_61 : decode cX2_startAsking 61 = .ok (.putfield 59, 3) := dk_181 (x := 0) (y := 59) (by decide +kernel) rfl
theorem dX2_startAsking_64 : decode cX2_startAsking 64 = .ok (.aload_n 0, 1) := dk_42 (by decide +kernel)
theorem dX2_startAsking_65 : decode cX2_startAsking 65 = .ok (.iconst 0, 1) := dk_3 (by decide +kernel)
theorem dX2_startAsking_66 : decode cX2_startAsking 66 = .ok (.iload_n 1, 1) := dk_27 (by decide +kernel)
theorem dX2_startAsking_67 : decode cX2_startAsking 67 = .ok (.aload_n 2, 1) := dk_44 (by decide +kernel)
theorem dX2_startAsking_68 : decode cX2_startAsking 68 = .ok (.getfield 124, 3) := dk_180 (x := 0) (y := 124) (by decide +kernel) rfl
theorem dX2_startAsking_71 : decode cX2_startAsking 71 = .ok (.invokevirtual 133, 3) := dk_182 (x := 0) (y := 133) (by decide +kernel) rfl
theorem dX2_startAsking_74 : decode cX2_startAsking 74 = .ok (.return_, 1) := dk_177 (by decide +kernel)
def f_X2_startAsking (n : Nat) (o : Nat) (a1 : Int32) (M : Mem) : Option Mem :=
  chk (isO M 2 o) <|
  bnd (mR M o 2) fun o2 =>
  chk (isO M 102 o2) <|
  chk (inB a1 (mLn M o2)) <|
  bnd (mR M o2 (a1).toNatClampNeg) fun o6 =>
  chk (isO M 4 o6) <|
  bnd (sI M o6 0 ((mI M o6 0) + (1 : Int32))) fun M9 =>
  bnd (sI M9 o6 1 (mI M9 o6 0)) fun M14 =>
  obd (f_X4_rest o6 M14) fun M20 =>
  chk (isO M20 2 o) <|
  bnd (mR M20 o 5) fun o22 =>
  chk (isO M20 100 o22) <|
  chk (inB a1 (mLn M20 o22)) <|
  chk (isO M20 4 o6) <|
  bnd (sI M20 o6 2 (mI M20 o22 (a1).toNatClampNeg)) fun M27 =>
  bnd (sI M27 o6 13 (mI M27 o 10)) fun M32 =>
  bnd (sI M32 o6 14 (0 : Int32)) fun M37 =>
  bnd (sI M37 o 8 ((mI M37 o 8) ||| ((1 : Int32) <<< (a1 &&& 31)))) fun M42 =>
  obd (f_X2_sendToAll n o (0 : Int32) a1 (mI M42 o6 2) M42) fun M48 =>
  some M48
theorem cd_X2_startAsking : (yX2_startAsking.cls ≠ "java/lang/invoke/MethodHandle" ∧ yX2_startAsking.cls ≠ "java/lang/invoke/VarHandle") ∧ (parseMethodDescriptor yX2_startAsking.desc).map (fun d => d.parameters.length) = some 1 := ⟨⟨by decide +kernel, by decide +kernel⟩, by decide +kernel⟩
theorem k_X2_startAsking (G : Gam) {n : Nat} {o : Nat} {a1 : Int32} {M : Mem} {rv : Mem} (hf : f_X2_startAsking n o a1 M = some rv) : Kt yX2_startAsking cX2_startAsking 3 none 4 100 G [.ref (gB G + o), .int a1] M rv none := by
  refine Kt.of (by decide) (Nat.le_of_ble_eq_true rfl) ?_
  intro p l e R s m args below meth c X hr hlk hnm
  refine s_drop [0, 1] (vs' := [(0, .ref (gB G + o)), (1, .int a1)]) rfl ?_
  rw [f_X2_startAsking] at hf
  refine s_aload_n X 0 dX2_startAsking_0 rfl rfl ?_
  obtain ⟨h1, hf⟩ := pk_chk hf
  obtain ⟨o2, e3, hf⟩ := pk_bnd hf
  obtain ⟨h4, hf⟩ := pk_chk hf
  refine s_getR X (ci := 2) (k := 2) rfl (Nat.le_of_ble_eq_true rfl) h1 wd423 (fun _ _ _ => rfl) (e3 ▸ h4) dX2_startAsking_1 (e3 ▸ ?_)
  refine s_iload_n X 1 dX2_startAsking_4 rfl rfl ?_
  obtain ⟨h5, hf⟩ := pk_chk hf
  obtain ⟨o6, e7, hf⟩ := pk_bnd hf
  obtain ⟨h8, hf⟩ := pk_chk hf
  refine s_aald X h4 h5 (e7 ▸ h8) dX2_startAsking_5 (e7 ▸ ?_)
  refine s_astore_n X (vs' := [(0, .ref (gB G + o)), (1, .int a1), (2, .ref (gB G + o6))]) dX2_startAsking_6 rfl (Nat.le_of_ble_eq_true rfl) [1, 2, 0] rfl ?_
  refine s_aload_n X 2 dX2_startAsking_7 rfl rfl ?_
  refine s_dup X dX2_startAsking_8 rfl ?_
  refine s_getI X (ci := 4) (k := 0) rfl (Nat.le_of_ble_eq_true rfl) h8 wd326 (fun _ _ _ => rfl) dX2_startAsking_9 ?_
  refine s_iconst X (v := (1 : Int32)) dX2_startAsking_12 rfl ?_
  refine s_iadd X dX2_startAsking_13 ?_
  obtain ⟨M9, e10, hf⟩ := pk_bnd hf
  refine s_putI X (ci := 4) (k := 0) rfl (Nat.le_of_ble_eq_true rfl) h8 wd326 (fun _ _ _ => rfl) rfl rfl e10 dX2_startAsking_14 ?_
  have h11 := io_sI e10 h1
  have h12 := io_sI e10 h4
  have h13 := io_sI e10 h8
  refine s_aload_n X 2 dX2_startAsking_17 rfl rfl ?_
  refine s_aload_n X 2 dX2_startAsking_18 rfl rfl ?_
  refine s_getI X (ci := 4) (k := 0) rfl (Nat.le_of_ble_eq_true rfl) h13 wd326 (fun _ _ _ => rfl) dX2_startAsking_19 ?_
  obtain ⟨M14, e15, hf⟩ := pk_bnd hf
  refine s_putI X (ci := 4) (k := 1) rfl (Nat.le_of_ble_eq_true rfl) h13 wd331 (fun _ _ _ => rfl) rfl rfl e15 dX2_startAsking_22 ?_
  have h16 := io_sI e15 h11
  have h17 := io_sI e15 h12
  have h18 := io_sI e15 h13
  refine s_aload_n X 2 dX2_startAsking_25 rfl rfl ?_
  obtain ⟨M20, hc19, hf⟩ := pk_obd hf
  refine s_callV X (ci := 4) (k_X4_rest G hc19) rfl h18 wd940 wd604 wd605 wd606 wd133 cd_X4_rest ⟨Nat.le_of_ble_eq_true rfl, Nat.le_of_ble_eq_true rfl⟩ (Nat.le_of_ble_eq_true rfl) dX2_startAsking_26 ?_
  refine s_aload_n X 2 dX2_startAsking_29 rfl rfl ?_
  refine s_aload_n X 0 dX2_startAsking_30 rfl rfl ?_
  obtain ⟨h21, hf⟩ := pk_chk hf
  obtain ⟨o22, e23, hf⟩ := pk_bnd hf
  obtain ⟨h24, hf⟩ := pk_chk hf
  refine s_getR X (ci := 2) (k := 5) rfl (Nat.le_of_ble_eq_true rfl) h21 wd431 (fun _ _ _ => rfl) (e23 ▸ h24) dX2_startAsking_31 (e23 ▸ ?_)
  refine s_iload_n X 1 dX2_startAsking_34 rfl rfl ?_
  obtain ⟨h25, hf⟩ := pk_chk hf
  refine s_iald X h24 h25 dX2_startAsking_35 ?_
  obtain ⟨h26, hf⟩ := pk_chk hf
  obtain ⟨M27, e28, hf⟩ := pk_bnd hf
  refine s_putI X (ci := 4) (k := 2) rfl (Nat.le_of_ble_eq_true rfl) h26 wd334 (fun _ _ _ => rfl) rfl rfl e28 dX2_startAsking_36 ?_
  have h29 := io_sI e28 h21
  have h30 := io_sI e28 h24
  have h31 := io_sI e28 h26
  refine s_aload_n X 2 dX2_startAsking_39 rfl rfl ?_
  refine s_aload_n X 0 dX2_startAsking_40 rfl rfl ?_
  refine s_getI X (ci := 2) (k := 10) rfl (Nat.le_of_ble_eq_true rfl) h29 wd443 (fun _ _ _ => rfl) dX2_startAsking_41 ?_
  obtain ⟨M32, e33, hf⟩ := pk_bnd hf
  refine s_putI X (ci := 4) (k := 13) rfl (Nat.le_of_ble_eq_true rfl) h31 wd376 (fun _ _ _ => rfl) rfl rfl e33 dX2_startAsking_44 ?_
  have h34 := io_sI e33 h29
  have h35 := io_sI e33 h30
  have h36 := io_sI e33 h31
  refine s_aload_n X 2 dX2_startAsking_47 rfl rfl ?_
  refine s_iconst X (v := (0 : Int32)) dX2_startAsking_48 rfl ?_
  obtain ⟨M37, e38, hf⟩ := pk_bnd hf
  refine s_putI X (ci := 4) (k := 14) rfl (Nat.le_of_ble_eq_true rfl) h36 wd378 (fun _ _ _ => rfl) rfl rfl e38 dX2_startAsking_49 ?_
  have h39 := io_sI e38 h34
  have h40 := io_sI e38 h35
  have h41 := io_sI e38 h36
  refine s_aload_n X 0 dX2_startAsking_52 rfl rfl ?_
  refine s_dup X dX2_startAsking_53 rfl ?_
  refine s_getI X (ci := 2) (k := 8) rfl (Nat.le_of_ble_eq_true rfl) h39 wd438 (fun _ _ _ => rfl) dX2_startAsking_54 ?_
  refine s_iconst X (v := (1 : Int32)) dX2_startAsking_57 rfl ?_
  refine s_iload_n X 1 dX2_startAsking_58 rfl rfl ?_
  refine s_ishl X dX2_startAsking_59 ?_
  refine s_ior X dX2_startAsking_60 ?_
  obtain ⟨M42, e43, hf⟩ := pk_bnd hf
  refine s_putI X (ci := 2) (k := 8) rfl (Nat.le_of_ble_eq_true rfl) h39 wd438 (fun _ _ _ => rfl) rfl rfl e43 dX2_startAsking_61 ?_
  have h44 := io_sI e43 h39
  have h45 := io_sI e43 h40
  have h46 := io_sI e43 h41
  refine s_aload_n X 0 dX2_startAsking_64 rfl rfl ?_
  refine s_iconst X (v := (0 : Int32)) dX2_startAsking_65 rfl ?_
  refine s_iload_n X 1 dX2_startAsking_66 rfl rfl ?_
  refine s_aload_n X 2 dX2_startAsking_67 rfl rfl ?_
  refine s_getI X (ci := 4) (k := 2) rfl (Nat.le_of_ble_eq_true rfl) h46 wd334 (fun _ _ _ => rfl) dX2_startAsking_68 ?_
  obtain ⟨M48, hc47, hf⟩ := pk_obd hf
  refine s_callV X (ci := 2) (k_X2_sendToAll G hc47) rfl h44 wd941 wd943 wd12 wd944 wd130 cd_X2_sendToAll ⟨Nat.le_of_ble_eq_true rfl, Nat.le_of_ble_eq_true rfl⟩ (Nat.le_of_ble_eq_true rfl) dX2_startAsking_71 ?_
  cases hf
  exact s_vret X hr hlk dX2_startAsking_74
theorem dX9_ask_0 : decode cX9_ask 0 = .ok (.aload_n 0, 1) := dk_42 (by decide +kernel)
theorem dX9_ask_1 : decode cX9_ask 1 = .ok (.getfield 10, 3) := dk_180 (x := 0) (y := 10) (by decide +kernel) rfl
theorem dX9_ask_4 : decode cX9_ask 4 = .ok (.iload_n 1, 1) := dk_27 (by decide +kernel)
theorem dX9_ask_5 : decode cX9_ask 5 = .ok (.invokevirtual 71, 3) := dk_182 (x := 0) (y := 71) (by decide +kernel) rfl
theorem dX9_ask_8 : decode cX9_ask 8 = .ok (.ifCond .eq 14, 3) := dk_153 (x := 0) (y := 14) (by decide +kernel) rfl
theorem dX9_ask_11 : decode cX9_ask 11 = .ok (.aload_n 0, 1) := dk_42 (by decide +kernel)
theorem dX9_ask_12 : decode cX9_ask 12 = .ok (.getfield 28, 3) := dk_180 (x := 0) (y := 28) (by decide +kernel) rfl
theorem dX9_ask_15 : decode cX9_ask 15 = .ok (.iload_n 1, 1) := dk_27 (by decide +kernel)
theorem dX9_ask_16 : decode cX9_ask 16 = .ok (.invokevirtual 168, 3) := dk_182 (x := 0) (y := 168) (by decide +kernel) rfl
theorem dX9_ask_19 : decode cX9_ask 19 = .ok (.ifCond .ne 5, 3) := dk_154 (x := 0) (y := 5) (by decide +kernel) rfl
theorem dX9_ask_22 : decode cX9_ask 22 = .ok (.iconst (-1), 1) := dk_2 (by decide +kernel)
theorem dX9_ask_23 : decode cX9_ask 23 = .ok (.ireturn, 1) := dk_172 (by decide +kernel)
theorem dX9_ask_24 : decode cX9_ask 24 = .ok (.aload_n 0, 1) := dk_42 (by decide +kernel)
theorem dX9_ask_25 : decode cX9_ask 25 = .ok (.getfield 28, 3) := dk_180 (x := 0) (y := 28) (by decide +kernel) rfl
theorem dX9_ask_28 : decode cX9_ask 28 = .ok (.iload_n 1, 1) := dk_27 (by decide +kernel)
theorem dX9_ask_29 : decode cX9_ask 29 = .ok (.invokevirtual 171, 3) := dk_182 (x := 0) (y := 171) (by decide +kernel) rfl
theorem dX9_ask_32 : decode cX9_ask 32 = .ok (.aload_n 0, 1) := dk_42 (by decide +kernel)
theorem dX9_ask_33 : decode cX9_ask 33 = .ok (.getfield 28, 3) := dk_180 (x := 0) (y := 28) (by decide +kernel) rfl
theorem dX9_ask_36 : decode cX9_ask 36 = .ok (.getfield 99, 3) := dk_180 (x := 0) (y := 99) (by decide +kernel) rfl
theorem dX9_ask_39 : decode cX9_ask 39 = .ok (.iload_n 1, 1) := dk_27 (by decide +kernel)
theorem dX9_ask_40 : decode cX9_ask 40 = .ok (.aaload, 1) := dk_50 (by decide +kernel)
theorem dX9_ask_41 : decode cX9_ask 41 = .ok (.getfield 174, 3) := dk_180 (x := 0) (y := 174) (by decide +kernel) rfl
theorem dX9_ask_44 : decode cX9_ask 44 = .ok (.ireturn, 1) := dk_172 (by decide +kernel)
def f_X9_ask (n : Nat) (o : Nat) (a1 : Int32) (M : Mem) : Option (Int32 × Mem) :=
  chk (isO M 9 o) <|
  bnd (mR M o 0) fun o2 =>
  chk (isO M 7 o2) <|
  obd (f_X7_isNode o2 a1 M) fun r6 =>
  if r6 = 0 then (
    some ((-1 : Int32), M)
    ) else (
    bnd (mR M o 2) fun o9 =>
    chk (isO M 2 o9) <|
    obd (f_X2_mayAsk o9 a1 M) fun r13 =>
    if r13 = 0 then (
      some ((-1 : Int32), M)
      ) else (
      bnd (mR M o 2) fun o16 =>
      chk (isO M 2 o16) <|
      obd (f_X2_startAsking n o16 a1 M) fun M20 =>
      chk (isO M20 9 o) <|
      bnd (mR M20 o 2) fun o22 =>
      chk (isO M20 2 o22) <|
      bnd (mR M20 o22 2) fun o25 =>
      chk (isO M20 102 o25) <|
      chk (inB a1 (mLn M20 o25)) <|
      bnd (mR M20 o25 (a1).toNatClampNeg) fun o29 =>
      chk (isO M20 4 o29) <|
      some ((mI M20 o29 1), M20)
      )
    )
theorem cd_X9_ask : (yX9_ask.cls ≠ "java/lang/invoke/MethodHandle" ∧ yX9_ask.cls ≠ "java/lang/invoke/VarHandle") ∧ (parseMethodDescriptor yX9_ask.desc).map (fun d => d.parameters.length) = some 1 := ⟨⟨by decide +kernel, by decide +kernel⟩, by decide +kernel⟩
theorem k_X9_ask (G : Gam) {n : Nat} {o : Nat} {a1 : Int32} {M : Mem} {rv : (Int32 × Mem)} (hf : f_X9_ask n o a1 M = some rv) : Kt yX9_ask cX9_ask 2 (some .int) 5 122 G [.ref (gB G + o), .int a1] M rv.2 (some (.int rv.1)) := by
  refine Kt.of (by decide) (Nat.le_of_ble_eq_true rfl) ?_
  intro p l e R s m args below meth c X hr hlk hnm
  refine s_drop [0, 1] (vs' := [(0, .ref (gB G + o)), (1, .int a1)]) rfl ?_
  rw [f_X9_ask] at hf
  refine s_aload_n X 0 dX9_ask_0 rfl rfl ?_
  obtain ⟨h1, hf⟩ := pk_chk hf
  obtain ⟨o2, e3, hf⟩ := pk_bnd hf
  obtain ⟨h4, hf⟩ := pk_chk hf
  refine s_getR X (ci := 9) (k := 0) rfl (Nat.le_of_ble_eq_true rfl) h1 wd627 (fun _ _ _ => rfl) (e3 ▸ h4) dX9_ask_1 (e3 ▸ ?_)
  refine s_iload_n X 1 dX9_ask_4 rfl rfl ?_
  obtain ⟨r6, hc5, hf⟩ := pk_obd hf
  refine s_callV X (ci := 7) (k_X7_isNode G hc5) rfl h4 wd699 wd700 wd701 wd702 wd127 cd_X7_isNode ⟨Nat.le_of_ble_eq_true rfl, Nat.le_of_ble_eq_true rfl⟩ (Nat.le_of_ble_eq_true rfl) dX9_ask_5 ?_
  have hs7 := pk_ite hf
  clear hf
  refine s_if_eq X (tgt := 22) dX9_ask_8 rfl (fun c8 => ?_) (fun c8 => ?_)
  · have hf := hs7.1 c8
    refine s_iconst X (v := (-1 : Int32)) dX9_ask_22 rfl ?_
    cases hf
    exact s_iret X hr hlk dX9_ask_23
  · have hf := hs7.2 c8
    refine s_aload_n X 0 dX9_ask_11 rfl rfl ?_
    obtain ⟨o9, e10, hf⟩ := pk_bnd hf
    obtain ⟨h11, hf⟩ := pk_chk hf
    refine s_getR X (ci := 9) (k := 2) rfl (Nat.le_of_ble_eq_true rfl) h1 wd629 (fun _ _ _ => rfl) (e10 ▸ h11) dX9_ask_12 (e10 ▸ ?_)
    refine s_iload_n X 1 dX9_ask_15 rfl rfl ?_
    obtain ⟨r13, hc12, hf⟩ := pk_obd hf
    refine s_callV X (ci := 2) (k_X2_mayAsk G hc12) rfl h11 wd931 wd932 wd933 wd934 wd130 cd_X2_mayAsk ⟨Nat.le_of_ble_eq_true rfl, Nat.le_of_ble_eq_true rfl⟩ (Nat.le_of_ble_eq_true rfl) dX9_ask_16 ?_
    have hs14 := pk_ite hf
    clear hf
    refine s_if_ne X (tgt := 24) dX9_ask_19 rfl (fun c15 => ?_) (fun c15 => ?_)
    · have hf := hs14.2 c15
      refine s_aload_n X 0 dX9_ask_24 rfl rfl ?_
      obtain ⟨o16, e17, hf⟩ := pk_bnd hf
      obtain ⟨h18, hf⟩ := pk_chk hf
      refine s_getR X (ci := 9) (k := 2) rfl (Nat.le_of_ble_eq_true rfl) h1 wd629 (fun _ _ _ => rfl) (e17 ▸ h18) dX9_ask_25 (e17 ▸ ?_)
      refine s_iload_n X 1 dX9_ask_28 rfl rfl ?_
      obtain ⟨M20, hc19, hf⟩ := pk_obd hf
      refine s_callV X (ci := 2) (k_X2_startAsking G hc19) rfl h18 wd936 wd937 wd938 wd939 wd130 cd_X2_startAsking ⟨Nat.le_of_ble_eq_true rfl, Nat.le_of_ble_eq_true rfl⟩ (Nat.le_of_ble_eq_true rfl) dX9_ask_29 ?_
      refine s_aload_n X 0 dX9_ask_32 rfl rfl ?_
      obtain ⟨h21, hf⟩ := pk_chk hf
      obtain ⟨o22, e23, hf⟩ := pk_bnd hf
      obtain ⟨h24, hf⟩ := pk_chk hf
      refine s_getR X (ci := 9) (k := 2) rfl (Nat.le_of_ble_eq_true rfl) h21 wd629 (fun _ _ _ => rfl) (e23 ▸ h24) dX9_ask_33 (e23 ▸ ?_)
      obtain ⟨o25, e26, hf⟩ := pk_bnd hf
      obtain ⟨h27, hf⟩ := pk_chk hf
      refine s_getR X (ci := 2) (k := 2) rfl (Nat.le_of_ble_eq_true rfl) h24 wd426 (fun _ _ _ => rfl) (e26 ▸ h27) dX9_ask_36 (e26 ▸ ?_)
      refine s_iload_n X 1 dX9_ask_39 rfl rfl ?_
      obtain ⟨h28, hf⟩ := pk_chk hf
      obtain ⟨o29, e30, hf⟩ := pk_bnd hf
      obtain ⟨h31, hf⟩ := pk_chk hf
      refine s_aald X h27 h28 (e30 ▸ h31) dX9_ask_40 (e30 ▸ ?_)
      refine s_getI X (ci := 4) (k := 1) rfl (Nat.le_of_ble_eq_true rfl) h31 wd332 (fun _ _ _ => rfl) dX9_ask_41 ?_
      cases hf
      exact s_iret X hr hlk dX9_ask_44
    · have hf := hs14.1 c15
      refine s_iconst X (v := (-1 : Int32)) dX9_ask_22 rfl ?_
      cases hf
      exact s_iret X hr hlk dX9_ask_23
theorem dX10_canAsk_0 : decode cX10_canAsk 0 = .ok (.aload_n 0, 1) := dk_42 (by decide +kernel)
theorem dX10_canAsk_1 : decode cX10_canAsk 1 = .ok (.iload_n 1, 1) := dk_27 (by decide +kernel)
theorem dX10_canAsk_2 : decode cX10_canAsk 2 = .ok (.iconst 0, 1) := dk_3 (by decide +kernel)
theorem dX10_canAsk_3 : decode cX10_canAsk 3 = .ok (.invokevirtual 93, 3) := dk_182 (x := 0) (y := 93) (by decide +kernel) rfl
theorem dX10_canAsk_6 : decode cX10_canAsk 6 = .ok (.ifCond .ne 25, 3) := dk_154 (x := 0) (y := 25) (by decide +kernel) rfl
theorem dX10_canAsk_9 : decode cX10_canAsk 9 = .ok (.aload_n 0, 1) := dk_42 (by decide +kernel)
theorem dX10_canAsk_10 : decode cX10_canAsk 10 = .ok (.iload_n 1, 1) := dk_27 (by decide +kernel)
theorem dX10_canAsk_11 : decode cX10_canAsk 11 = .ok (.bipush 7, 2) := dk_16 (x := 7) (by decide +kernel) rfl
theorem dX10_canAsk_13 : decode cX10_canAsk 13 = .ok (.invokevirtual 93, 3) := dk_182 (x := 0) (y := 93) (by decide +kernel) rfl
theorem dX10_canAsk_16 : decode cX10_canAsk 16 = .ok (.ifCond .ne 15, 3) := dk_154 (x := 0) (y := 15) (by decide +kernel) rfl
theorem dX10_canAsk_19 : decode cX10_canAsk 19 = .ok (.aload_n 0, 1) := dk_42 (by decide +kernel)
theorem dX10_canAsk_20 : decode cX10_canAsk 20 = .ok (.iload_n 1, 1) := dk_27 (by decide +kernel)
theorem dX10_canAsk_21 : decode cX10_canAsk 21 = .ok (.invokevirtual 102, 3) := dk_182 (x := 0) (y := 102) (by decide +kernel) rfl
theorem dX10_canAsk_24 : decode cX10_canAsk 24 = .ok (.ifCond .eq 7, 3) := dk_153 (x := 0) (y := 7) (by decide +kernel) rfl
theorem dX10_canAsk_27 : decode cX10_canAsk 27 = .ok (.iconst 1, 1) := dk_4 (by decide +kernel)
theorem dX10_canAsk_28 : decode cX10_canAsk 28 = .ok (.goto 4, 3) := dk_167 (x := 0) (y := 4) (by decide +kernel) rfl
theorem dX10_canAsk_31 : decode cX10_canAsk 31 = .ok (.iconst 0, 1) := dk_3 (by decide +kernel)
theorem dX10_canAsk_32 : decode cX10_canAsk 32 = .ok (.ireturn, 1) := dk_172 (by decide +kernel)
def f_X10_canAsk (n : Nat) (o : Nat) (a1 : Int32) (M : Mem) : Option (Int32 × Mem) :=
  chk (isO M 10 o) <|
  obd (f_X10_get o a1 (0 : Int32) M) fun r3 =>
  if r3 = 0 then (
    obd (f_X10_get o a1 (7 : Int32) M) fun r7 =>
    if r7 = 0 then (
      obd2 (f_X10_quorumNow n o a1 M) fun r11 M12 =>
      if r11 = 0 then (
        some ((0 : Int32), M12)
        ) else (
        some ((1 : Int32), M12)
        )
      ) else (
      some ((0 : Int32), M)
      )
    ) else (
    some ((0 : Int32), M)
    )
theorem cd_X10_canAsk : (yX10_canAsk.cls ≠ "java/lang/invoke/MethodHandle" ∧ yX10_canAsk.cls ≠ "java/lang/invoke/VarHandle") ∧ (parseMethodDescriptor yX10_canAsk.desc).map (fun d => d.parameters.length) = some 1 := ⟨⟨by decide +kernel, by decide +kernel⟩, by decide +kernel⟩
theorem k_X10_canAsk (G : Gam) {n : Nat} {o : Nat} {a1 : Int32} {M : Mem} {rv : (Int32 × Mem)} (hf : f_X10_canAsk n o a1 M = some rv) : Kt yX10_canAsk cX10_canAsk 2 (some .boolean) 4 90 G [.ref (gB G + o), .int a1] M rv.2 (some (.int rv.1)) := by
  refine Kt.of (by decide) (Nat.le_of_ble_eq_true rfl) ?_
  intro p l e R s m args below meth c X hr hlk hnm
  refine s_drop [0, 1] (vs' := [(0, .ref (gB G + o)), (1, .int a1)]) rfl ?_
  rw [f_X10_canAsk] at hf
  refine s_aload_n X 0 dX10_canAsk_0 rfl rfl ?_
  refine s_iload_n X 1 dX10_canAsk_1 rfl rfl ?_
  refine s_iconst X (v := (0 : Int32)) dX10_canAsk_2 rfl ?_
  obtain ⟨h1, hf⟩ := pk_chk hf
  obtain ⟨r3, hc2, hf⟩ := pk_obd hf
  refine s_callV X (ci := 10) (k_X10_get G hc2) rfl h1 wd1588 wd1590 wd57 wd1591 wd138 cd_X10_get ⟨Nat.le_of_ble_eq_true rfl, Nat.le_of_ble_eq_true rfl⟩ (Nat.le_of_ble_eq_true rfl) dX10_canAsk_3 ?_
  have hs4 := pk_ite hf
  clear hf
  refine s_if_ne X (tgt := 31) dX10_canAsk_6 rfl (fun c5 => ?_) (fun c5 => ?_)
  · have hf := hs4.2 c5
    refine s_iconst X (v := (0 : Int32)) dX10_canAsk_31 rfl ?_
    cases hf
    exact s_zret X hr (bz_n (Or.inl rfl)) hlk dX10_canAsk_32
  · have hf := hs4.1 c5
    refine s_aload_n X 0 dX10_canAsk_9 rfl rfl ?_
    refine s_iload_n X 1 dX10_canAsk_10 rfl rfl ?_
    refine s_bipush X (v := (7 : Int32)) dX10_canAsk_11 rfl ?_
    obtain ⟨r7, hc6, hf⟩ := pk_obd hf
    refine s_callV X (ci := 10) (k_X10_get G hc6) rfl h1 wd1588 wd1590 wd57 wd1591 wd138 cd_X10_get ⟨Nat.le_of_ble_eq_true rfl, Nat.le_of_ble_eq_true rfl⟩ (Nat.le_of_ble_eq_true rfl) dX10_canAsk_13 ?_
    have hs8 := pk_ite hf
    clear hf
    refine s_if_ne X (tgt := 31) dX10_canAsk_16 rfl (fun c9 => ?_) (fun c9 => ?_)
    · have hf := hs8.2 c9
      refine s_iconst X (v := (0 : Int32)) dX10_canAsk_31 rfl ?_
      cases hf
      exact s_zret X hr (bz_n (Or.inl rfl)) hlk dX10_canAsk_32
    · have hf := hs8.1 c9
      refine s_aload_n X 0 dX10_canAsk_19 rfl rfl ?_
      refine s_iload_n X 1 dX10_canAsk_20 rfl rfl ?_
      obtain ⟨r11, M12, hc10, hf⟩ := pk_obd2 hf
      refine s_callV X (ci := 10) (k_X10_quorumNow G hc10) rfl h1 wd1580 wd1582 wd55 wd1583 wd138 cd_X10_quorumNow ⟨Nat.le_of_ble_eq_true rfl, Nat.le_of_ble_eq_true rfl⟩ (Nat.le_of_ble_eq_true rfl) dX10_canAsk_21 ?_
      have hs13 := pk_ite hf
      clear hf
      refine s_if_eq X (tgt := 31) dX10_canAsk_24 rfl (fun c14 => ?_) (fun c14 => ?_)
      · have hf := hs13.1 c14
        refine s_iconst X (v := (0 : Int32)) dX10_canAsk_31 rfl ?_
        cases hf
        exact s_zret X hr (bz_n (Or.inl rfl)) hlk dX10_canAsk_32
      · have hf := hs13.2 c14
        refine s_iconst X (v := (1 : Int32)) dX10_canAsk_27 rfl ?_
        refine s_goto X (tgt := 32) dX10_canAsk_28 rfl ?_
        cases hf
        exact s_zret X hr (bz_n (Or.inr rfl)) hlk dX10_canAsk_32
theorem dX10_let_0 : decode cX10_let 0 = .ok (.aload_n 0, 1) := dk_42 (by decide +kernel)
theorem dX10_let_1 : decode cX10_let 1 = .ok (.getfield 7, 3) := dk_180 (x := 0) (y := 7) (by decide +kernel) rfl
theorem dX10_let_4 : decode cX10_let 4 = .ok (.bipush 18, 2) := dk_16 (x := 18) (by decide +kernel) rfl
theorem dX10_let_6 : decode cX10_let 6 = .ok (.bipush 8, 2) := dk_16 (x := 8) (by decide +kernel) rfl
theorem dX10_let_8 : decode cX10_let 8 = .ok (.iload_n 1, 1) := dk_27 (by decide +kernel)
theorem dX10_let_9 : decode cX10_let 9 = .ok (.imul, 1) := dk_104 (by decide +kernel)
theorem dX10_let_10 : decode cX10_let 10 = .ok (.iadd, 1) := dk_96 (by decide +kernel)
theorem dX10_let_11 : decode cX10_let 11 = .ok (.iload_n 2, 1) := dk_28 (by decide +kernel)
theorem dX10_let_12 : decode cX10_let 12 = .ok (.iadd, 1) := dk_96 (by decide +kernel)
theorem dX10_let_13 : decode cX10_let 13 = .ok (.iload_n 3, 1) := dk_29 (by decide +kernel)
theorem dX10_let_14 : decode cX10_let 14 = .ok (.iastore, 1) := dk_79 (by decide +kernel)
theorem dX10_let_15 : decode cX10_let 15 = .ok (.return_, 1) := dk_177 (by decide +kernel)
def f_X10_let (o : Nat) (a1 : Int32) (a2 : Int32) (a3 : Int32) (M : Mem) : Option Mem :=
  chk (isO M 10 o) <|
  bnd (mR M o 0) fun o2 =>
  chk (isO M 100 o2) <|
  chk (inB (((18 : Int32) + ((8 : Int32) * a1)) + a2) (mLn M o2)) <|
  bnd (sI M o2 ((((18 : Int32) + ((8 : Int32) * a1)) + a2)).toNatClampNeg a3) fun M6 =>
  some M6
theorem cd_X10_let : (yX10_let.cls ≠ "java/lang/invoke/MethodHandle" ∧ yX10_let.cls ≠ "java/lang/invoke/VarHandle") ∧ (parseMethodDescriptor yX10_let.desc).map (fun d => d.parameters.length) = some 3 := ⟨⟨by decide +kernel, by decide +kernel⟩, by decide +kernel⟩
theorem k_X10_let (G : Gam) {o : Nat} {a1 : Int32} {a2 : Int32} {a3 : Int32} {M : Mem} {rv : Mem} (hf : f_X10_let o a1 a2 a3 M = some rv) : Kt yX10_let cX10_let 4 none 0 0 G [.ref (gB G + o), .int a1, .int a2, .int a3] M rv none := by
  refine Kt.of (by decide) (Nat.le_of_ble_eq_true rfl) ?_
  intro p l e R s m args below meth c X hr hlk hnm
  refine s_drop [0, 1, 2, 3] (vs' := [(0, .ref (gB G + o)), (1, .int a1), (2, .int a2), (3, .int a3)]) rfl ?_
  rw [f_X10_let] at hf
  refine s_aload_n X 0 dX10_let_0 rfl rfl ?_
  obtain ⟨h1, hf⟩ := pk_chk hf
  obtain ⟨o2, e3, hf⟩ := pk_bnd hf
  obtain ⟨h4, hf⟩ := pk_chk hf
  refine s_getR X (ci := 10) (k := 0) rfl (Nat.le_of_ble_eq_true rfl) h1 wd1440 (fun _ _ _ => rfl) (e3 ▸ h4) dX10_let_1 (e3 ▸ ?_)
  refine s_bipush X (v := (18 : Int32)) dX10_let_4 rfl ?_
  refine s_bipush X (v := (8 : Int32)) dX10_let_6 rfl ?_
  refine s_iload_n X 1 dX10_let_8 rfl rfl ?_
  refine s_imul X dX10_let_9 ?_
  refine s_iadd X dX10_let_10 ?_
  refine s_iload_n X 2 dX10_let_11 rfl rfl ?_
  refine s_iadd X dX10_let_12 ?_
  refine s_iload_n X 3 dX10_let_13 rfl rfl ?_
  obtain ⟨h5, hf⟩ := pk_chk hf
  obtain ⟨M6, e7, hf⟩ := pk_bnd hf
  refine s_iast X h4 h5 e7 dX10_let_14 ?_
  have h8 := io_sI e7 h1
  have h9 := io_sI e7 h4
  cases hf
  exact s_vret X hr hlk dX10_let_15
theorem dX10_pairOf_0 : decode cX10_pairOf 0 = .ok (.iload_n 0, 1) := dk_26 (by decide +kernel)
theorem dX10_pairOf_1 : decode cX10_pairOf 1 = .ok (.sipush 255, 3) := dk_17 (x := 0) (y := 255) (by decide +kernel) rfl
theorem dX10_pairOf_4 : decode cX10_pairOf 4 = .ok (.iand, 1) := dk_126 (by decide +kernel)
theorem dX10_pairOf_5 : decode cX10_pairOf 5 = .ok (.ireturn, 1) := dk_172 (by decide +kernel)
def f_X10_pairOf (a1 : Int32) (M : Mem) : Option Int32 :=
  some (a1 &&& (255 : Int32))
theorem cd_X10_pairOf : (yX10_pairOf.cls ≠ "java/lang/invoke/MethodHandle" ∧ yX10_pairOf.cls ≠ "java/lang/invoke/VarHandle") ∧ (parseMethodDescriptor yX10_pairOf.desc).map (fun d => d.parameters.length) = some 1 := ⟨⟨by decide +kernel, by decide +kernel⟩, by decide +kernel⟩
theorem k_X10_pairOf (G : Gam) {a1 : Int32} {M : Mem} {rv : Int32} (hf : f_X10_pairOf a1 M = some rv) : Kt yX10_pairOf cX10_pairOf 1 (some .int) 0 0 G [.int a1] M M (some (.int rv)) := by
  refine Kt.of (by decide) (Nat.le_of_ble_eq_true rfl) ?_
  intro p l e R s m args below meth c X hr hlk hnm
  refine s_drop [0] (vs' := [(0, .int a1)]) rfl ?_
  rw [f_X10_pairOf] at hf
  refine s_iload_n X 0 dX10_pairOf_0 rfl rfl ?_
  refine s_sipush X (v := (255 : Int32)) dX10_pairOf_1 rfl ?_
  refine s_iand X dX10_pairOf_4 ?_
  cases hf
  exact s_iret X hr hlk dX10_pairOf_5
theorem dX10_send_0 : decode cX10_send 0 = .ok (.bipush 16, 2) := dk_16 (x := 16) (by decide +kernel) rfl
theorem dX10_send_2 : decode cX10_send 2 = .ok (.iload_n 2, 1) := dk_28 (by decide +kernel)
theorem dX10_send_3 : decode cX10_send 3 = .ok (.imul, 1) := dk_104 (by decide +kernel)
theorem dX10_send_4 : decode cX10_send 4 = .ok (.iload_n 3, 1) := dk_29 (by decide +kernel)
theorem dX10_send_5 : decode cX10_send 5 = .ok (.iadd, 1) := dk_96 (by decide +kernel)
theorem dX10_send_6 : decode cX10_send 6 = .ok (.istore 5, 2) := dk_54 (x := 5) (by decide +kernel)
theorem dX10_send_8 : decode cX10_send 8 = .ok (.aload_n 0, 1) := dk_42 (by decide +kernel)
theorem dX10_send_9 : decode cX10_send 9 = .ok (.getfield 7, 3) := dk_180 (x := 0) (y := 7) (by decide +kernel) rfl
theorem dX10_send_12 : decode cX10_send 12 = .ok (.sipush 850, 3) := dk_17 (x := 3) (y := 82) (by decide +kernel) rfl
theorem dX10_send_15 : decode cX10_send 15 = .ok (.iaload, 1) := dk_46 (by decide +kernel)
theorem dX10_send_16 : decode cX10_send 16 = .ok (.istore 6, 2) := dk_54 (x := 6) (by decide +kernel)
theorem dX10_send_18 : decode cX10_send 18 = .ok (.iload 6, 2) := dk_21 (x := 6) (by decide +kernel)
theorem dX10_send_20 : decode cX10_send 20 = .ok (.ifCond .le 70, 3) := dk_158 (x := 0) (y := 70) (by decide +kernel) rfl
theorem dX10_send_23 : decode cX10_send 23 = .ok (.aload_n 0, 1) := dk_42 (by decide +kernel)
theorem dX10_send_24 : decode cX10_send 24 = .ok (.getfield 7, 3) := dk_180 (x := 0) (y := 7) (by decide +kernel) rfl
theorem dX10_send_27 : decode cX10_send 27 = .ok (.sipush 851, 3) := dk_17 (x := 3) (y := 83) (by decide +kernel) rfl
theorem dX10_send_30 : decode cX10_send 30 = .ok (.iload 6, 2) := dk_21 (x := 6) (by decide +kernel)
theorem dX10_send_32 : decode cX10_send 32 = .ok (.iadd, 1) := dk_96 (by decide +kernel)
theorem dX10_send_33 : decode cX10_send 33 = .ok (.iconst 1, 1) := dk_4 (by decide +kernel)
theorem dX10_send_34 : decode cX10_send 34 = .ok (.isub, 1) := dk_100 (by decide +kernel)
theorem dX10_send_35 : decode cX10_send 35 = .ok (.iaload, 1) := dk_46 (by decide +kernel)
theorem dX10_send_36 : decode cX10_send 36 = .ok (.invokestatic 140, 3) := dk_184 (x := 0) (y := 140) (by decide +kernel) rfl
theorem dX10_send_39 : decode cX10_send 39 = .ok (.iload 5, 2) := dk_21 (x := 5) (by decide +kernel)
theorem dX10_send_41 : decode cX10_send 41 = .ok (.if_icmp .le 49, 3) := dk_164 (x := 0) (y := 49) (by decide +kernel) rfl
theorem dX10_send_44 : decode cX10_send 44 = .ok (.aload_n 0, 1) := dk_42 (by decide +kernel)
theorem dX10_send_45 : decode cX10_send 45 = .ok (.getfield 7, 3) := dk_180 (x := 0) (y := 7) (by decide +kernel) rfl
theorem dX10_send_48 : decode cX10_send 48 = .ok (.sipush 851, 3) := dk_17 (x := 3) (y := 83) (by decide +kernel) rfl
theorem dX10_send_51 : decode cX10_send 51 = .ok (.iload 6, 2) := dk_21 (x := 6) (by decide +kernel)
theorem dX10_send_53 : decode cX10_send 53 = .ok (.iadd, 1) := dk_96 (by decide +kernel)
theorem dX10_send_54 : decode cX10_send 54 = .ok (.aload_n 0, 1) := dk_42 (by decide +kernel)
theorem dX10_send_55 : decode cX10_send 55 = .ok (.getfield 7, 3) := dk_180 (x := 0) (y := 7) (by decide +kernel) rfl
theorem dX10_send_58 : decode cX10_send 58 = .ok (.sipush 851, 3) := dk_17 (x := 3) (y := 83) (by decide +kernel) rfl
theorem dX10_send_61 : decode cX10_send 61 = .ok (.iload 6, 2) := dk_21 (x := 6) (by decide +kernel)
theorem dX10_send_63 : decode cX10_send 63 = .ok (.iadd, 1) := dk_96 (by decide +kernel)
theorem dX10_send_64 : decode cX10_send 64 = .ok (.iconst 1, 1) := dk_4 (by decide +kernel)
theorem dX10_send_65 : decode cX10_send 65 = .ok (.isub, 1) := dk_100 (by decide +kernel)
theorem dX10_send_66 : decode cX10_send 66 = .ok (.iaload, 1) := dk_46 (by decide +kernel)
theorem dX10_send_67 : decode cX10_send 67 = .ok (.iastore, 1) := dk_79 (by decide +kernel)
theorem dX10_send_68 : decode cX10_send 68 = .ok (.aload_n 0, 1) := dk_42 (by decide +kernel)
theorem dX10_send_69 : decode cX10_send 69 = .ok (.getfield 16, 3) := dk_180 (x := 0) (y := 16) (by decide +kernel) rfl
theorem dX10_send_72 : decode cX10_send 72 = .ok (.iload 6, 2) := dk_21 (x := 6) (by decide +kernel)
theorem dX10_send_74 : decode cX10_send 74 = .ok (.aload_n 0, 1) := dk_42 (by decide +kernel)
theorem dX10_send_75 : decode cX10_send 75 = .ok (.getfield 16, 3) := dk_180 (x := 0) (y := 16) (by decide +kernel) rfl
theorem dX10_send_78 : decode cX10_send 78 = .ok (.iload 6, 2) := dk_21 (x := 6) (by decide +kernel)
theorem dX10_send_80 : decode cX10_send 80 = .ok (.iconst 1, 1) := dk_4 (by decide +kernel)
theorem dX10_send_81 : decode cX10_send 81 = .ok (.isub, 1) := dk_100 (by decide +kernel)
theorem dX10_send_82 : decode cX10_send 82 = .ok (.iaload, 1) := dk_46 (by decide +kernel)
theorem dX10_send_83 : decode cX10_send 83 = .ok (.iastore, 1) := dk_79 (by decide +kernel)
theorem dX10_send_84 : decode cX10_send 84 = .ok (.iinc 6 (-1), 3) := dk_132 (x := 6) (y := 255) (by decide +kernel) rfl
theorem dX10_send_87 : decode cX10_send 87 = .ok (.goto (-69), 3) := dk_167 (x := 255) (y := 187) (by decide +kernel) rfl
theorem dX10_send_90 : decode cX10_send 90 = .ok (.aload_n 0, 1) := dk_42 (by decide +kernel)
theorem dX10_send_91 : decode cX10_send 91 = .ok (.getfield 7, 3) := dk_180 (x := 0) (y := 7) (by decide +kernel) rfl
theorem dX10_send_94 : decode cX10_send 94 = .ok (.sipush 851, 3) := dk_17 (x := 3) (y := 83) (by decide +kernel) rfl
theorem dX10_send_97 : decode cX10_send 97 = .ok (.iload 6, 2) := dk_21 (x := 6) (by decide +kernel)
theorem dX10_send_99 : decode cX10_send 99 = .ok (.iadd, 1) := dk_96 (by decide +kernel)
theorem dX10_send_100 : decode cX10_send 100 = .ok (.iload 4, 2) := dk_21 (x := 4) (by decide +kernel)
theorem dX10_send_102 : decode cX10_send 102 = .ok (.bipush 11, 2) := dk_16 (x := 11) (by decide +kernel) rfl
theorem dX10_send_104 : decode cX10_send 104 = .ok (.ishl, 1) := dk_120 (by decide +kernel)
theorem dX10_send_105 : decode cX10_send 105 = .ok (.iload_n 1, 1) := dk_27 (by decide +kernel)
theorem dX10_send_106 : decode cX10_send 106 = .ok (.bipush 8, 2) := dk_16 (x := 8) (by decide +kernel) rfl
theorem dX10_send_108 : decode cX10_send 108 = .ok (.ishl, 1) := dk_120 (by decide +kernel)
theorem dX10_send_109 : decode cX10_send 109 = .ok (.ior, 1) := dk_128 (by decide +kernel)
theorem dX10_send_110 : decode cX10_send 110 = .ok (.iload 5, 2) := dk_21 (x := 5) (by decide +kernel)
theorem dX10_send_112 : decode cX10_send 112 = .ok (.ior, 1) := dk_128 (by decide +kernel)
theorem dX10_send_113 : decode cX10_send 113 = .ok (.iastore, 1) := dk_79 (by decide +kernel)
theorem dX10_send_114 : decode cX10_send 114 = .ok (.aload_n 0, 1) := dk_42 (by decide +kernel)
theorem dX10_send_115 : decode cX10_send 115 = .ok (.getfield 16, 3) := dk_180 (x := 0) (y := 16) (by decide +kernel) rfl
theorem dX10_send_118 : decode cX10_send 118 = .ok (.iload 6, 2) := dk_21 (x := 6) (by decide +kernel)
theorem dX10_send_120 : decode cX10_send 120 = .ok (.aload_n 0, 1) := dk_42 (by decide +kernel)
theorem dX10_send_121 : decode cX10_send 121 = .ok (.getfield 143, 3) := dk_180 (x := 0) (y := 143) (by decide +kernel) rfl
theorem dX10_send_124 : decode cX10_send 124 = .ok (.iastore, 1) := dk_79 (by decide +kernel)
theorem dX10_send_125 : decode cX10_send 125 = .ok (.aload_n 0, 1) := dk_42 (by decide +kernel)
theorem dX10_send_126 : decode cX10_send 126 = .ok (.getfield 7, 3) := dk_180 (x := 0) (y := 7) (by decide +kernel) rfl
theorem dX10_send_129 : decode cX10_send 129 = .ok (.sipush 850, 3) := dk_17 (x := 3) (y := 82) (by decide +kernel) rfl
theorem dX10_send_132 : decode cX10_send 132 = .ok (.dup2, 1) := dk_92 (by decide +kernel)
theorem dX10_send_133 : decode cX10_send 133 = .ok (.iaload, 1) := dk_46 (by decide +kernel)
theorem dX10_send_134 : decode cX10_send 134 = .ok (.iconst 1, 1) := dk_4 (by decide +kernel)
theorem dX10_send_135 : decode cX10_send 135 = .ok (.iadd, 1) := dk_96 (by decide +kernel)
theorem dX10_send_136 : decode cX10_send 136 = .ok (.iastore, 1) := dk_79 (by decide +kernel)
theorem dX10_send_137 : decode cX10_send 137 = .ok (.aload_n 0, 1) := dk_42 (by decide +kernel)
theorem dX10_send_138 : decode cX10_send 138 = .ok (.getfield 7, 3) := dk_180 (x := 0) (y := 7) (by decide +kernel) rfl
theorem dX10_send_141 : decode cX10_send 141 = .ok (.sipush 9859, 3) := dk_17 (x := 38) (y := 131) (by decide +kernel) rfl
theorem dX10_send_144 : decode cX10_send 144 = .ok (.iload_n 1, 1) := dk_27 (by decide +kernel)
theorem dX10_send_145 : decode cX10_send 145 = .ok (.iadd, 1) := dk_96 (by decide +kernel)
theorem dX10_send_146 : decode cX10_send 146 = .ok (.dup2, 1) := dk_92 (by decide +kernel)
theorem dX10_send_147 : decode cX10_send 147 = .ok (.iaload, 1) := dk_46 (by decide +kernel)
theorem dX10_send_148 : decode cX10_send 148 = .ok (.iconst 1, 1) := dk_4 (by decide +kernel)
theorem dX10_send_149 : decode cX10_send 149 = .ok (.iadd, 1) := dk_96 (by decide +kernel)
theorem dX10_send_150 : decode cX10_send 150 = .ok (.iastore, 1) := dk_79 (by decide +kernel)
theorem dX10_send_151 : decode cX10_send 151 = .ok (.return_, 1) := dk_177 (by decide +kernel)
def f_X10_send_90 (n : Nat) (v0 : Nat) (v1 : Int32) (v4 : Int32) (v5 : Int32) (v6 : Int32) (M : Mem) : Option Mem :=
    chk (isO M 10 v0) <|
    bnd (mR M v0 0) fun o2 =>
    chk (isO M 100 o2) <|
    chk (inB ((851 : Int32) + v6) (mLn M o2)) <|
    bnd (sI M o2 (((851 : Int32) + v6)).toNatClampNeg (((v4 <<< ((11 : Int32) &&& 31)) ||| (v1 <<< ((8 : Int32) &&& 31))) ||| v5)) fun M6 =>
    bnd (mR M6 v0 2) fun o10 =>
    chk (isO M6 100 o10) <|
    chk (inB v6 (mLn M6 o10)) <|
    bnd (sI M6 o10 (v6).toNatClampNeg (mI M6 v0 3)) fun M14 =>
    bnd (mR M14 v0 0) fun o19 =>
    chk (isO M14 100 o19) <|
    chk (inB (850 : Int32) (mLn M14 o19)) <|
    chk (inB (850 : Int32) (mLn M14 o19)) <|
    bnd (sI M14 o19 ((850 : Int32)).toNatClampNeg ((mI M14 o19 ((850 : Int32)).toNatClampNeg) + (1 : Int32))) fun M24 =>
    bnd (mR M24 v0 0) fun o30 =>
    chk (isO M24 100 o30) <|
    bnd ((9859 : Int32) + v1) fun x33 =>
    chk (inB x33 (mLn M24 o30)) <|
    chk (inB x33 (mLn M24 o30)) <|
    bnd (sI M24 o30 (x33).toNatClampNeg ((mI M24 o30 (x33).toNatClampNeg) + (1 : Int32))) fun M37 =>
    some M37
def f_X10_send_18 : Nat → Nat → Int32 → Int32 → Int32 → Int32 → Mem → Option Mem
  | 0, _, _, _, _, _, _ => none
  | n + 1, v0, v1, v4, v5, v6, M =>
    if v6 ≤ 0 then (
      f_X10_send_90 n v0 v1 v4 v5 v6 M
      ) else (
      chk (isO M 10 v0) <|
      bnd (mR M v0 0) fun o4 =>
      chk (isO M 100 o4) <|
      chk (inB (((851 : Int32) + v6) - (1 : Int32)) (mLn M o4)) <|
      obd (f_X10_pairOf (mI M o4 ((((851 : Int32) + v6) - (1 : Int32))).toNatClampNeg) M) fun r9 =>
      if r9 ≤ v5 then (
        f_X10_send_90 n v0 v1 v4 v5 v6 M
        ) else (
        bnd (mR M v0 0) fun o12 =>
        chk (isO M 100 o12) <|
        bnd (mR M v0 0) fun o15 =>
        chk (isO M 100 o15) <|
        chk (inB (((851 : Int32) + v6) - (1 : Int32)) (mLn M o15)) <|
        chk (inB ((851 : Int32) + v6) (mLn M o12)) <|
        bnd (sI M o12 (((851 : Int32) + v6)).toNatClampNeg (mI M o15 ((((851 : Int32) + v6) - (1 : Int32))).toNatClampNeg)) fun M20 =>
        bnd (mR M20 v0 2) fun o26 =>
        chk (isO M20 100 o26) <|
        bnd (mR M20 v0 2) fun o29 =>
        chk (isO M20 100 o29) <|
        chk (inB (v6 - (1 : Int32)) (mLn M20 o29)) <|
        chk (inB v6 (mLn M20 o26)) <|
        bnd (sI M20 o26 (v6).toNatClampNeg (mI M20 o29 ((v6 - (1 : Int32))).toNatClampNeg)) fun M34 =>
        bnd (v6 + (-1 : Int32)) fun x42 =>
        f_X10_send_18 n v0 v1 v4 v5 x42 M34
        )
      )
def f_X10_send (n : Nat) (o : Nat) (a1 : Int32) (a2 : Int32) (a3 : Int32) (a4 : Int32) (M : Mem) : Option Mem :=
  bnd (((16 : Int32) * a2) + a3) fun x1 =>
  chk (isO M 10 o) <|
  bnd (mR M o 0) fun o4 =>
  chk (isO M 100 o4) <|
  chk (inB (850 : Int32) (mLn M o4)) <|
  bnd (mI M o4 ((850 : Int32)).toNatClampNeg) fun x8 =>
  f_X10_send_18 n o a1 a4 x1 x8 M
theorem cd_X10_send : (yX10_send.cls ≠ "java/lang/invoke/MethodHandle" ∧ yX10_send.cls ≠ "java/lang/invoke/VarHandle") ∧ (parseMethodDescriptor yX10_send.desc).map (fun d => d.parameters.length) = some 4 := ⟨⟨by decide +kernel, by decide +kernel⟩, by decide +kernel⟩
section
variable {p : Program} {l : Launch} {e : Env} {R : Room} {s : State} {m : MethodId} {args : Array Value} {below : List Frame} {meth : Method} {c : Code} {G : Gam} {M0 : Mem}
theorem l_X10_send_90 {rv : Mem} {n : Nat} {v0 : Nat} {v1 : Int32} {v4 : Int32} {v5 : Int32} {v6 : Int32} {M : Mem} (X : Cx p R s m args c G M0 cX10_send yX10_send.cls 7 1 20) (hr : meth.sig.returnType = none) (hlk : meth.locks = false) (hnm : meth.name = "send") (hf : f_X10_send_90 n v0 v1 v4 v5 v6 M = some rv) : Sg p l e R s m args below meth c (Qm below G args s none M0 rv) G M0 7 90 [(0, .ref (gB G + v0)), (1, .int v1), (4, .int v4), (5, .int v5), (6, .int v6)] [] M := by
  rw [f_X10_send_90] at hf
  refine s_aload_n X 0 dX10_send_90 rfl rfl ?_
  obtain ⟨h1, hf⟩ := pk_chk hf
  obtain ⟨o2, e3, hf⟩ := pk_bnd hf
  obtain ⟨h4, hf⟩ := pk_chk hf
  refine s_getR X (ci := 10) (k := 0) rfl (Nat.le_of_ble_eq_true rfl) h1 wd1440 (fun _ _ _ => rfl) (e3 ▸ h4) dX10_send_91 (e3 ▸ ?_)
  refine s_sipush X (v := (851 : Int32)) dX10_send_94 rfl ?_
  refine s_iload X 4 dX10_send_97 rfl ?_
  refine s_iadd X dX10_send_99 ?_
  refine s_iload X 2 dX10_send_100 rfl ?_
  refine s_bipush X (v := (11 : Int32)) dX10_send_102 rfl ?_
  refine s_ishl X dX10_send_104 ?_
  refine s_iload_n X 1 dX10_send_105 rfl rfl ?_
  refine s_bipush X (v := (8 : Int32)) dX10_send_106 rfl ?_
  refine s_ishl X dX10_send_108 ?_
  refine s_ior X dX10_send_109 ?_
  refine s_iload X 3 dX10_send_110 rfl ?_
  refine s_ior X dX10_send_112 ?_
  obtain ⟨h5, hf⟩ := pk_chk hf
  obtain ⟨M6, e7, hf⟩ := pk_bnd hf
  refine s_iast X h4 h5 e7 dX10_send_113 ?_
  have h8 := io_sI e7 h1
  have h9 := io_sI e7 h4
  refine s_aload_n X 0 dX10_send_114 rfl rfl ?_
  obtain ⟨o10, e11, hf⟩ := pk_bnd hf
  obtain ⟨h12, hf⟩ := pk_chk hf
  refine s_getR X (ci := 10) (k := 2) rfl (Nat.le_of_ble_eq_true rfl) h8 wd1442 (fun _ _ _ => rfl) (e11 ▸ h12) dX10_send_115 (e11 ▸ ?_)
  refine s_iload X 4 dX10_send_118 rfl ?_
  refine s_aload_n X 0 dX10_send_120 rfl rfl ?_
  refine s_getI X (ci := 10) (k := 3) rfl (Nat.le_of_ble_eq_true rfl) h8 wd1443 (fun _ _ _ => rfl) dX10_send_121 ?_
  obtain ⟨h13, hf⟩ := pk_chk hf
  obtain ⟨M14, e15, hf⟩ := pk_bnd hf
  refine s_iast X h12 h13 e15 dX10_send_124 ?_
  have h16 := io_sI e15 h8
  have h17 := io_sI e15 h9
  have h18 := io_sI e15 h12
  refine s_aload_n X 0 dX10_send_125 rfl rfl ?_
  obtain ⟨o19, e20, hf⟩ := pk_bnd hf
  obtain ⟨h21, hf⟩ := pk_chk hf
  refine s_getR X (ci := 10) (k := 0) rfl (Nat.le_of_ble_eq_true rfl) h16 wd1440 (fun _ _ _ => rfl) (e20 ▸ h21) dX10_send_126 (e20 ▸ ?_)
  refine s_sipush X (v := (850 : Int32)) dX10_send_129 rfl ?_
  refine s_dup2 X dX10_send_132 rfl rfl ?_
  obtain ⟨h22, hf⟩ := pk_chk hf
  refine s_iald X h21 h22 dX10_send_133 ?_
  refine s_iconst X (v := (1 : Int32)) dX10_send_134 rfl ?_
  refine s_iadd X dX10_send_135 ?_
  obtain ⟨h23, hf⟩ := pk_chk hf
  obtain ⟨M24, e25, hf⟩ := pk_bnd hf
  refine s_iast X h21 h23 e25 dX10_send_136 ?_
  have h26 := io_sI e25 h16
  have h27 := io_sI e25 h17
  have h28 := io_sI e25 h18
  have h29 := io_sI e25 h21
  refine s_aload_n X 0 dX10_send_137 rfl rfl ?_
  obtain ⟨o30, e31, hf⟩ := pk_bnd hf
  obtain ⟨h32, hf⟩ := pk_chk hf
  refine s_getR X (ci := 10) (k := 0) rfl (Nat.le_of_ble_eq_true rfl) h26 wd1440 (fun _ _ _ => rfl) (e31 ▸ h32) dX10_send_138 (e31 ▸ ?_)
  refine s_sipush X (v := (9859 : Int32)) dX10_send_141 rfl ?_
  refine s_iload_n X 1 dX10_send_144 rfl rfl ?_
  refine s_iadd X dX10_send_145 ?_
  obtain ⟨x33, e34, hf⟩ := pk_bnd hf
  refine s_nmI e34 ?_
  refine s_dup2 X dX10_send_146 rfl rfl ?_
  obtain ⟨h35, hf⟩ := pk_chk hf
  refine s_iald X h32 h35 dX10_send_147 ?_
  refine s_iconst X (v := (1 : Int32)) dX10_send_148 rfl ?_
  refine s_iadd X dX10_send_149 ?_
  obtain ⟨h36, hf⟩ := pk_chk hf
  obtain ⟨M37, e38, hf⟩ := pk_bnd hf
  refine s_iast X h32 h36 e38 dX10_send_150 ?_
  have h39 := io_sI e38 h26
  have h40 := io_sI e38 h27
  have h41 := io_sI e38 h28
  have h42 := io_sI e38 h29
  have h43 := io_sI e38 h32
  cases hf
  exact s_vret X hr hlk dX10_send_151
theorem l_X10_send_18 {rv : Mem} (X : Cx p R s m args c G M0 cX10_send yX10_send.cls 7 1 20) (hr : meth.sig.returnType = none) (hlk : meth.locks = false) (hnm : meth.name = "send") : ∀ {n : Nat} (v0 : Nat) (v1 : Int32) (v4 : Int32) (v5 : Int32) (v6 : Int32) (M : Mem), f_X10_send_18 n v0 v1 v4 v5 v6 M = some rv → Sg p l e R s m args below meth c (Qm below G args s none M0 rv) G M0 7 18 [(0, .ref (gB G + v0)), (1, .int v1), (4, .int v4), (5, .int v5), (6, .int v6)] [] M := by
  intro n
  induction n with
  | zero => intro v0 v1 v4 v5 v6 M hf; exact (pk_none hf).elim
  | succ n ih =>
    intro v0 v1 v4 v5 v6 M hf
    rw [f_X10_send_18] at hf
    refine s_iload X 4 dX10_send_18 rfl ?_
    have hs1 := pk_ite hf
    clear hf
    refine s_if_le X (tgt := 90) dX10_send_20 rfl (fun c2 => ?_) (fun c2 => ?_)
    · have hf := hs1.1 c2
      exact l_X10_send_90 X hr hlk hnm hf
    · have hf := hs1.2 c2
      refine s_aload_n X 0 dX10_send_23 rfl rfl ?_
      obtain ⟨h3, hf⟩ := pk_chk hf
      obtain ⟨o4, e5, hf⟩ := pk_bnd hf
      obtain ⟨h6, hf⟩ := pk_chk hf
      refine s_getR X (ci := 10) (k := 0) rfl (Nat.le_of_ble_eq_true rfl) h3 wd1440 (fun _ _ _ => rfl) (e5 ▸ h6) dX10_send_24 (e5 ▸ ?_)
      refine s_sipush X (v := (851 : Int32)) dX10_send_27 rfl ?_
      refine s_iload X 4 dX10_send_30 rfl ?_
      refine s_iadd X dX10_send_32 ?_
      refine s_iconst X (v := (1 : Int32)) dX10_send_33 rfl ?_
      refine s_isub X dX10_send_34 ?_
      obtain ⟨h7, hf⟩ := pk_chk hf
      refine s_iald X h6 h7 dX10_send_35 ?_
      obtain ⟨r9, hc8, hf⟩ := pk_obd hf
      refine s_callS X (k_X10_pairOf G hc8) wd1704 wd1705 wd1706 wd138 cd_X10_pairOf ⟨Nat.le_of_ble_eq_true rfl, Nat.le_of_ble_eq_true rfl⟩ (Nat.le_of_ble_eq_true rfl) dX10_send_36 ?_
      refine s_iload X 3 dX10_send_39 rfl ?_
      have hs10 := pk_ite hf
      clear hf
      refine s_icmp_le X (tgt := 90) dX10_send_41 rfl (fun c11 => ?_) (fun c11 => ?_)
      · have hf := hs10.1 c11
        exact l_X10_send_90 X hr hlk hnm hf
      · have hf := hs10.2 c11
        refine s_aload_n X 0 dX10_send_44 rfl rfl ?_
        obtain ⟨o12, e13, hf⟩ := pk_bnd hf
        obtain ⟨h14, hf⟩ := pk_chk hf
        refine s_getR X (ci := 10) (k := 0) rfl (Nat.le_of_ble_eq_true rfl) h3 wd1440 (fun _ _ _ => rfl) (e13 ▸ h14) dX10_send_45 (e13 ▸ ?_)
        refine s_sipush X (v := (851 : Int32)) dX10_send_48 rfl ?_
        refine s_iload X 4 dX10_send_51 rfl ?_
        refine s_iadd X dX10_send_53 ?_
        refine s_aload_n X 0 dX10_send_54 rfl rfl ?_
        obtain ⟨o15, e16, hf⟩ := pk_bnd hf
        obtain ⟨h17, hf⟩ := pk_chk hf
        refine s_getR X (ci := 10) (k := 0) rfl (Nat.le_of_ble_eq_true rfl) h3 wd1440 (fun _ _ _ => rfl) (e16 ▸ h17) dX10_send_55 (e16 ▸ ?_)
        refine s_sipush X (v := (851 : Int32)) dX10_send_58 rfl ?_
        refine s_iload X 4 dX10_send_61 rfl ?_
        refine s_iadd X dX10_send_63 ?_
        refine s_iconst X (v := (1 : Int32)) dX10_send_64 rfl ?_
        refine s_isub X dX10_send_65 ?_
        obtain ⟨h18, hf⟩ := pk_chk hf
        refine s_iald X h17 h18 dX10_send_66 ?_
        obtain ⟨h19, hf⟩ := pk_chk hf
        obtain ⟨M20, e21, hf⟩ := pk_bnd hf
        refine s_iast X h14 h19 e21 dX10_send_67 ?_
        have h22 := io_sI e21 h3
        have h23 := io_sI e21 h6
        have h24 := io_sI e21 h14
        have h25 := io_sI e21 h17
        refine s_aload_n X 0 dX10_send_68 rfl rfl ?_
        obtain ⟨o26, e27, hf⟩ := pk_bnd hf
        obtain ⟨h28, hf⟩ := pk_chk hf
        refine s_getR X (ci := 10) (k := 2) rfl (Nat.le_of_ble_eq_true rfl) h22 wd1442 (fun _ _ _ => rfl) (e27 ▸ h28) dX10_send_69 (e27 ▸ ?_)
        refine s_iload X 4 dX10_send_72 rfl ?_
        refine s_aload_n X 0 dX10_send_74 rfl rfl ?_
        obtain ⟨o29, e30, hf⟩ := pk_bnd hf
        obtain ⟨h31, hf⟩ := pk_chk hf
        refine s_getR X (ci := 10) (k := 2) rfl (Nat.le_of_ble_eq_true rfl) h22 wd1442 (fun _ _ _ => rfl) (e30 ▸ h31) dX10_send_75 (e30 ▸ ?_)
        refine s_iload X 4 dX10_send_78 rfl ?_
        refine s_iconst X (v := (1 : Int32)) dX10_send_80 rfl ?_
        refine s_isub X dX10_send_81 ?_
        obtain ⟨h32, hf⟩ := pk_chk hf
        refine s_iald X h31 h32 dX10_send_82 ?_
        obtain ⟨h33, hf⟩ := pk_chk hf
        obtain ⟨M34, e35, hf⟩ := pk_bnd hf
        refine s_iast X h28 h33 e35 dX10_send_83 ?_
        have h36 := io_sI e35 h22
        have h37 := io_sI e35 h23
        have h38 := io_sI e35 h24
        have h39 := io_sI e35 h25
        have h40 := io_sI e35 h28
        have h41 := io_sI e35 h31
        obtain ⟨x42, e43, hf⟩ := pk_bnd hf
        refine s_iinc X (vs' := [(0, .ref (gB G + v0)), (1, .int v1), (4, .int v4), (5, .int v5), (6, .int x42)]) 4 dX10_send_84 rfl (v := x42) e43.symm (Nat.le_of_ble_eq_true rfl) [1, 2, 3, 4, 0] rfl ?_
        refine s_goto X (tgt := 18) dX10_send_87 rfl ?_
        exact ih _ _ _ _ _ _ hf
end
theorem k_X10_send (G : Gam) {n : Nat} {o : Nat} {a1 : Int32} {a2 : Int32} {a3 : Int32} {a4 : Int32} {M : Mem} {rv : Mem} (hf : f_X10_send n o a1 a2 a3 a4 M = some rv) : Kt yX10_send cX10_send 7 none 1 20 G [.ref (gB G + o), .int a1, .int a2, .int a3, .int a4] M rv none := by
  refine Kt.of (by decide) (Nat.le_of_ble_eq_true rfl) ?_
  intro p l e R s m args below meth c X hr hlk hnm
  refine s_drop [0, 1, 2, 3, 4] (vs' := [(0, .ref (gB G + o)), (1, .int a1), (2, .int a2), (3, .int a3), (4, .int a4)]) rfl ?_
  rw [f_X10_send] at hf
  refine s_bipush X (v := (16 : Int32)) dX10_send_0 rfl ?_
  refine s_iload_n X 2 dX10_send_2 rfl rfl ?_
  refine s_imul X dX10_send_3 ?_
  refine s_iload_n X 3 dX10_send_4 rfl rfl ?_
  refine s_iadd X dX10_send_5 ?_
  obtain ⟨x1, e2, hf⟩ := pk_bnd hf
  refine s_nmI e2 ?_
  refine s_istore X (vs' := [(0, .ref (gB G + o)), (1, .int a1), (2, .int a2), (3, .int a3), (4, .int a4), (5, .int x1)]) dX10_send_6 (Nat.le_of_ble_eq_true rfl) [1, 2, 3, 4, 5, 0] rfl ?_
  refine s_aload_n X 0 dX10_send_8 rfl rfl ?_
  obtain ⟨h3, hf⟩ := pk_chk hf
  obtain ⟨o4, e5, hf⟩ := pk_bnd hf
  obtain ⟨h6, hf⟩ := pk_chk hf
  refine s_getR X (ci := 10) (k := 0) rfl (Nat.le_of_ble_eq_true rfl) h3 wd1440 (fun _ _ _ => rfl) (e5 ▸ h6) dX10_send_9 (e5 ▸ ?_)
  refine s_sipush X (v := (850 : Int32)) dX10_send_12 rfl ?_
  obtain ⟨h7, hf⟩ := pk_chk hf
  refine s_iald X h6 h7 dX10_send_15 ?_
  obtain ⟨x8, e9, hf⟩ := pk_bnd hf
  refine s_nmI e9 ?_
  refine s_istore X (vs' := [(0, .ref (gB G + o)), (1, .int a1), (2, .int a2), (3, .int a3), (4, .int a4), (5, .int x1), (6, .int x8)]) dX10_send_16 (Nat.le_of_ble_eq_true rfl) [1, 2, 3, 4, 5, 6, 0] rfl ?_
  refine s_drop [0, 1, 4, 5, 6] (vs' := [(0, .ref (gB G + o)), (1, .int a1), (4, .int a4), (5, .int x1), (6, .int x8)]) rfl ?_
  exact l_X10_send_18 X hr hlk hnm _ _ _ _ _ _ hf
theorem dX10_sendAll_0 : decode cX10_sendAll 0 = .ok (.iconst 0, 1) := dk_3 (by decide +kernel)
theorem dX10_sendAll_1 : decode cX10_sendAll 1 = .ok (.istore 5, 2) := dk_54 (x := 5) (by decide +kernel)
theorem dX10_sendAll_3 : decode cX10_sendAll 3 = .ok (.iload 5, 2) := dk_21 (x := 5) (by decide +kernel)
theorem dX10_sendAll_5 : decode cX10_sendAll 5 = .ok (.aload_n 0, 1) := dk_42 (by decide +kernel)
theorem dX10_sendAll_6 : decode cX10_sendAll 6 = .ok (.getfield 7, 3) := dk_180 (x := 0) (y := 7) (by decide +kernel) rfl
theorem dX10_sendAll_9 : decode cX10_sendAll 9 = .ok (.iconst 0, 1) := dk_3 (by decide +kernel)
theorem dX10_sendAll_10 : decode cX10_sendAll 10 = .ok (.iaload, 1) := dk_46 (by decide +kernel)
theorem dX10_sendAll_11 : decode cX10_sendAll 11 = .ok (.if_icmp .ge 28, 3) := dk_162 (x := 0) (y := 28) (by decide +kernel) rfl
theorem dX10_sendAll_14 : decode cX10_sendAll 14 = .ok (.iload_n 3, 1) := dk_29 (by decide +kernel)
theorem dX10_sendAll_15 : decode cX10_sendAll 15 = .ok (.iload 5, 2) := dk_21 (x := 5) (by decide +kernel)
theorem dX10_sendAll_17 : decode cX10_sendAll 17 = .ok (.invokestatic 45, 3) := dk_184 (x := 0) (y := 45) (by decide +kernel) rfl
theorem dX10_sendAll_20 : decode cX10_sendAll 20 = .ok (.ifCond .eq 13, 3) := dk_153 (x := 0) (y := 13) (by decide +kernel) rfl
theorem dX10_sendAll_23 : decode cX10_sendAll 23 = .ok (.aload_n 0, 1) := dk_42 (by decide +kernel)
theorem dX10_sendAll_24 : decode cX10_sendAll 24 = .ok (.iload_n 1, 1) := dk_27 (by decide +kernel)
theorem dX10_sendAll_25 : decode cX10_sendAll 25 = .ok (.iload_n 2, 1) := dk_28 (by decide +kernel)
theorem dX10_sendAll_26 : decode cX10_sendAll 26 = .ok (.iload 5, 2) := dk_21 (x := 5) (by decide +kernel)
theorem dX10_sendAll_28 : decode cX10_sendAll 28 = .ok (.iload 4, 2) := dk_21 (x := 4) (by decide +kernel)
theorem dX10_sendAll_30 : decode cX10_sendAll 30 = .ok (.invokevirtual 147, 3) := dk_182 (x := 0) (y := 147) (by decide +kernel) rfl
theorem dX10_sendAll_33 : decode cX10_sendAll 33 = .ok (.iinc 5 1, 3) := dk_132 (x := 5) (y := 1) (by decide +kernel) rfl
theorem dX10_sendAll_36 : decode cX10_sendAll 36 = .ok (.goto (-33), 3) := dk_167 (x := 255) (y := 223) (by decide +kernel) rfl
theorem dX10_sendAll_39 : decode cX10_sendAll 39 = .ok (.return_, 1) := dk_177 (by decide +kernel)
def f_X10_sendAll_3 : Nat → Nat → Int32 → Int32 → Int32 → Int32 → Int32 → Mem → Option Mem
  | 0, _, _, _, _, _, _, _ => none
  | n + 1, v0, v1, v2, v3, v4, v5, M =>
    chk (isO M 10 v0) <|
    bnd (mR M v0 0) fun o2 =>
    chk (isO M 100 o2) <|
    chk (inB (0 : Int32) (mLn M o2)) <|
    if (mI M o2 ((0 : Int32)).toNatClampNeg) ≤ v5 then (
      some M
      ) else (
      obd (f_X10_has v3 v5 M) fun r9 =>
      if r9 = 0 then (
        bnd (v5 + (1 : Int32)) fun x12 =>
        f_X10_sendAll_3 n v0 v1 v2 v3 v4 x12 M
        ) else (
        obd (f_X10_send n v0 v1 v2 v5 v4 M) fun M15 =>
        bnd (v5 + (1 : Int32)) fun x16 =>
        f_X10_sendAll_3 n v0 v1 v2 v3 v4 x16 M15
        )
      )
def f_X10_sendAll (n : Nat) (o : Nat) (a1 : Int32) (a2 : Int32) (a3 : Int32) (a4 : Int32) (M : Mem) : Option Mem :=
  f_X10_sendAll_3 n o a1 a2 a3 a4 (0 : Int32) M
theorem cd_X10_sendAll : (yX10_sendAll.cls ≠ "java/lang/invoke/MethodHandle" ∧ yX10_sendAll.cls ≠ "java/lang/invoke/VarHandle") ∧ (parseMethodDescriptor yX10_sendAll.desc).map (fun d => d.parameters.length) = some 4 := ⟨⟨by decide +kernel, by decide +kernel⟩, by decide +kernel⟩
section
variable {p : Program} {l : Launch} {e : Env} {R : Room} {s : State} {m : MethodId} {args : Array Value} {below : List Frame} {meth : Method} {c : Code} {G : Gam} {M0 : Mem}
theorem l_X10_sendAll_3 {rv : Mem} (X : Cx p R s m args c G M0 cX10_sendAll yX10_sendAll.cls 6 2 46) (hr : meth.sig.returnType = none) (hlk : meth.locks = false) (hnm : meth.name = "sendAll") : ∀ {n : Nat} (v0 : Nat) (v1 : Int32) (v2 : Int32) (v3 : Int32) (v4 : Int32) (v5 : Int32) (M : Mem), f_X10_sendAll_3 n v0 v1 v2 v3 v4 v5 M = some rv → Sg p l e R s m args below meth c (Qm below G args s none M0 rv) G M0 6 3 [(0, .ref (gB G + v0)), (1, .int v1), (2, .int v2), (3, .int v3), (4, .int v4), (5, .int v5)] [] M := by
  intro n
  induction n with
  | zero => intro v0 v1 v2 v3 v4 v5 M hf; exact (pk_none hf).elim
  | succ n ih =>
    intro v0 v1 v2 v3 v4 v5 M hf
    rw [f_X10_sendAll_3] at hf
    refine s_iload X 5 dX10_sendAll_3 rfl ?_
    refine s_aload_n X 0 dX10_sendAll_5 rfl rfl ?_
    obtain ⟨h1, hf⟩ := pk_chk hf
    obtain ⟨o2, e3, hf⟩ := pk_bnd hf
    obtain ⟨h4, hf⟩ := pk_chk hf
    refine s_getR X (ci := 10) (k := 0) rfl (Nat.le_of_ble_eq_true rfl) h1 wd1440 (fun _ _ _ => rfl) (e3 ▸ h4) dX10_sendAll_6 (e3 ▸ ?_)
    refine s_iconst X (v := (0 : Int32)) dX10_sendAll_9 rfl ?_
    obtain ⟨h5, hf⟩ := pk_chk hf
    refine s_iald X h4 h5 dX10_sendAll_10 ?_
    have hs6 := pk_ite hf
    clear hf
    refine s_icmp_ge X (tgt := 39) dX10_sendAll_11 rfl (fun c7 => ?_) (fun c7 => ?_)
    · have hf := hs6.1 c7
      cases hf
      exact s_vret X hr hlk dX10_sendAll_39
    · have hf := hs6.2 c7
      refine s_iload_n X 3 dX10_sendAll_14 rfl rfl ?_
      refine s_iload X 5 dX10_sendAll_15 rfl ?_
      obtain ⟨r9, hc8, hf⟩ := pk_obd hf
      refine s_callS X (k_X10_has G hc8) wd1565 wd1566 wd1567 wd138 cd_X10_has ⟨Nat.le_of_ble_eq_true rfl, Nat.le_of_ble_eq_true rfl⟩ (Nat.le_of_ble_eq_true rfl) dX10_sendAll_17 ?_
      have hs10 := pk_ite hf
      clear hf
      refine s_if_eq X (tgt := 33) dX10_sendAll_20 rfl (fun c11 => ?_) (fun c11 => ?_)
      · have hf := hs10.1 c11
        obtain ⟨x12, e13, hf⟩ := pk_bnd hf
        refine s_iinc X (vs' := [(0, .ref (gB G + v0)), (1, .int v1), (2, .int v2), (3, .int v3), (4, .int v4), (5, .int x12)]) 5 dX10_sendAll_33 rfl (v := x12) e13.symm (Nat.le_of_ble_eq_true rfl) [1, 2, 3, 4, 5, 0] rfl ?_
        refine s_goto X (tgt := 3) dX10_sendAll_36 rfl ?_
        exact ih _ _ _ _ _ _ _ hf
      · have hf := hs10.2 c11
        refine s_aload_n X 0 dX10_sendAll_23 rfl rfl ?_
        refine s_iload_n X 1 dX10_sendAll_24 rfl rfl ?_
        refine s_iload_n X 2 dX10_sendAll_25 rfl rfl ?_
        refine s_iload X 5 dX10_sendAll_26 rfl ?_
        refine s_iload X 4 dX10_sendAll_28 rfl ?_
        obtain ⟨M15, hc14, hf⟩ := pk_obd hf
        refine s_callV X (ci := 10) (k_X10_send G hc14) rfl h1 wd1700 wd1702 wd70 wd1703 wd138 cd_X10_send ⟨Nat.le_of_ble_eq_true rfl, Nat.le_of_ble_eq_true rfl⟩ (Nat.le_of_ble_eq_true rfl) dX10_sendAll_30 ?_
        obtain ⟨x16, e17, hf⟩ := pk_bnd hf
        refine s_iinc X (vs' := [(0, .ref (gB G + v0)), (1, .int v1), (2, .int v2), (3, .int v3), (4, .int v4), (5, .int x16)]) 5 dX10_sendAll_33 rfl (v := x16) e17.symm (Nat.le_of_ble_eq_true rfl) [1, 2, 3, 4, 5, 0] rfl ?_
        refine s_goto X (tgt := 3) dX10_sendAll_36 rfl ?_
        exact ih _ _ _ _ _ _ _ hf
end
theorem k_X10_sendAll (G : Gam) {n : Nat} {o : Nat} {a1 : Int32} {a2 : Int32} {a3 : Int32} {a4 : Int32} {M : Mem} {rv : Mem} (hf : f_X10_sendAll n o a1 a2 a3 a4 M = some rv) : Kt yX10_sendAll cX10_sendAll 6 none 2 46 G [.ref (gB G + o), .int a1, .int a2, .int a3, .int a4] M rv none := by
  refine Kt.of (by decide) (Nat.le_of_ble_eq_true rfl) ?_
  intro p l e R s m args below meth c X hr hlk hnm
  refine s_drop [0, 1, 2, 3, 4] (vs' := [(0, .ref (gB G + o)), (1, .int a1), (2, .int a2), (3, .int a3), (4, .int a4)]) rfl ?_
  rw [f_X10_sendAll] at hf
  refine s_iconst X (v := (0 : Int32)) dX10_sendAll_0 rfl ?_
  refine s_istore X (vs' := [(0, .ref (gB G + o)), (1, .int a1), (2, .int a2), (3, .int a3), (4, .int a4), (5, .int (0 : Int32))]) dX10_sendAll_1 (Nat.le_of_ble_eq_true rfl) [1, 2, 3, 4, 5, 0] rfl ?_
  exact l_X10_sendAll_3 X hr hlk hnm _ _ _ _ _ _ _ hf
theorem dX10_askNow_0 : decode cX10_askNow 0 = .ok (.aload_n 0, 1) := dk_42 (by decide +kernel)
theorem dX10_askNow_1 : decode cX10_askNow 1 = .ok (.iload_n 1, 1) := dk_27 (by decide +kernel)
theorem dX10_askNow_2 : decode cX10_askNow 2 = .ok (.iconst 1, 1) := dk_4 (by decide +kernel)
theorem dX10_askNow_3 : decode cX10_askNow 3 = .ok (.aload_n 0, 1) := dk_42 (by decide +kernel)
theorem dX10_askNow_4 : decode cX10_askNow 4 = .ok (.iload_n 1, 1) := dk_27 (by decide +kernel)
theorem dX10_askNow_5 : decode cX10_askNow 5 = .ok (.iconst 1, 1) := dk_4 (by decide +kernel)
theorem dX10_askNow_6 : decode cX10_askNow 6 = .ok (.invokevirtual 93, 3) := dk_182 (x := 0) (y := 93) (by decide +kernel) rfl
theorem dX10_askNow_9 : decode cX10_askNow 9 = .ok (.iconst 1, 1) := dk_4 (by decide +kernel)
theorem dX10_askNow_10 : decode cX10_askNow 10 = .ok (.iadd, 1) := dk_96 (by decide +kernel)
theorem dX10_askNow_11 : decode cX10_askNow 11 = .ok (.invokevirtual 187, 3) := dk_182 (x := 0) (y := 187) (by decide +kernel) rfl
theorem dX10_askNow_14 : decode cX10_askNow 14 = .ok (.aload_n 0, 1) := dk_42 (by decide +kernel)
theorem dX10_askNow_15 : decode cX10_askNow 15 = .ok (.iload_n 1, 1) := dk_27 (by decide +kernel)
theorem dX10_askNow_16 : decode cX10_askNow 16 = .ok (.iconst 2, 1) := dk_5 (by decide +kernel)
theorem dX10_askNow_17 : decode cX10_askNow 17 = .ok (.aload_n 0, 1) := dk_42 (by decide +kernel)
theorem dX10_askNow_18 : decode cX10_askNow 18 = .ok (.iload_n 1, 1) := dk_27 (by decide +kernel)
theorem dX10_askNow_19 : decode cX10_askNow 19 = .ok (.iconst 1, 1) := dk_4 (by decide +kernel)
theorem dX10_askNow_20 : decode cX10_askNow 20 = .ok (.invokevirtual 93, 3) := dk_182 (x := 0) (y := 93) (by decide +kernel) rfl
theorem dX10_askNow_23 : decode cX10_askNow 23 = .ok (.invokevirtual 187, 3) := dk_182 (x := 0) (y := 187) (by decide +kernel) rfl
theorem dX10_askNow_26 : decode cX10_askNow 26 = .ok (.aload_n 0, 1) := dk_42 (by decide +kernel)
theorem dX10_askNow_27 : decode cX10_askNow 27 = .ok (.iload_n 1, 1) := dk_27 (by decide +kernel)
theorem dX10_askNow_28 : decode cX10_askNow 28 = .ok (.iconst 3, 1) := dk_6 (by decide +kernel)
theorem dX10_askNow_29 : decode cX10_askNow 29 = .ok (.aload_n 0, 1) := dk_42 (by decide +kernel)
theorem dX10_askNow_30 : decode cX10_askNow 30 = .ok (.iload_n 1, 1) := dk_27 (by decide +kernel)
theorem dX10_askNow_31 : decode cX10_askNow 31 = .ok (.invokevirtual 102, 3) := dk_182 (x := 0) (y := 102) (by decide +kernel) rfl
theorem dX10_askNow_34 : decode cX10_askNow 34 = .ok (.invokevirtual 187, 3) := dk_182 (x := 0) (y := 187) (by decide +kernel) rfl
theorem dX10_askNow_37 : decode cX10_askNow 37 = .ok (.aload_n 0, 1) := dk_42 (by decide +kernel)
theorem dX10_askNow_38 : decode cX10_askNow 38 = .ok (.iload_n 1, 1) := dk_27 (by decide +kernel)
theorem dX10_askNow_39 : decode cX10_askNow 39 = .ok (.iconst 4, 1) := dk_7 (by decide +kernel)
theorem dX10_askNow_40 : decode cX10_askNow 40 = .ok (.iconst 0, 1) := dk_3 (by decide +kernel)
theorem dX10_askNow_41 : decode cX10_askNow 41 = .ok (.invokevirtual 187, 3) := dk_182 (x := 0) (y := 187) (by decide +kernel) rfl
theorem dX10_askNow_44 : decode cX10_askNow 44 = .ok (.aload_n 0, 1) := dk_42 (by decide +kernel)
theorem dX10_askNow_45 : decode cX10_askNow 45 = .ok (.iload_n 1, 1) := dk_27 (by decide +kernel)
theorem dX10_askNow_46 : decode cX10_askNow 46 = .ok (.iconst 5, 1) := dk_8 (by decide +kernel)
theorem dX10_askNow_47 : decode cX10_askNow 47 = .ok (.iconst 0, 1) := dk_3 (by decide +kernel)
theorem dX10_askNow_48 : decode cX10_askNow 48 = .ok (.invokevirtual 187, 3) := dk_182 (x := 0) (y := 187) (by decide +kernel) rfl
theorem dX10_askNow_51 : decode cX10_askNow 51 = .ok (.aload_n 0, 1) := dk_42 (by decide +kernel)
theorem dX10_askNow_52 : decode cX10_askNow 52 = .ok (.iload_n 1, 1) := dk_27 (by decide +kernel)
theorem dX10_askNow_53 : decode cX10_askNow 53 = .ok (.bipush 6, 2) := dk_16 (x := 6) (by decide +kernel) rfl
theorem dX10_askNow_55 : decode cX10_askNow 55 = .ok (.iconst 0, 1) := dk_3 (by decide +kernel)
theorem dX10_askNow_56 : decode cX10_askNow 56 = .ok (.invokevirtual 187, 3) := dk_182 (x := 0) (y := 187) (by decide +kernel) rfl
theorem dX10_askNow_59 : decode cX10_askNow 59 = .ok (.aload_n 0, 1) := dk_42 (by decide +kernel)
theorem dX10_askNow_60 : decode cX10_askNow 60 = .ok (.iload_n 1, 1) := dk_27 (by decide +kernel)
theorem dX10_askNow_61 : decode cX10_askNow 61 = .ok (.iconst 0, 1) := dk_3 (by decide +kernel)
theorem dX10_askNow_62 : decode cX10_askNow 62 = .ok (.iconst 1, 1) := dk_4 (by decide +kernel)
theorem dX10_askNow_63 : decode cX10_askNow 63 = .ok (.invokevirtual 187, 3) := dk_182 (x := 0) (y := 187) (by decide +kernel) rfl
theorem dX10_askNow_66 : decode cX10_askNow 66 = .ok (.aload_n 0, 1) := dk_42 (by decide +kernel)
theorem dX10_askNow_67 : decode cX10_askNow 67 = .ok (.getfield 7, 3) := dk_180 (x := 0) (y := 7) (by decide +kernel) rfl
theorem dX10_askNow_70 : decode cX10_askNow 70 = .ok (.sipush 9865, 3) := dk_17 (x := 38) (y := 137) (by decide +kernel) rfl
theorem dX10_askNow_73 : decode cX10_askNow 73 = .ok (.iconst 3, 1) := dk_6 (by decide +kernel)
theorem dX10_askNow_74 : decode cX10_askNow 74 = .ok (.iload_n 1, 1) := dk_27 (by decide +kernel)
theorem dX10_askNow_75 : decode cX10_askNow 75 = .ok (.imul, 1) := dk_104 (by decide +kernel)
theorem dX10_askNow_76 : decode cX10_askNow 76 = .ok (.iadd, 1) := dk_96 (by decide +kernel)
theorem dX10_askNow_77 : decode cX10_askNow 77 = .ok (.iconst 1, 1) := dk_4 (by decide +kernel)
theorem dX10_askNow_78 : decode cX10_askNow 78 = .ok (.iadd, 1) := dk_96 (by decide +kernel)
theorem dX10_askNow_79 : decode cX10_askNow 79 = .ok (.aload_n 0, 1) := dk_42 (by decide +kernel)
theorem dX10_askNow_80 : decode cX10_askNow 80 = .ok (.getfield 7, 3) := dk_180 (x := 0) (y := 7) (by decide +kernel) rfl
theorem dX10_askNow_83 : decode cX10_askNow 83 = .ok (.sipush 9852, 3) := dk_17 (x := 38) (y := 124) (by decide +kernel) rfl
theorem dX10_askNow_86 : decode cX10_askNow 86 = .ok (.iaload, 1) := dk_46 (by decide +kernel)
theorem dX10_askNow_87 : decode cX10_askNow 87 = .ok (.iastore, 1) := dk_79 (by decide +kernel)
theorem dX10_askNow_88 : decode cX10_askNow 88 = .ok (.aload_n 0, 1) := dk_42 (by decide +kernel)
theorem dX10_askNow_89 : decode cX10_askNow 89 = .ok (.getfield 7, 3) := dk_180 (x := 0) (y := 7) (by decide +kernel) rfl
theorem dX10_askNow_92 : decode cX10_askNow 92 = .ok (.sipush 9865, 3) := dk_17 (x := 38) (y := 137) (by decide +kernel) rfl
theorem dX10_askNow_95 : decode cX10_askNow 95 = .ok (.iconst 3, 1) := dk_6 (by decide +kernel)
theorem dX10_askNow_96 : decode cX10_askNow 96 = .ok (.iload_n 1, 1) := dk_27 (by decide +kernel)
theorem dX10_askNow_97 : decode cX10_askNow 97 = .ok (.imul, 1) := dk_104 (by decide +kernel)
theorem dX10_askNow_98 : decode cX10_askNow 98 = .ok (.iadd, 1) := dk_96 (by decide +kernel)
theorem dX10_askNow_99 : decode cX10_askNow 99 = .ok (.iconst 2, 1) := dk_5 (by decide +kernel)
theorem dX10_askNow_100 : decode cX10_askNow 100 = .ok (.iadd, 1) := dk_96 (by decide +kernel)
theorem dX10_askNow_101 : decode cX10_askNow 101 = .ok (.iconst 0, 1) := dk_3 (by decide +kernel)
theorem dX10_askNow_102 : decode cX10_askNow 102 = .ok (.iastore, 1) := dk_79 (by decide +kernel)
theorem dX10_askNow_103 : decode cX10_askNow 103 = .ok (.aload_n 0, 1) := dk_42 (by decide +kernel)
theorem dX10_askNow_104 : decode cX10_askNow 104 = .ok (.iconst 0, 1) := dk_3 (by decide +kernel)
theorem dX10_askNow_105 : decode cX10_askNow 105 = .ok (.iload_n 1, 1) := dk_27 (by decide +kernel)
theorem dX10_askNow_106 : decode cX10_askNow 106 = .ok (.aload_n 0, 1) := dk_42 (by decide +kernel)
theorem dX10_askNow_107 : decode cX10_askNow 107 = .ok (.iload_n 1, 1) := dk_27 (by decide +kernel)
theorem dX10_askNow_108 : decode cX10_askNow 108 = .ok (.iconst 3, 1) := dk_6 (by decide +kernel)
theorem dX10_askNow_109 : decode cX10_askNow 109 = .ok (.invokevirtual 93, 3) := dk_182 (x := 0) (y := 93) (by decide +kernel) rfl
theorem dX10_askNow_112 : decode cX10_askNow 112 = .ok (.aload_n 0, 1) := dk_42 (by decide +kernel)
theorem dX10_askNow_113 : decode cX10_askNow 113 = .ok (.iload_n 1, 1) := dk_27 (by decide +kernel)
theorem dX10_askNow_114 : decode cX10_askNow 114 = .ok (.iconst 2, 1) := dk_5 (by decide +kernel)
theorem dX10_askNow_115 : decode cX10_askNow 115 = .ok (.invokevirtual 93, 3) := dk_182 (x := 0) (y := 93) (by decide +kernel) rfl
theorem dX10_askNow_118 : decode cX10_askNow 118 = .ok (.invokevirtual 205, 3) := dk_182 (x := 0) (y := 205) (by decide +kernel) rfl
theorem dX10_askNow_121 : decode cX10_askNow 121 = .ok (.return_, 1) := dk_177 (by decide +kernel)
def f_X10_askNow (n : Nat) (o : Nat) (a1 : Int32) (M : Mem) : Option Mem :=
  chk (isO M 10 o) <|
  obd (f_X10_get o a1 (1 : Int32) M) fun r3 =>
  obd (f_X10_let o a1 (1 : Int32) (r3 + (1 : Int32)) M) fun M5 =>
  chk (isO M5 10 o) <|
  obd (f_X10_get o a1 (1 : Int32) M5) fun r8 =>
  obd (f_X10_let o a1 (2 : Int32) r8 M5) fun M10 =>
  chk (isO M10 10 o) <|
  obd2 (f_X10_quorumNow n o a1 M10) fun r13 M14 =>
  chk (isO M14 10 o) <|
  obd (f_X10_let o a1 (3 : Int32) r13 M14) fun M17 =>
  chk (isO M17 10 o) <|
  obd (f_X10_let o a1 (4 : Int32) (0 : Int32) M17) fun M20 =>
  chk (isO M20 10 o) <|
  obd (f_X10_let o a1 (5 : Int32) (0 : Int32) M20) fun M23 =>
  chk (isO M23 10 o) <|
  obd (f_X10_let o a1 (6 : Int32) (0 : Int32) M23) fun M26 =>
  chk (isO M26 10 o) <|
  obd (f_X10_let o a1 (0 : Int32) (1 : Int32) M26) fun M29 =>
  chk (isO M29 10 o) <|
  bnd (mR M29 o 0) fun o31 =>
  chk (isO M29 100 o31) <|
  bnd (mR M29 o 0) fun o34 =>
  chk (isO M29 100 o34) <|
  chk (inB (9852 : Int32) (mLn M29 o34)) <|
  chk (inB (((9865 : Int32) + ((3 : Int32) * a1)) + (1 : Int32)) (mLn M29 o31)) <|
  bnd (sI M29 o31 ((((9865 : Int32) + ((3 : Int32) * a1)) + (1 : Int32))).toNatClampNeg (mI M29 o34 ((9852 : Int32)).toNatClampNeg)) fun M39 =>
  bnd (mR M39 o 0) fun o44 =>
  chk (isO M39 100 o44) <|
  chk (inB (((9865 : Int32) + ((3 : Int32) * a1)) + (2 : Int32)) (mLn M39 o44)) <|
  bnd (sI M39 o44 ((((9865 : Int32) + ((3 : Int32) * a1)) + (2 : Int32))).toNatClampNeg (0 : Int32)) fun M48 =>
  obd (f_X10_get o a1 (3 : Int32) M48) fun r55 =>
  obd (f_X10_get o a1 (2 : Int32) M48) fun r57 =>
  obd (f_X10_sendAll n o (0 : Int32) a1 r55 r57 M48) fun M59 =>
  some M59
theorem cd_X10_askNow : (yX10_askNow.cls ≠ "java/lang/invoke/MethodHandle" ∧ yX10_askNow.cls ≠ "java/lang/invoke/VarHandle") ∧ (parseMethodDescriptor yX10_askNow.desc).map (fun d => d.parameters.length) = some 1 := ⟨⟨by decide +kernel, by decide +kernel⟩, by decide +kernel⟩
theorem k_X10_askNow (G : Gam) {n : Nat} {o : Nat} {a1 : Int32} {M : Mem} {rv : Mem} (hf : f_X10_askNow n o a1 M = some rv) : Kt yX10_askNow cX10_askNow 2 none 4 90 G [.ref (gB G + o), .int a1] M rv none := by
  refine Kt.of (by decide) (Nat.le_of_ble_eq_true rfl) ?_
  intro p l e R s m args below meth c X hr hlk hnm
  refine s_drop [0, 1] (vs' := [(0, .ref (gB G + o)), (1, .int a1)]) rfl ?_
  rw [f_X10_askNow] at hf
  refine s_aload_n X 0 dX10_askNow_0 rfl rfl ?_
  refine s_iload_n X 1 dX10_askNow_1 rfl rfl ?_
  refine s_iconst X (v := (1 : Int32)) dX10_askNow_2 rfl ?_
  refine s_aload_n X 0 dX10_askNow_3 rfl rfl ?_
  refine s_iload_n X 1 dX10_askNow_4 rfl rfl ?_
  refine s_iconst X (v := (1 : Int32)) dX10_askNow_5 rfl ?_
  obtain ⟨h1, hf⟩ := pk_chk hf
  obtain ⟨r3, hc2, hf⟩ := pk_obd hf
  refine s_callV X (ci := 10) (k_X10_get G hc2) rfl h1 wd1588 wd1590 wd57 wd1591 wd138 cd_X10_get ⟨Nat.le_of_ble_eq_true rfl, Nat.le_of_ble_eq_true rfl⟩ (Nat.le_of_ble_eq_true rfl) dX10_askNow_6 ?_
  refine s_iconst X (v := (1 : Int32)) dX10_askNow_9 rfl ?_
  refine s_iadd X dX10_askNow_10 ?_
  obtain ⟨M5, hc4, hf⟩ := pk_obd hf
  refine s_callV X (ci := 10) (k_X10_let G hc4) rfl h1 wd1692 wd1694 wd68 wd1695 wd138 cd_X10_let ⟨Nat.le_of_ble_eq_true rfl, Nat.le_of_ble_eq_true rfl⟩ (Nat.le_of_ble_eq_true rfl) dX10_askNow_11 ?_
  refine s_aload_n X 0 dX10_askNow_14 rfl rfl ?_
  refine s_iload_n X 1 dX10_askNow_15 rfl rfl ?_
  refine s_iconst X (v := (2 : Int32)) dX10_askNow_16 rfl ?_
  refine s_aload_n X 0 dX10_askNow_17 rfl rfl ?_
  refine s_iload_n X 1 dX10_askNow_18 rfl rfl ?_
  refine s_iconst X (v := (1 : Int32)) dX10_askNow_19 rfl ?_
  obtain ⟨h6, hf⟩ := pk_chk hf
  obtain ⟨r8, hc7, hf⟩ := pk_obd hf
  refine s_callV X (ci := 10) (k_X10_get G hc7) rfl h6 wd1588 wd1590 wd57 wd1591 wd138 cd_X10_get ⟨Nat.le_of_ble_eq_true rfl, Nat.le_of_ble_eq_true rfl⟩ (Nat.le_of_ble_eq_true rfl) dX10_askNow_20 ?_
  obtain ⟨M10, hc9, hf⟩ := pk_obd hf
  refine s_callV X (ci := 10) (k_X10_let G hc9) rfl h6 wd1692 wd1694 wd68 wd1695 wd138 cd_X10_let ⟨Nat.le_of_ble_eq_true rfl, Nat.le_of_ble_eq_true rfl⟩ (Nat.le_of_ble_eq_true rfl) dX10_askNow_23 ?_
  refine s_aload_n X 0 dX10_askNow_26 rfl rfl ?_
  refine s_iload_n X 1 dX10_askNow_27 rfl rfl ?_
  refine s_iconst X (v := (3 : Int32)) dX10_askNow_28 rfl ?_
  refine s_aload_n X 0 dX10_askNow_29 rfl rfl ?_
  refine s_iload_n X 1 dX10_askNow_30 rfl rfl ?_
  obtain ⟨h11, hf⟩ := pk_chk hf
  obtain ⟨r13, M14, hc12, hf⟩ := pk_obd2 hf
  refine s_callV X (ci := 10) (k_X10_quorumNow G hc12) rfl h11 wd1580 wd1582 wd55 wd1583 wd138 cd_X10_quorumNow ⟨Nat.le_of_ble_eq_true rfl, Nat.le_of_ble_eq_true rfl⟩ (Nat.le_of_ble_eq_true rfl) dX10_askNow_31 ?_
  obtain ⟨h15, hf⟩ := pk_chk hf
  obtain ⟨M17, hc16, hf⟩ := pk_obd hf
  refine s_callV X (ci := 10) (k_X10_let G hc16) rfl h15 wd1692 wd1694 wd68 wd1695 wd138 cd_X10_let ⟨Nat.le_of_ble_eq_true rfl, Nat.le_of_ble_eq_true rfl⟩ (Nat.le_of_ble_eq_true rfl) dX10_askNow_34 ?_
  refine s_aload_n X 0 dX10_askNow_37 rfl rfl ?_
  refine s_iload_n X 1 dX10_askNow_38 rfl rfl ?_
  refine s_iconst X (v := (4 : Int32)) dX10_askNow_39 rfl ?_
  refine s_iconst X (v := (0 : Int32)) dX10_askNow_40 rfl ?_
  obtain ⟨h18, hf⟩ := pk_chk hf
  obtain ⟨M20, hc19, hf⟩ := pk_obd hf
  refine s_callV X (ci := 10) (k_X10_let G hc19) rfl h18 wd1692 wd1694 wd68 wd1695 wd138 cd_X10_let ⟨Nat.le_of_ble_eq_true rfl, Nat.le_of_ble_eq_true rfl⟩ (Nat.le_of_ble_eq_true rfl) dX10_askNow_41 ?_
  refine s_aload_n X 0 dX10_askNow_44 rfl rfl ?_
  refine s_iload_n X 1 dX10_askNow_45 rfl rfl ?_
  refine s_iconst X (v := (5 : Int32)) dX10_askNow_46 rfl ?_
  refine s_iconst X (v := (0 : Int32)) dX10_askNow_47 rfl ?_
  obtain ⟨h21, hf⟩ := pk_chk hf
  obtain ⟨M23, hc22, hf⟩ := pk_obd hf
  refine s_callV X (ci := 10) (k_X10_let G hc22) rfl h21 wd1692 wd1694 wd68 wd1695 wd138 cd_X10_let ⟨Nat.le_of_ble_eq_true rfl, Nat.le_of_ble_eq_true rfl⟩ (Nat.le_of_ble_eq_true rfl) dX10_askNow_48 ?_
  refine s_aload_n X 0 dX10_askNow_51 rfl rfl ?_
  refine s_iload_n X 1 dX10_askNow_52 rfl rfl ?_
  refine s_bipush X (v := (6 : Int32)) dX10_askNow_53 rfl ?_
  refine s_iconst X (v := (0 : Int32)) dX10_askNow_55 rfl ?_
  obtain ⟨h24, hf⟩ := pk_chk hf
  obtain ⟨M26, hc25, hf⟩ := pk_obd hf
  refine s_callV X (ci := 10) (k_X10_let G hc25) rfl h24 wd1692 wd1694 wd68 wd1695 wd138 cd_X10_let ⟨Nat.le_of_ble_eq_true rfl, Nat.le_of_ble_eq_true rfl⟩ (Nat.le_of_ble_eq_true rfl) dX10_askNow_56 ?_
  refine s_aload_n X 0 dX10_askNow_59 rfl rfl ?_
  refine s_iload_n X 1 dX10_askNow_60 rfl rfl ?_
  refine s_iconst X (v := (0 : Int32)) dX10_askNow_61 rfl ?_
  refine s_iconst X (v := (1 : Int32)) dX10_askNow_62 rfl ?_
  obtain ⟨h27, hf⟩ := pk_chk hf
  obtain ⟨M29, hc28, hf⟩ := pk_obd hf
  refine s_callV X (ci := 10) (k_X10_let G hc28) rfl h27 wd1692 wd1694 wd68 wd1695 wd138 cd_X10_let ⟨Nat.le_of_ble_eq_true rfl, Nat.le_of_ble_eq_true rfl⟩ (Nat.le_of_ble_eq_true rfl) dX10_askNow_63 ?_
  refine s_aload_n X 0 dX10_askNow_66 rfl rfl ?_
  obtain ⟨h30, hf⟩ := pk_chk hf
  obtain ⟨o31, e32, hf⟩ := pk_bnd hf
  obtain ⟨h33, hf⟩ := pk_chk hf
  refine s_getR X (ci := 10) (k := 0) rfl (Nat.le_of_ble_eq_true rfl) h30 wd1440 (fun _ _ _ => rfl) (e32 ▸ h33) dX10_askNow_67 (e32 ▸ ?_)
  refine s_sipush X (v := (9865 : Int32)) dX10_askNow_70 rfl ?_
  refine s_iconst X (v := (3 : Int32)) dX10_askNow_73 rfl ?_
  refine s_iload_n X 1 dX10_askNow_74 rfl rfl ?_
  refine s_imul X dX10_askNow_75 ?_
  refine s_iadd X dX10_askNow_76 ?_
  refine s_iconst X (v := (1 : Int32)) dX10_askNow_77 rfl ?_
  refine s_iadd X dX10_askNow_78 ?_
  refine s_aload_n X 0 dX10_askNow_79 rfl rfl ?_
  obtain ⟨o34, e35, hf⟩ := pk_bnd hf
  obtain ⟨h36, hf⟩ := pk_chk hf
  refine s_getR X (ci := 10) (k := 0) rfl (Nat.le_of_ble_eq_true rfl) h30 wd1440 (fun _ _ _ => rfl) (e35 ▸ h36) dX10_askNow_80 (e35 ▸ ?_)
  refine s_sipush X (v := (9852 : Int32)) dX10_askNow_83 rfl ?_
  obtain ⟨h37, hf⟩ := pk_chk hf
  refine s_iald X h36 h37 dX10_askNow_86 ?_
  obtain ⟨h38, hf⟩ := pk_chk hf
  obtain ⟨M39, e40, hf⟩ := pk_bnd hf
  refine s_iast X h33 h38 e40 dX10_askNow_87 ?_
  have h41 := io_sI e40 h30
  have h42 := io_sI e40 h33
  have h43 := io_sI e40 h36
  refine s_aload_n X 0 dX10_askNow_88 rfl rfl ?_
  obtain ⟨o44, e45, hf⟩ := pk_bnd hf
  obtain ⟨h46, hf⟩ := pk_chk hf
  refine s_getR X (ci := 10) (k := 0) rfl (Nat.le_of_ble_eq_true rfl) h41 wd1440 (fun _ _ _ => rfl) (e45 ▸ h46) dX10_askNow_89 (e45 ▸ ?_)
  refine s_sipush X (v := (9865 : Int32)) dX10_askNow_92 rfl ?_
  refine s_iconst X (v := (3 : Int32)) dX10_askNow_95 rfl ?_
  refine s_iload_n X 1 dX10_askNow_96 rfl rfl ?_
  refine s_imul X dX10_askNow_97 ?_
  refine s_iadd X dX10_askNow_98 ?_
  refine s_iconst X (v := (2 : Int32)) dX10_askNow_99 rfl ?_
  refine s_iadd X dX10_askNow_100 ?_
  refine s_iconst X (v := (0 : Int32)) dX10_askNow_101 rfl ?_
  obtain ⟨h47, hf⟩ := pk_chk hf
  obtain ⟨M48, e49, hf⟩ := pk_bnd hf
  refine s_iast X h46 h47 e49 dX10_askNow_102 ?_
  have h50 := io_sI e49 h41
  have h51 := io_sI e49 h42
  have h52 := io_sI e49 h43
  have h53 := io_sI e49 h46
  refine s_aload_n X 0 dX10_askNow_103 rfl rfl ?_
  refine s_iconst X (v := (0 : Int32)) dX10_askNow_104 rfl ?_
  refine s_iload_n X 1 dX10_askNow_105 rfl rfl ?_
  refine s_aload_n X 0 dX10_askNow_106 rfl rfl ?_
  refine s_iload_n X 1 dX10_askNow_107 rfl rfl ?_
  refine s_iconst X (v := (3 : Int32)) dX10_askNow_108 rfl ?_
  obtain ⟨r55, hc54, hf⟩ := pk_obd hf
  refine s_callV X (ci := 10) (k_X10_get G hc54) rfl h50 wd1588 wd1590 wd57 wd1591 wd138 cd_X10_get ⟨Nat.le_of_ble_eq_true rfl, Nat.le_of_ble_eq_true rfl⟩ (Nat.le_of_ble_eq_true rfl) dX10_askNow_109 ?_
  refine s_aload_n X 0 dX10_askNow_112 rfl rfl ?_
  refine s_iload_n X 1 dX10_askNow_113 rfl rfl ?_
  refine s_iconst X (v := (2 : Int32)) dX10_askNow_114 rfl ?_
  obtain ⟨r57, hc56, hf⟩ := pk_obd hf
  refine s_callV X (ci := 10) (k_X10_get G hc56) rfl h50 wd1588 wd1590 wd57 wd1591 wd138 cd_X10_get ⟨Nat.le_of_ble_eq_true rfl, Nat.le_of_ble_eq_true rfl⟩ (Nat.le_of_ble_eq_true rfl) dX10_askNow_115 ?_
  obtain ⟨M59, hc58, hf⟩ := pk_obd hf
  refine s_callV X (ci := 10) (k_X10_sendAll G hc58) rfl h50 wd1696 wd1698 wd69 wd1699 wd138 cd_X10_sendAll ⟨Nat.le_of_ble_eq_true rfl, Nat.le_of_ble_eq_true rfl⟩ (Nat.le_of_ble_eq_true rfl) dX10_askNow_118 ?_
  cases hf
  exact s_vret X hr hlk dX10_askNow_121
theorem dX10_ask_0 : decode cX10_ask 0 = .ok (.aload_n 0, 1) := dk_42 (by decide +kernel)
theorem dX10_ask_1 : decode cX10_ask 1 = .ok (.iload_n 1, 1) := dk_27 (by decide +kernel)
theorem dX10_ask_2 : decode cX10_ask 2 = .ok (.invokevirtual 76, 3) := dk_182 (x := 0) (y := 76) (by decide +kernel) rfl
theorem dX10_ask_5 : decode cX10_ask 5 = .ok (.ifCond .eq 11, 3) := dk_153 (x := 0) (y := 11) (by decide +kernel) rfl
theorem dX10_ask_8 : decode cX10_ask 8 = .ok (.aload_n 0, 1) := dk_42 (by decide +kernel)
theorem dX10_ask_9 : decode cX10_ask 9 = .ok (.iload_n 1, 1) := dk_27 (by decide +kernel)
theorem dX10_ask_10 : decode cX10_ask 10 = .ok (.invokevirtual 208, 3) := dk_182 (x := 0) (y := 208) (by decide +kernel) rfl
theorem dX10_ask_13 : decode cX10_ask 13 = .ok (.ifCond .ne 5, 3) := dk_154 (x := 0) (y := 5) (by decide +kernel) rfl
theorem dX10_ask_16 : decode cX10_ask 16 = .ok (.iconst (-1), 1) := dk_2 (by decide +kernel)
theorem dX10_ask_17 : decode cX10_ask 17 = .ok (.ireturn, 1) := dk_172 (by decide +kernel)
theorem dX10_ask_18 : decode cX10_ask 18 = .ok (.aload_n 0, 1) := dk_42 (by decide +kernel)
theorem dX10_ask_19 : decode cX10_ask 19 = .ok (.iload_n 1, 1) := dk_27 (by decide +kernel)
theorem dX10_ask_20 : decode cX10_ask 20 = .ok (.invokevirtual 211, 3) := dk_182 (x := 0) (y := 211) (by decide +kernel) rfl
theorem dX10_ask_23 : decode cX10_ask 23 = .ok (.aload_n 0, 1) := dk_42 (by decide +kernel)
theorem dX10_ask_24 : decode cX10_ask 24 = .ok (.iload_n 1, 1) := dk_27 (by decide +kernel)
theorem dX10_ask_25 : decode cX10_ask 25 = .ok (.iconst 2, 1) := dk_5 (by decide +kernel)
theorem dX10_ask_26 : decode cX10_ask 26 = .ok (.invokevirtual 93, 3) := dk_182 (x := 0) (y := 93) (by decide +kernel) rfl
theorem dX10_ask_29 : decode cX10_ask 29 = .ok (.ireturn, 1) := dk_172 (by decide +kernel)
def f_X10_ask (n : Nat) (o : Nat) (a1 : Int32) (M : Mem) : Option (Int32 × Mem) :=
  chk (isO M 10 o) <|
  obd (f_X10_isNode o a1 M) fun r3 =>
  if r3 = 0 then (
    some ((-1 : Int32), M)
    ) else (
    obd2 (f_X10_canAsk n o a1 M) fun r7 M8 =>
    if r7 = 0 then (
      some ((-1 : Int32), M8)
      ) else (
      chk (isO M8 10 o) <|
      obd (f_X10_askNow n o a1 M8) fun M13 =>
      chk (isO M13 10 o) <|
      obd (f_X10_get o a1 (2 : Int32) M13) fun r16 =>
      some (r16, M13)
      )
    )
theorem cd_X10_ask : (yX10_ask.cls ≠ "java/lang/invoke/MethodHandle" ∧ yX10_ask.cls ≠ "java/lang/invoke/VarHandle") ∧ (parseMethodDescriptor yX10_ask.desc).map (fun d => d.parameters.length) = some 1 := ⟨⟨by decide +kernel, by decide +kernel⟩, by decide +kernel⟩
theorem k_X10_ask (G : Gam) {n : Nat} {o : Nat} {a1 : Int32} {M : Mem} {rv : (Int32 × Mem)} (hf : f_X10_ask n o a1 M = some rv) : Kt yX10_ask cX10_ask 2 (some .int) 5 111 G [.ref (gB G + o), .int a1] M rv.2 (some (.int rv.1)) := by
  refine Kt.of (by decide) (Nat.le_of_ble_eq_true rfl) ?_
  intro p l e R s m args below meth c X hr hlk hnm
  refine s_drop [0, 1] (vs' := [(0, .ref (gB G + o)), (1, .int a1)]) rfl ?_
  rw [f_X10_ask] at hf
  refine s_aload_n X 0 dX10_ask_0 rfl rfl ?_
  refine s_iload_n X 1 dX10_ask_1 rfl rfl ?_
  obtain ⟨h1, hf⟩ := pk_chk hf
  obtain ⟨r3, hc2, hf⟩ := pk_obd hf
  refine s_callV X (ci := 10) (k_X10_isNode G hc2) rfl h1 wd1554 wd1556 wd53 wd1557 wd138 cd_X10_isNode ⟨Nat.le_of_ble_eq_true rfl, Nat.le_of_ble_eq_true rfl⟩ (Nat.le_of_ble_eq_true rfl) dX10_ask_2 ?_
  have hs4 := pk_ite hf
  clear hf
  refine s_if_eq X (tgt := 16) dX10_ask_5 rfl (fun c5 => ?_) (fun c5 => ?_)
  · have hf := hs4.1 c5
    refine s_iconst X (v := (-1 : Int32)) dX10_ask_16 rfl ?_
    cases hf
    exact s_iret X hr hlk dX10_ask_17
  · have hf := hs4.2 c5
    refine s_aload_n X 0 dX10_ask_8 rfl rfl ?_
    refine s_iload_n X 1 dX10_ask_9 rfl rfl ?_
    obtain ⟨r7, M8, hc6, hf⟩ := pk_obd2 hf
    refine s_callV X (ci := 10) (k_X10_canAsk G hc6) rfl h1 wd1684 wd1686 wd66 wd1687 wd138 cd_X10_canAsk ⟨Nat.le_of_ble_eq_true rfl, Nat.le_of_ble_eq_true rfl⟩ (Nat.le_of_ble_eq_true rfl) dX10_ask_10 ?_
    have hs9 := pk_ite hf
    clear hf
    refine s_if_ne X (tgt := 18) dX10_ask_13 rfl (fun c10 => ?_) (fun c10 => ?_)
    · have hf := hs9.2 c10
      refine s_aload_n X 0 dX10_ask_18 rfl rfl ?_
      refine s_iload_n X 1 dX10_ask_19 rfl rfl ?_
      obtain ⟨h11, hf⟩ := pk_chk hf
      obtain ⟨M13, hc12, hf⟩ := pk_obd hf
      refine s_callV X (ci := 10) (k_X10_askNow G hc12) rfl h11 wd1688 wd1690 wd67 wd1691 wd138 cd_X10_askNow ⟨Nat.le_of_ble_eq_true rfl, Nat.le_of_ble_eq_true rfl⟩ (Nat.le_of_ble_eq_true rfl) dX10_ask_20 ?_
      refine s_aload_n X 0 dX10_ask_23 rfl rfl ?_
      refine s_iload_n X 1 dX10_ask_24 rfl rfl ?_
      refine s_iconst X (v := (2 : Int32)) dX10_ask_25 rfl ?_
      obtain ⟨h14, hf⟩ := pk_chk hf
      obtain ⟨r16, hc15, hf⟩ := pk_obd hf
      refine s_callV X (ci := 10) (k_X10_get G hc15) rfl h14 wd1588 wd1590 wd57 wd1591 wd138 cd_X10_get ⟨Nat.le_of_ble_eq_true rfl, Nat.le_of_ble_eq_true rfl⟩ (Nat.le_of_ble_eq_true rfl) dX10_ask_26 ?_
      cases hf
      exact s_iret X hr hlk dX10_ask_29
    · have hf := hs9.1 c10
      refine s_iconst X (v := (-1 : Int32)) dX10_ask_16 rfl ?_
      cases hf
      exact s_iret X hr hlk dX10_ask_17
theorem dX2_beIdle_0 : decode cX2_beIdle 0 = .ok (.aload_n 0, 1) := dk_42 (by decide +kernel)
theorem dX2_beIdle_1 : decode cX2_beIdle 1 = .ok (.dup, 1) := dk_89 (by decide +kernel)
theorem dX2_beIdle_2 : decode cX2_beIdle 2 = .ok (.getfield 55, 3) := dk_180 (x := 0) (y := 55) (by decide +kernel) rfl
theorem dX2_beIdle_5 : decode cX2_beIdle 5 = .ok (.iconst 1, 1) := dk_4 (by decide +kernel)
theorem dX2_beIdle_6 : decode cX2_beIdle 6 = .ok (.iload_n 1, 1) := dk_27 (by decide +kernel)
theorem dX2_beIdle_7 : decode cX2_beIdle 7 = .ok (.ishl, 1) := dk_120 (by decide +kernel)
theorem dX2_beIdle_8 : decode cX2_beIdle 8 = .ok (.iconst (-1), 1) := dk_2 (by decide +kernel)
theorem dX2_beIdle_9 : decode cX2_beIdle 9 = .ok (.ixor, 1) := dk_130 (by decide +kernel)
theorem dX2_beIdle_10 : decode cX2_beIdle 10 = .ok (.iand, 1) := dk_126 (by decide +kernel)
theorem dX2_beIdle_11 : decode cX2_beIdle 11 = .ok (.putfield 55, 3) := dk_181 (x := 0) (y := 55) (by decide +kernel) rfl
theorem dX2_beIdle_14 : decode cX2_beIdle 14 = .ok (.aload_n 0, 1) := dk_42 (by decide +kernel)
theorem dX2_beIdle_15 : decode cX2_beIdle 15 = .ok (.dup, 1) := dk_89 (by decide +kernel)
theorem dX2_beIdle_16 : decode cX2_beIdle 16 = .ok (.getfield 59, 3) := dk_180 (x := 0) (y := 59) (by decide +kernel) rfl
theorem dX2_beIdle_19 : decode cX2_beIdle 19 = .ok (.iconst 1, 1) := dk_4 (by decide +kernel)
theorem dX2_beIdle_20 : decode cX2_beIdle 20 = .ok (.iload_n 1, 1) := dk_27 (by decide +kernel)
theorem dX2_beIdle_21 : decode cX2_beIdle 21 = .ok (.ishl, 1) := dk_120 (by decide +kernel)
theorem dX2_beIdle_22 : decode cX2_beIdle 22 = .ok (.iconst (-1), 1) := dk_2 (by decide +kernel)
theorem dX2_beIdle_23 : decode cX2_beIdle 23 = .ok (.ixor, 1) := dk_130 (by decide +kernel)
theorem dX2_beIdle_24 : decode cX2_beIdle 24 = .ok (.iand, 1) := dk_126 (by decide +kernel)
theorem dX2_beIdle_25 : decode cX2_beIdle 25 = .ok (.putfield 59, 3) := dk_181 (x := 0) (y := 59) (by decide +kernel) rfl
theorem dX2_beIdle_28 : decode cX2_beIdle 28 = .ok (.aload_n 0, 1) := dk_42 (by decide +kernel)
theorem dX2_beIdle_29 : decode cX2_beIdle 29 = .ok (.getfield 20, 3) := dk_180 (x := 0) (y := 20) (by decide +kernel) rfl
theorem dX2_beIdle_32 : decode cX2_beIdle 32 = .ok (.iload_n 1, 1) := dk_27 (by decide +kernel)
theorem dX2_beIdle_33 : decode cX2_beIdle 33 = .ok (.aaload, 1) := dk_50 (by decide +kernel)
theorem dX2_beIdle_34 : decode cX2_beIdle 34 = .ok (.invokevirtual 121, 3) := dk_182 (x := 0) (y := 121) (by decide +kernel) rfl
theorem dX2_beIdle_37 : decode cX2_beIdle 37 = .ok (.return_, 1) := dk_177 (by decide +kernel)
def f_X2_beIdle (o : Nat) (a1 : Int32) (M : Mem) : Option Mem :=
  chk (isO M 2 o) <|
  bnd (sI M o 7 ((mI M o 7) &&& (((1 : Int32) <<< (a1 &&& 31)) ^^^ (-1 : Int32)))) fun M2 =>
  bnd (sI M2 o 8 ((mI M2 o 8) &&& (((1 : Int32) <<< (a1 &&& 31)) ^^^ (-1 : Int32)))) fun M5 =>
  bnd (mR M5 o 2) fun o8 =>
  chk (isO M5 102 o8) <|
  chk (inB a1 (mLn M5 o8)) <|
  bnd (mR M5 o8 (a1).toNatClampNeg) fun o12 =>
  chk (isO M5 4 o12) <|
  obd (f_X4_rest o12 M5) fun M16 =>
  some M16
theorem cd_X2_beIdle : (yX2_beIdle.cls ≠ "java/lang/invoke/MethodHandle" ∧ yX2_beIdle.cls ≠ "java/lang/invoke/VarHandle") ∧ (parseMethodDescriptor yX2_beIdle.desc).map (fun d => d.parameters.length) = some 1 := ⟨⟨by decide +kernel, by decide +kernel⟩, by decide +kernel⟩
theorem k_X2_beIdle (G : Gam) {o : Nat} {a1 : Int32} {M : Mem} {rv : Mem} (hf : f_X2_beIdle o a1 M = some rv) : Kt yX2_beIdle cX2_beIdle 2 none 1 20 G [.ref (gB G + o), .int a1] M rv none := by
  refine Kt.of (by decide) (Nat.le_of_ble_eq_true rfl) ?_
  intro p l e R s m args below meth c X hr hlk hnm
  refine s_drop [0, 1] (vs' := [(0, .ref (gB G + o)), (1, .int a1)]) rfl ?_
  rw [f_X2_beIdle] at hf
  refine s_aload_n X 0 dX2_beIdle_0 rfl rfl ?_
  refine s_dup X dX2_beIdle_1 rfl ?_
  obtain ⟨h1, hf⟩ := pk_chk hf
  refine s_getI X (ci := 2) (k := 7) rfl (Nat.le_of_ble_eq_true rfl) h1 wd434 (fun _ _ _ => rfl) dX2_beIdle_2 ?_
  refine s_iconst X (v := (1 : Int32)) dX2_beIdle_5 rfl ?_
  refine s_iload_n X 1 dX2_beIdle_6 rfl rfl ?_
  refine s_ishl X dX2_beIdle_7 ?_
  refine s_iconst X (v := (-1 : Int32)) dX2_beIdle_8 rfl ?_
  refine s_ixor X dX2_beIdle_9 ?_
  refine s_iand X dX2_beIdle_10 ?_
  obtain ⟨M2, e3, hf⟩ := pk_bnd hf
  refine s_putI X (ci := 2) (k := 7) rfl (Nat.le_of_ble_eq_true rfl) h1 wd434 (fun _ _ _ => rfl) rfl rfl e3 dX2_beIdle_11 ?_
  have h4 := io_sI e3 h1
  refine s_aload_n X 0 dX2_beIdle_14 rfl rfl ?_
  refine s_dup X dX2_beIdle_15 rfl ?_
  refine s_getI X (ci := 2) (k := 8) rfl (Nat.le_of_ble_eq_true rfl) h4 wd438 (fun _ _ _ => rfl) dX2_beIdle_16 ?_
  refine s_iconst X (v := (1 : Int32)) dX2_beIdle_19 rfl ?_
  refine s_iload_n X 1 dX2_beIdle_20 rfl rfl ?_
  refine s_ishl X dX2_beIdle_21 ?_
  refine s_iconst X (v := (-1 : Int32)) dX2_beIdle_22 rfl ?_
  refine s_ixor X dX2_beIdle_23 ?_
  refine s_iand X dX2_beIdle_24 ?_
  obtain ⟨M5, e6, hf⟩ := pk_bnd hf
  refine s_putI X (ci := 2) (k := 8) rfl (Nat.le_of_ble_eq_true rfl) h4 wd438 (fun _ _ _ => rfl) rfl rfl e6 dX2_beIdle_25 ?_
  have h7 := io_sI e6 h4
  refine s_aload_n X 0 dX2_beIdle_28 rfl rfl ?_
  obtain ⟨o8, e9, hf⟩ := pk_bnd hf
  obtain ⟨h10, hf⟩ := pk_chk hf
  refine s_getR X (ci := 2) (k := 2) rfl (Nat.le_of_ble_eq_true rfl) h7 wd423 (fun _ _ _ => rfl) (e9 ▸ h10) dX2_beIdle_29 (e9 ▸ ?_)
  refine s_iload_n X 1 dX2_beIdle_32 rfl rfl ?_
  obtain ⟨h11, hf⟩ := pk_chk hf
  obtain ⟨o12, e13, hf⟩ := pk_bnd hf
  obtain ⟨h14, hf⟩ := pk_chk hf
  refine s_aald X h10 h11 (e13 ▸ h14) dX2_beIdle_33 (e13 ▸ ?_)
  obtain ⟨M16, hc15, hf⟩ := pk_obd hf
  refine s_callV X (ci := 4) (k_X4_rest G hc15) rfl h14 wd940 wd604 wd605 wd606 wd133 cd_X4_rest ⟨Nat.le_of_ble_eq_true rfl, Nat.le_of_ble_eq_true rfl⟩ (Nat.le_of_ble_eq_true rfl) dX2_beIdle_34 ?_
  cases hf
  exact s_vret X hr hlk dX2_beIdle_37
theorem dX2_finish_0 : decode cX2_finish 0 = .ok (.aload_n 0, 1) := dk_42 (by decide +kernel)
theorem dX2_finish_1 : decode cX2_finish 1 = .ok (.iconst 5, 1) := dk_8 (by decide +kernel)
theorem dX2_finish_2 : decode cX2_finish 2 = .ok (.iload_n 1, 1) := dk_27 (by decide +kernel)
theorem dX2_finish_3 : decode cX2_finish 3 = .ok (.aload_n 0, 1) := dk_42 (by decide +kernel)
theorem dX2_finish_4 : decode cX2_finish 4 = .ok (.getfield 20, 3) := dk_180 (x := 0) (y := 20) (by decide +kernel) rfl
theorem dX2_finish_7 : decode cX2_finish 7 = .ok (.iload_n 1, 1) := dk_27 (by decide +kernel)
theorem dX2_finish_8 : decode cX2_finish 8 = .ok (.aaload, 1) := dk_50 (by decide +kernel)
theorem dX2_finish_9 : decode cX2_finish 9 = .ok (.getfield 124, 3) := dk_180 (x := 0) (y := 124) (by decide +kernel) rfl
theorem dX2_finish_12 : decode cX2_finish 12 = .ok (.invokevirtual 133, 3) := dk_182 (x := 0) (y := 133) (by decide +kernel) rfl
theorem dX2_finish_15 : decode cX2_finish 15 = .ok (.aload_n 0, 1) := dk_42 (by decide +kernel)
theorem dX2_finish_16 : decode cX2_finish 16 = .ok (.iload_n 1, 1) := dk_27 (by decide +kernel)
theorem dX2_finish_17 : decode cX2_finish 17 = .ok (.invokevirtual 144, 3) := dk_182 (x := 0) (y := 144) (by decide +kernel) rfl
theorem dX2_finish_20 : decode cX2_finish 20 = .ok (.return_, 1) := dk_177 (by decide +kernel)
def f_X2_finish (n : Nat) (o : Nat) (a1 : Int32) (M : Mem) : Option Mem :=
  chk (isO M 2 o) <|
  bnd (mR M o 2) fun o2 =>
  chk (isO M 102 o2) <|
  chk (inB a1 (mLn M o2)) <|
  bnd (mR M o2 (a1).toNatClampNeg) fun o6 =>
  chk (isO M 4 o6) <|
  obd (f_X2_sendToAll n o (5 : Int32) a1 (mI M o6 2) M) fun M10 =>
  chk (isO M10 2 o) <|
  obd (f_X2_beIdle o a1 M10) fun M13 =>
  some M13
theorem cd_X2_finish : (yX2_finish.cls ≠ "java/lang/invoke/MethodHandle" ∧ yX2_finish.cls ≠ "java/lang/invoke/VarHandle") ∧ (parseMethodDescriptor yX2_finish.desc).map (fun d => d.parameters.length) = some 1 := ⟨⟨by decide +kernel, by decide +kernel⟩, by decide +kernel⟩
theorem k_X2_finish (G : Gam) {n : Nat} {o : Nat} {a1 : Int32} {M : Mem} {rv : Mem} (hf : f_X2_finish n o a1 M = some rv) : Kt yX2_finish cX2_finish 2 none 4 100 G [.ref (gB G + o), .int a1] M rv none := by
  refine Kt.of (by decide) (Nat.le_of_ble_eq_true rfl) ?_
  intro p l e R s m args below meth c X hr hlk hnm
  refine s_drop [0, 1] (vs' := [(0, .ref (gB G + o)), (1, .int a1)]) rfl ?_
  rw [f_X2_finish] at hf
  refine s_aload_n X 0 dX2_finish_0 rfl rfl ?_
  refine s_iconst X (v := (5 : Int32)) dX2_finish_1 rfl ?_
  refine s_iload_n X 1 dX2_finish_2 rfl rfl ?_
  refine s_aload_n X 0 dX2_finish_3 rfl rfl ?_
  obtain ⟨h1, hf⟩ := pk_chk hf
  obtain ⟨o2, e3, hf⟩ := pk_bnd hf
  obtain ⟨h4, hf⟩ := pk_chk hf
  refine s_getR X (ci := 2) (k := 2) rfl (Nat.le_of_ble_eq_true rfl) h1 wd423 (fun _ _ _ => rfl) (e3 ▸ h4) dX2_finish_4 (e3 ▸ ?_)
  refine s_iload_n X 1 dX2_finish_7 rfl rfl ?_
  obtain ⟨h5, hf⟩ := pk_chk hf
  obtain ⟨o6, e7, hf⟩ := pk_bnd hf
  obtain ⟨h8, hf⟩ := pk_chk hf
  refine s_aald X h4 h5 (e7 ▸ h8) dX2_finish_8 (e7 ▸ ?_)
  refine s_getI X (ci := 4) (k := 2) rfl (Nat.le_of_ble_eq_true rfl) h8 wd334 (fun _ _ _ => rfl) dX2_finish_9 ?_
  obtain ⟨M10, hc9, hf⟩ := pk_obd hf
  refine s_callV X (ci := 2) (k_X2_sendToAll G hc9) rfl h1 wd941 wd943 wd12 wd944 wd130 cd_X2_sendToAll ⟨Nat.le_of_ble_eq_true rfl, Nat.le_of_ble_eq_true rfl⟩ (Nat.le_of_ble_eq_true rfl) dX2_finish_12 ?_
  refine s_aload_n X 0 dX2_finish_15 rfl rfl ?_
  refine s_iload_n X 1 dX2_finish_16 rfl rfl ?_
  obtain ⟨h11, hf⟩ := pk_chk hf
  obtain ⟨M13, hc12, hf⟩ := pk_obd hf
  refine s_callV X (ci := 2) (k_X2_beIdle G hc12) rfl h11 wd971 wd973 wd13 wd974 wd130 cd_X2_beIdle ⟨Nat.le_of_ble_eq_true rfl, Nat.le_of_ble_eq_true rfl⟩ (Nat.le_of_ble_eq_true rfl) dX2_finish_17 ?_
  cases hf
  exact s_vret X hr hlk dX2_finish_20
theorem dX9_leave_0 : decode cX9_leave 0 = .ok (.aload_n 0, 1) := dk_42 (by decide +kernel)
theorem dX9_leave_1 : decode cX9_leave 1 = .ok (.getfield 10, 3) := dk_180 (x := 0) (y := 10) (by decide +kernel) rfl
theorem dX9_leave_4 : decode cX9_leave 4 = .ok (.iload_n 1, 1) := dk_27 (by decide +kernel)
theorem dX9_leave_5 : decode cX9_leave 5 = .ok (.invokevirtual 71, 3) := dk_182 (x := 0) (y := 71) (by decide +kernel) rfl
theorem dX9_leave_8 : decode cX9_leave 8 = .ok (.ifCond .eq 17, 3) := dk_153 (x := 0) (y := 17) (by decide +kernel) rfl
theorem dX9_leave_11 : decode cX9_leave 11 = .ok (.aload_n 0, 1) := dk_42 (by decide +kernel)
theorem dX9_leave_12 : decode cX9_leave 12 = .ok (.getfield 28, 3) := dk_180 (x := 0) (y := 28) (by decide +kernel) rfl
theorem dX9_leave_15 : decode cX9_leave 15 = .ok (.getfield 177, 3) := dk_180 (x := 0) (y := 177) (by decide +kernel) rfl
theorem dX9_leave_18 : decode cX9_leave 18 = .ok (.iload_n 1, 1) := dk_27 (by decide +kernel)
theorem dX9_leave_19 : decode cX9_leave 19 = .ok (.invokestatic 180, 3) := dk_184 (x := 0) (y := 180) (by decide +kernel) rfl
theorem dX9_leave_22 : decode cX9_leave 22 = .ok (.ifCond .ne 5, 3) := dk_154 (x := 0) (y := 5) (by decide +kernel) rfl
theorem dX9_leave_25 : decode cX9_leave 25 = .ok (.iconst 0, 1) := dk_3 (by decide +kernel)
theorem dX9_leave_26 : decode cX9_leave 26 = .ok (.ireturn, 1) := dk_172 (by decide +kernel)
theorem dX9_leave_27 : decode cX9_leave 27 = .ok (.aload_n 0, 1) := dk_42 (by decide +kernel)
theorem dX9_leave_28 : decode cX9_leave 28 = .ok (.getfield 28, 3) := dk_180 (x := 0) (y := 28) (by decide +kernel) rfl
theorem dX9_leave_31 : decode cX9_leave 31 = .ok (.iload_n 1, 1) := dk_27 (by decide +kernel)
theorem dX9_leave_32 : decode cX9_leave 32 = .ok (.invokevirtual 184, 3) := dk_182 (x := 0) (y := 184) (by decide +kernel) rfl
theorem dX9_leave_35 : decode cX9_leave 35 = .ok (.iconst 1, 1) := dk_4 (by decide +kernel)
theorem dX9_leave_36 : decode cX9_leave 36 = .ok (.ireturn, 1) := dk_172 (by decide +kernel)
def f_X9_leave (n : Nat) (o : Nat) (a1 : Int32) (M : Mem) : Option (Int32 × Mem) :=
  chk (isO M 9 o) <|
  bnd (mR M o 0) fun o2 =>
  chk (isO M 7 o2) <|
  obd (f_X7_isNode o2 a1 M) fun r6 =>
  if r6 = 0 then (
    some ((0 : Int32), M)
    ) else (
    bnd (mR M o 2) fun o9 =>
    chk (isO M 2 o9) <|
    obd (f_X9_has (mI M o9 7) a1 M) fun r13 =>
    if r13 = 0 then (
      some ((0 : Int32), M)
      ) else (
      bnd (mR M o 2) fun o16 =>
      chk (isO M 2 o16) <|
      obd (f_X2_finish n o16 a1 M) fun M20 =>
      some ((1 : Int32), M20)
      )
    )
theorem cd_X9_leave : (yX9_leave.cls ≠ "java/lang/invoke/MethodHandle" ∧ yX9_leave.cls ≠ "java/lang/invoke/VarHandle") ∧ (parseMethodDescriptor yX9_leave.desc).map (fun d => d.parameters.length) = some 1 := ⟨⟨by decide +kernel, by decide +kernel⟩, by decide +kernel⟩
theorem k_X9_leave (G : Gam) {n : Nat} {o : Nat} {a1 : Int32} {M : Mem} {rv : (Int32 × Mem)} (hf : f_X9_leave n o a1 M = some rv) : Kt yX9_leave cX9_leave 2 (some .boolean) 5 121 G [.ref (gB G + o), .int a1] M rv.2 (some (.int rv.1)) := by
  refine Kt.of (by decide) (Nat.le_of_ble_eq_true rfl) ?_
  intro p l e R s m args below meth c X hr hlk hnm
  refine s_drop [0, 1] (vs' := [(0, .ref (gB G + o)), (1, .int a1)]) rfl ?_
  rw [f_X9_leave] at hf
  refine s_aload_n X 0 dX9_leave_0 rfl rfl ?_
  obtain ⟨h1, hf⟩ := pk_chk hf
  obtain ⟨o2, e3, hf⟩ := pk_bnd hf
  obtain ⟨h4, hf⟩ := pk_chk hf
  refine s_getR X (ci := 9) (k := 0) rfl (Nat.le_of_ble_eq_true rfl) h1 wd627 (fun _ _ _ => rfl) (e3 ▸ h4) dX9_leave_1 (e3 ▸ ?_)
  refine s_iload_n X 1 dX9_leave_4 rfl rfl ?_
  obtain ⟨r6, hc5, hf⟩ := pk_obd hf
  refine s_callV X (ci := 7) (k_X7_isNode G hc5) rfl h4 wd699 wd700 wd701 wd702 wd127 cd_X7_isNode ⟨Nat.le_of_ble_eq_true rfl, Nat.le_of_ble_eq_true rfl⟩ (Nat.le_of_ble_eq_true rfl) dX9_leave_5 ?_
  have hs7 := pk_ite hf
  clear hf
  refine s_if_eq X (tgt := 25) dX9_leave_8 rfl (fun c8 => ?_) (fun c8 => ?_)
  · have hf := hs7.1 c8
    refine s_iconst X (v := (0 : Int32)) dX9_leave_25 rfl ?_
    cases hf
    exact s_zret X hr (bz_n (Or.inl rfl)) hlk dX9_leave_26
  · have hf := hs7.2 c8
    refine s_aload_n X 0 dX9_leave_11 rfl rfl ?_
    obtain ⟨o9, e10, hf⟩ := pk_bnd hf
    obtain ⟨h11, hf⟩ := pk_chk hf
    refine s_getR X (ci := 9) (k := 2) rfl (Nat.le_of_ble_eq_true rfl) h1 wd629 (fun _ _ _ => rfl) (e10 ▸ h11) dX9_leave_12 (e10 ▸ ?_)
    refine s_getI X (ci := 2) (k := 7) rfl (Nat.le_of_ble_eq_true rfl) h11 wd437 (fun _ _ _ => rfl) dX9_leave_15 ?_
    refine s_iload_n X 1 dX9_leave_18 rfl rfl ?_
    obtain ⟨r13, hc12, hf⟩ := pk_obd hf
    refine s_callS X (k_X9_has G hc12) wd966 wd712 wd713 wd126 cd_X9_has ⟨Nat.le_of_ble_eq_true rfl, Nat.le_of_ble_eq_true rfl⟩ (Nat.le_of_ble_eq_true rfl) dX9_leave_19 ?_
    have hs14 := pk_ite hf
    clear hf
    refine s_if_ne X (tgt := 27) dX9_leave_22 rfl (fun c15 => ?_) (fun c15 => ?_)
    · have hf := hs14.2 c15
      refine s_aload_n X 0 dX9_leave_27 rfl rfl ?_
      obtain ⟨o16, e17, hf⟩ := pk_bnd hf
      obtain ⟨h18, hf⟩ := pk_chk hf
      refine s_getR X (ci := 9) (k := 2) rfl (Nat.le_of_ble_eq_true rfl) h1 wd629 (fun _ _ _ => rfl) (e17 ▸ h18) dX9_leave_28 (e17 ▸ ?_)
      refine s_iload_n X 1 dX9_leave_31 rfl rfl ?_
      obtain ⟨M20, hc19, hf⟩ := pk_obd hf
      refine s_callV X (ci := 2) (k_X2_finish G hc19) rfl h18 wd967 wd968 wd969 wd970 wd130 cd_X2_finish ⟨Nat.le_of_ble_eq_true rfl, Nat.le_of_ble_eq_true rfl⟩ (Nat.le_of_ble_eq_true rfl) dX9_leave_32 ?_
      refine s_iconst X (v := (1 : Int32)) dX9_leave_35 rfl ?_
      cases hf
      exact s_zret X hr (bz_n (Or.inr rfl)) hlk dX9_leave_36
    · have hf := hs14.1 c15
      refine s_iconst X (v := (0 : Int32)) dX9_leave_25 rfl ?_
      cases hf
      exact s_zret X hr (bz_n (Or.inl rfl)) hlk dX9_leave_26
theorem dX10_rest_0 : decode cX10_rest 0 = .ok (.iconst 3, 1) := dk_6 (by decide +kernel)
theorem dX10_rest_1 : decode cX10_rest 1 = .ok (.istore_n 2, 1) := dk_61 (by decide +kernel)
theorem dX10_rest_2 : decode cX10_rest 2 = .ok (.iload_n 2, 1) := dk_28 (by decide +kernel)
theorem dX10_rest_3 : decode cX10_rest 3 = .ok (.bipush 6, 2) := dk_16 (x := 6) (by decide +kernel) rfl
theorem dX10_rest_5 : decode cX10_rest 5 = .ok (.if_icmp .gt 16, 3) := dk_163 (x := 0) (y := 16) (by decide +kernel) rfl
theorem dX10_rest_8 : decode cX10_rest 8 = .ok (.aload_n 0, 1) := dk_42 (by decide +kernel)
theorem dX10_rest_9 : decode cX10_rest 9 = .ok (.iload_n 1, 1) := dk_27 (by decide +kernel)
theorem dX10_rest_10 : decode cX10_rest 10 = .ok (.iload_n 2, 1) := dk_28 (by decide +kernel)
theorem dX10_rest_11 : decode cX10_rest 11 = .ok (.iconst 0, 1) := dk_3 (by decide +kernel)
theorem dX10_rest_12 : decode cX10_rest 12 = .ok (.invokevirtual 187, 3) := dk_182 (x := 0) (y := 187) (by decide +kernel) rfl
theorem dX10_rest_15 : decode cX10_rest 15 = .ok (.iinc 2 1, 3) := dk_132 (x := 2) (y := 1) (by decide +kernel) rfl
theorem dX10_rest_18 : decode cX10_rest 18 = .ok (.goto (-16), 3) := dk_167 (x := 255) (y := 240) (by decide +kernel) rfl
theorem dX10_rest_21 : decode cX10_rest 21 = .ok (.aload_n 0, 1) := dk_42 (by decide +kernel)
theorem dX10_rest_22 : decode cX10_rest 22 = .ok (.iload_n 1, 1) := dk_27 (by decide +kernel)
theorem dX10_rest_23 : decode cX10_rest 23 = .ok (.iconst 0, 1) := dk_3 (by decide +kernel)
theorem dX10_rest_24 : decode cX10_rest 24 = .ok (.iconst 0, 1) := dk_3 (by decide +kernel)
theorem dX10_rest_25 : decode cX10_rest 25 = .ok (.invokevirtual 187, 3) := dk_182 (x := 0) (y := 187) (by decide +kernel) rfl
theorem dX10_rest_28 : decode cX10_rest 28 = .ok (.return_, 1) := dk_177 (by decide +kernel)
def f_X10_rest_2 : Nat → Nat → Int32 → Int32 → Mem → Option Mem
  | 0, _, _, _, _ => none
  | n + 1, v0, v1, v2, M =>
    if (6 : Int32) < v2 then (
      chk (isO M 10 v0) <|
      obd (f_X10_let v0 v1 (0 : Int32) (0 : Int32) M) fun M5 =>
      some M5
      ) else (
      chk (isO M 10 v0) <|
      obd (f_X10_let v0 v1 v2 (0 : Int32) M) fun M8 =>
      bnd (v2 + (1 : Int32)) fun x9 =>
      f_X10_rest_2 n v0 v1 x9 M8
      )
def f_X10_rest (n : Nat) (o : Nat) (a1 : Int32) (M : Mem) : Option Mem :=
  f_X10_rest_2 n o a1 (3 : Int32) M
theorem cd_X10_rest : (yX10_rest.cls ≠ "java/lang/invoke/MethodHandle" ∧ yX10_rest.cls ≠ "java/lang/invoke/VarHandle") ∧ (parseMethodDescriptor yX10_rest.desc).map (fun d => d.parameters.length) = some 1 := ⟨⟨by decide +kernel, by decide +kernel⟩, by decide +kernel⟩
section
variable {p : Program} {l : Launch} {e : Env} {R : Room} {s : State} {m : MethodId} {args : Array Value} {below : List Frame} {meth : Method} {c : Code} {G : Gam} {M0 : Mem}
theorem l_X10_rest_2 {rv : Mem} (X : Cx p R s m args c G M0 cX10_rest yX10_rest.cls 3 1 23) (hr : meth.sig.returnType = none) (hlk : meth.locks = false) (hnm : meth.name = "rest") : ∀ {n : Nat} (v0 : Nat) (v1 : Int32) (v2 : Int32) (M : Mem), f_X10_rest_2 n v0 v1 v2 M = some rv → Sg p l e R s m args below meth c (Qm below G args s none M0 rv) G M0 3 2 [(0, .ref (gB G + v0)), (1, .int v1), (2, .int v2)] [] M := by
  intro n
  induction n with
  | zero => intro v0 v1 v2 M hf; exact (pk_none hf).elim
  | succ n ih =>
    intro v0 v1 v2 M hf
    rw [f_X10_rest_2] at hf
    refine s_iload_n X 2 dX10_rest_2 rfl rfl ?_
    refine s_bipush X (v := (6 : Int32)) dX10_rest_3 rfl ?_
    have hs1 := pk_ite hf
    clear hf
    refine s_icmp_gt X (tgt := 21) dX10_rest_5 rfl (fun c2 => ?_) (fun c2 => ?_)
    · have hf := hs1.1 c2
      refine s_aload_n X 0 dX10_rest_21 rfl rfl ?_
      refine s_iload_n X 1 dX10_rest_22 rfl rfl ?_
      refine s_iconst X (v := (0 : Int32)) dX10_rest_23 rfl ?_
      refine s_iconst X (v := (0 : Int32)) dX10_rest_24 rfl ?_
      obtain ⟨h3, hf⟩ := pk_chk hf
      obtain ⟨M5, hc4, hf⟩ := pk_obd hf
      refine s_callV X (ci := 10) (k_X10_let G hc4) rfl h3 wd1692 wd1694 wd68 wd1695 wd138 cd_X10_let ⟨Nat.le_of_ble_eq_true rfl, Nat.le_of_ble_eq_true rfl⟩ (Nat.le_of_ble_eq_true rfl) dX10_rest_25 ?_
      cases hf
      exact s_vret X hr hlk dX10_rest_28
    · have hf := hs1.2 c2
      refine s_aload_n X 0 dX10_rest_8 rfl rfl ?_
      refine s_iload_n X 1 dX10_rest_9 rfl rfl ?_
      refine s_iload_n X 2 dX10_rest_10 rfl rfl ?_
      refine s_iconst X (v := (0 : Int32)) dX10_rest_11 rfl ?_
      obtain ⟨h6, hf⟩ := pk_chk hf
      obtain ⟨M8, hc7, hf⟩ := pk_obd hf
      refine s_callV X (ci := 10) (k_X10_let G hc7) rfl h6 wd1692 wd1694 wd68 wd1695 wd138 cd_X10_let ⟨Nat.le_of_ble_eq_true rfl, Nat.le_of_ble_eq_true rfl⟩ (Nat.le_of_ble_eq_true rfl) dX10_rest_12 ?_
      obtain ⟨x9, e10, hf⟩ := pk_bnd hf
      refine s_iinc X (vs' := [(0, .ref (gB G + v0)), (1, .int v1), (2, .int x9)]) 2 dX10_rest_15 rfl (v := x9) e10.symm (Nat.le_of_ble_eq_true rfl) [1, 2, 0] rfl ?_
      refine s_goto X (tgt := 2) dX10_rest_18 rfl ?_
      exact ih _ _ _ _ hf
end
theorem k_X10_rest (G : Gam) {n : Nat} {o : Nat} {a1 : Int32} {M : Mem} {rv : Mem} (hf : f_X10_rest n o a1 M = some rv) : Kt yX10_rest cX10_rest 3 none 1 23 G [.ref (gB G + o), .int a1] M rv none := by
  refine Kt.of (by decide) (Nat.le_of_ble_eq_true rfl) ?_
  intro p l e R s m args below meth c X hr hlk hnm
  refine s_drop [0, 1] (vs' := [(0, .ref (gB G + o)), (1, .int a1)]) rfl ?_
  rw [f_X10_rest] at hf
  refine s_iconst X (v := (3 : Int32)) dX10_rest_0 rfl ?_
  refine s_istore_n X (vs' := [(0, .ref (gB G + o)), (1, .int a1), (2, .int (3 : Int32))]) dX10_rest_1 rfl (Nat.le_of_ble_eq_true rfl) [1, 2, 0] rfl ?_
  exact l_X10_rest_2 X hr hlk hnm _ _ _ _ hf
theorem dX10_leaveNow_0 : decode cX10_leaveNow 0 = .ok (.aload_n 0, 1) := dk_42 (by decide +kernel)
theorem dX10_leaveNow_1 : decode cX10_leaveNow 1 = .ok (.iload_n 1, 1) := dk_27 (by decide +kernel)
theorem dX10_leaveNow_2 : decode cX10_leaveNow 2 = .ok (.iconst 3, 1) := dk_6 (by decide +kernel)
theorem dX10_leaveNow_3 : decode cX10_leaveNow 3 = .ok (.invokevirtual 93, 3) := dk_182 (x := 0) (y := 93) (by decide +kernel) rfl
theorem dX10_leaveNow_6 : decode cX10_leaveNow 6 = .ok (.istore_n 2, 1) := dk_61 (by decide +kernel)
theorem dX10_leaveNow_7 : decode cX10_leaveNow 7 = .ok (.aload_n 0, 1) := dk_42 (by decide +kernel)
theorem dX10_leaveNow_8 : decode cX10_leaveNow 8 = .ok (.iload_n 1, 1) := dk_27 (by decide +kernel)
theorem dX10_leaveNow_9 : decode cX10_leaveNow 9 = .ok (.invokevirtual 214, 3) := dk_182 (x := 0) (y := 214) (by decide +kernel) rfl
theorem dX10_leaveNow_12 : decode cX10_leaveNow 12 = .ok (.aload_n 0, 1) := dk_42 (by decide +kernel)
theorem dX10_leaveNow_13 : decode cX10_leaveNow 13 = .ok (.iconst 5, 1) := dk_8 (by decide +kernel)
theorem dX10_leaveNow_14 : decode cX10_leaveNow 14 = .ok (.iload_n 1, 1) := dk_27 (by decide +kernel)
theorem dX10_leaveNow_15 : decode cX10_leaveNow 15 = .ok (.iload_n 2, 1) := dk_28 (by decide +kernel)
theorem dX10_leaveNow_16 : decode cX10_leaveNow 16 = .ok (.aload_n 0, 1) := dk_42 (by decide +kernel)
theorem dX10_leaveNow_17 : decode cX10_leaveNow 17 = .ok (.iload_n 1, 1) := dk_27 (by decide +kernel)
theorem dX10_leaveNow_18 : decode cX10_leaveNow 18 = .ok (.iconst 2, 1) := dk_5 (by decide +kernel)
theorem dX10_leaveNow_19 : decode cX10_leaveNow 19 = .ok (.invokevirtual 93, 3) := dk_182 (x := 0) (y := 93) (by decide +kernel) rfl
theorem dX10_leaveNow_22 : decode cX10_leaveNow 22 = .ok (.invokevirtual 205, 3) := dk_182 (x := 0) (y := 205) (by decide +kernel) rfl
theorem dX10_leaveNow_25 : decode cX10_leaveNow 25 = .ok (.return_, 1) := dk_177 (by decide +kernel)
def f_X10_leaveNow (n : Nat) (o : Nat) (a1 : Int32) (M : Mem) : Option Mem :=
  chk (isO M 10 o) <|
  obd (f_X10_get o a1 (3 : Int32) M) fun r3 =>
  obd (f_X10_rest n o a1 M) fun M5 =>
  chk (isO M5 10 o) <|
  obd (f_X10_get o a1 (2 : Int32) M5) fun r8 =>
  obd (f_X10_sendAll n o (5 : Int32) a1 r3 r8 M5) fun M10 =>
  some M10
theorem cd_X10_leaveNow : (yX10_leaveNow.cls ≠ "java/lang/invoke/MethodHandle" ∧ yX10_leaveNow.cls ≠ "java/lang/invoke/VarHandle") ∧ (parseMethodDescriptor yX10_leaveNow.desc).map (fun d => d.parameters.length) = some 1 := ⟨⟨by decide +kernel, by decide +kernel⟩, by decide +kernel⟩
theorem k_X10_leaveNow (G : Gam) {n : Nat} {o : Nat} {a1 : Int32} {M : Mem} {rv : Mem} (hf : f_X10_leaveNow n o a1 M = some rv) : Kt yX10_leaveNow cX10_leaveNow 3 none 3 71 G [.ref (gB G + o), .int a1] M rv none := by
  refine Kt.of (by decide) (Nat.le_of_ble_eq_true rfl) ?_
  intro p l e R s m args below meth c X hr hlk hnm
  refine s_drop [0, 1] (vs' := [(0, .ref (gB G + o)), (1, .int a1)]) rfl ?_
  rw [f_X10_leaveNow] at hf
  refine s_aload_n X 0 dX10_leaveNow_0 rfl rfl ?_
  refine s_iload_n X 1 dX10_leaveNow_1 rfl rfl ?_
  refine s_iconst X (v := (3 : Int32)) dX10_leaveNow_2 rfl ?_
  obtain ⟨h1, hf⟩ := pk_chk hf
  obtain ⟨r3, hc2, hf⟩ := pk_obd hf
  refine s_callV X (ci := 10) (k_X10_get G hc2) rfl h1 wd1588 wd1590 wd57 wd1591 wd138 cd_X10_get ⟨Nat.le_of_ble_eq_true rfl, Nat.le_of_ble_eq_true rfl⟩ (Nat.le_of_ble_eq_true rfl) dX10_leaveNow_3 ?_
  refine s_istore_n X (vs' := [(0, .ref (gB G + o)), (1, .int a1), (2, .int r3)]) dX10_leaveNow_6 rfl (Nat.le_of_ble_eq_true rfl) [1, 2, 0] rfl ?_
  refine s_aload_n X 0 dX10_leaveNow_7 rfl rfl ?_
  refine s_iload_n X 1 dX10_leaveNow_8 rfl rfl ?_
  obtain ⟨M5, hc4, hf⟩ := pk_obd hf
  refine s_callV X (ci := 10) (k_X10_rest G hc4) rfl h1 wd1715 wd1717 wd72 wd1718 wd138 cd_X10_rest ⟨Nat.le_of_ble_eq_true rfl, Nat.le_of_ble_eq_true rfl⟩ (Nat.le_of_ble_eq_true rfl) dX10_leaveNow_9 ?_
  refine s_aload_n X 0 dX10_leaveNow_12 rfl rfl ?_
  refine s_iconst X (v := (5 : Int32)) dX10_leaveNow_13 rfl ?_
  refine s_iload_n X 1 dX10_leaveNow_14 rfl rfl ?_
  refine s_iload_n X 2 dX10_leaveNow_15 rfl rfl ?_
  refine s_aload_n X 0 dX10_leaveNow_16 rfl rfl ?_
  refine s_iload_n X 1 dX10_leaveNow_17 rfl rfl ?_
  refine s_iconst X (v := (2 : Int32)) dX10_leaveNow_18 rfl ?_
  obtain ⟨h6, hf⟩ := pk_chk hf
  obtain ⟨r8, hc7, hf⟩ := pk_obd hf
  refine s_callV X (ci := 10) (k_X10_get G hc7) rfl h6 wd1588 wd1590 wd57 wd1591 wd138 cd_X10_get ⟨Nat.le_of_ble_eq_true rfl, Nat.le_of_ble_eq_true rfl⟩ (Nat.le_of_ble_eq_true rfl) dX10_leaveNow_19 ?_
  obtain ⟨M10, hc9, hf⟩ := pk_obd hf
  refine s_callV X (ci := 10) (k_X10_sendAll G hc9) rfl h6 wd1696 wd1698 wd69 wd1699 wd138 cd_X10_sendAll ⟨Nat.le_of_ble_eq_true rfl, Nat.le_of_ble_eq_true rfl⟩ (Nat.le_of_ble_eq_true rfl) dX10_leaveNow_22 ?_
  cases hf
  exact s_vret X hr hlk dX10_leaveNow_25
theorem dX10_leave_0 : decode cX10_leave 0 = .ok (.aload_n 0, 1) := dk_42 (by decide +kernel)
theorem dX10_leave_1 : decode cX10_leave 1 = .ok (.iload_n 1, 1) := dk_27 (by decide +kernel)
theorem dX10_leave_2 : decode cX10_leave 2 = .ok (.invokevirtual 76, 3) := dk_182 (x := 0) (y := 76) (by decide +kernel) rfl
theorem dX10_leave_5 : decode cX10_leave 5 = .ok (.ifCond .eq 13, 3) := dk_153 (x := 0) (y := 13) (by decide +kernel) rfl
theorem dX10_leave_8 : decode cX10_leave 8 = .ok (.aload_n 0, 1) := dk_42 (by decide +kernel)
theorem dX10_leave_9 : decode cX10_leave 9 = .ok (.iload_n 1, 1) := dk_27 (by decide +kernel)
theorem dX10_leave_10 : decode cX10_leave 10 = .ok (.iconst 0, 1) := dk_3 (by decide +kernel)
theorem dX10_leave_11 : decode cX10_leave 11 = .ok (.invokevirtual 93, 3) := dk_182 (x := 0) (y := 93) (by decide +kernel) rfl
theorem dX10_leave_14 : decode cX10_leave 14 = .ok (.iconst 2, 1) := dk_5 (by decide +kernel)
theorem dX10_leave_15 : decode cX10_leave 15 = .ok (.if_icmp .eq 5, 3) := dk_159 (x := 0) (y := 5) (by decide +kernel) rfl
theorem dX10_leave_18 : decode cX10_leave 18 = .ok (.iconst 0, 1) := dk_3 (by decide +kernel)
theorem dX10_leave_19 : decode cX10_leave 19 = .ok (.ireturn, 1) := dk_172 (by decide +kernel)
theorem dX10_leave_20 : decode cX10_leave 20 = .ok (.aload_n 0, 1) := dk_42 (by decide +kernel)
theorem dX10_leave_21 : decode cX10_leave 21 = .ok (.iload_n 1, 1) := dk_27 (by decide +kernel)
theorem dX10_leave_22 : decode cX10_leave 22 = .ok (.invokevirtual 217, 3) := dk_182 (x := 0) (y := 217) (by decide +kernel) rfl
theorem dX10_leave_25 : decode cX10_leave 25 = .ok (.iconst 1, 1) := dk_4 (by decide +kernel)
theorem dX10_leave_26 : decode cX10_leave 26 = .ok (.ireturn, 1) := dk_172 (by decide +kernel)
def f_X10_leave (n : Nat) (o : Nat) (a1 : Int32) (M : Mem) : Option (Int32 × Mem) :=
  chk (isO M 10 o) <|
  obd (f_X10_isNode o a1 M) fun r3 =>
  if r3 = 0 then (
    some ((0 : Int32), M)
    ) else (
    obd (f_X10_get o a1 (0 : Int32) M) fun r7 =>
    if r7 = (2 : Int32) then (
      obd (f_X10_leaveNow n o a1 M) fun M11 =>
      some ((1 : Int32), M11)
      ) else (
      some ((0 : Int32), M)
      )
    )
theorem cd_X10_leave : (yX10_leave.cls ≠ "java/lang/invoke/MethodHandle" ∧ yX10_leave.cls ≠ "java/lang/invoke/VarHandle") ∧ (parseMethodDescriptor yX10_leave.desc).map (fun d => d.parameters.length) = some 1 := ⟨⟨by decide +kernel, by decide +kernel⟩, by decide +kernel⟩
theorem k_X10_leave (G : Gam) {n : Nat} {o : Nat} {a1 : Int32} {M : Mem} {rv : (Int32 × Mem)} (hf : f_X10_leave n o a1 M = some rv) : Kt yX10_leave cX10_leave 2 (some .boolean) 4 93 G [.ref (gB G + o), .int a1] M rv.2 (some (.int rv.1)) := by
  refine Kt.of (by decide) (Nat.le_of_ble_eq_true rfl) ?_
  intro p l e R s m args below meth c X hr hlk hnm
  refine s_drop [0, 1] (vs' := [(0, .ref (gB G + o)), (1, .int a1)]) rfl ?_
  rw [f_X10_leave] at hf
  refine s_aload_n X 0 dX10_leave_0 rfl rfl ?_
  refine s_iload_n X 1 dX10_leave_1 rfl rfl ?_
  obtain ⟨h1, hf⟩ := pk_chk hf
  obtain ⟨r3, hc2, hf⟩ := pk_obd hf
  refine s_callV X (ci := 10) (k_X10_isNode G hc2) rfl h1 wd1554 wd1556 wd53 wd1557 wd138 cd_X10_isNode ⟨Nat.le_of_ble_eq_true rfl, Nat.le_of_ble_eq_true rfl⟩ (Nat.le_of_ble_eq_true rfl) dX10_leave_2 ?_
  have hs4 := pk_ite hf
  clear hf
  refine s_if_eq X (tgt := 18) dX10_leave_5 rfl (fun c5 => ?_) (fun c5 => ?_)
  · have hf := hs4.1 c5
    refine s_iconst X (v := (0 : Int32)) dX10_leave_18 rfl ?_
    cases hf
    exact s_zret X hr (bz_n (Or.inl rfl)) hlk dX10_leave_19
  · have hf := hs4.2 c5
    refine s_aload_n X 0 dX10_leave_8 rfl rfl ?_
    refine s_iload_n X 1 dX10_leave_9 rfl rfl ?_
    refine s_iconst X (v := (0 : Int32)) dX10_leave_10 rfl ?_
    obtain ⟨r7, hc6, hf⟩ := pk_obd hf
    refine s_callV X (ci := 10) (k_X10_get G hc6) rfl h1 wd1588 wd1590 wd57 wd1591 wd138 cd_X10_get ⟨Nat.le_of_ble_eq_true rfl, Nat.le_of_ble_eq_true rfl⟩ (Nat.le_of_ble_eq_true rfl) dX10_leave_11 ?_
    refine s_iconst X (v := (2 : Int32)) dX10_leave_14 rfl ?_
    have hs8 := pk_ite hf
    clear hf
    refine s_icmp_eq X (tgt := 20) dX10_leave_15 rfl (fun c9 => ?_) (fun c9 => ?_)
    · have hf := hs8.1 c9
      refine s_aload_n X 0 dX10_leave_20 rfl rfl ?_
      refine s_iload_n X 1 dX10_leave_21 rfl rfl ?_
      obtain ⟨M11, hc10, hf⟩ := pk_obd hf
      refine s_callV X (ci := 10) (k_X10_leaveNow G hc10) rfl h1 wd1711 wd1713 wd71 wd1714 wd138 cd_X10_leaveNow ⟨Nat.le_of_ble_eq_true rfl, Nat.le_of_ble_eq_true rfl⟩ (Nat.le_of_ble_eq_true rfl) dX10_leave_22 ?_
      refine s_iconst X (v := (1 : Int32)) dX10_leave_25 rfl ?_
      cases hf
      exact s_zret X hr (bz_n (Or.inr rfl)) hlk dX10_leave_26
    · have hf := hs8.2 c9
      refine s_iconst X (v := (0 : Int32)) dX10_leave_18 rfl ?_
      cases hf
      exact s_zret X hr (bz_n (Or.inl rfl)) hlk dX10_leave_19
theorem dX5_takeFirst_0 : decode cX5_takeFirst 0 = .ok (.iload_n 1, 1) := dk_27 (by decide +kernel)
theorem dX5_takeFirst_1 : decode cX5_takeFirst 1 = .ok (.bipush 16, 2) := dk_16 (x := 16) (by decide +kernel) rfl
theorem dX5_takeFirst_3 : decode cX5_takeFirst 3 = .ok (.imul, 1) := dk_104 (by decide +kernel)
theorem dX5_takeFirst_4 : decode cX5_takeFirst 4 = .ok (.iload_n 2, 1) := dk_28 (by decide +kernel)
theorem dX5_takeFirst_5 : decode cX5_takeFirst 5 = .ok (.iadd, 1) := dk_96 (by decide +kernel)
theorem dX5_takeFirst_6 : decode cX5_takeFirst 6 = .ok (.istore_n 3, 1) := dk_62 (by decide +kernel)
theorem dX5_takeFirst_7 : decode cX5_takeFirst 7 = .ok (.aload_n 0, 1) := dk_42 (by decide +kernel)
theorem dX5_takeFirst_8 : decode cX5_takeFirst 8 = .ok (.getfield 18, 3) := dk_180 (x := 0) (y := 18) (by decide +kernel) rfl
theorem dX5_takeFirst_11 : decode cX5_takeFirst 11 = .ok (.iload_n 3, 1) := dk_29 (by decide +kernel)
theorem dX5_takeFirst_12 : decode cX5_takeFirst 12 = .ok (.iaload, 1) := dk_46 (by decide +kernel)
theorem dX5_takeFirst_13 : decode cX5_takeFirst 13 = .ok (.ifCond .ne 5, 3) := dk_154 (x := 0) (y := 5) (by decide +kernel) rfl
theorem dX5_takeFirst_16 : decode cX5_takeFirst 16 = .ok (.iconst (-1), 1) := dk_2 (by decide +kernel)
theorem dX5_takeFirst_17 : decode cX5_takeFirst 17 = .ok (.ireturn, 1) := dk_172 (by decide +kernel)
theorem dX5_takeFirst_18 : decode cX5_takeFirst 18 = .ok (.aload_n 0, 1) := dk_42 (by decide +kernel)
theorem dX5_takeFirst_19 : decode cX5_takeFirst 19 = .ok (.getfield 9, 3) := dk_180 (x := 0) (y := 9) (by decide +kernel) rfl
theorem dX5_takeFirst_22 : decode cX5_takeFirst 22 = .ok (.iload_n 3, 1) := dk_29 (by decide +kernel)
theorem dX5_takeFirst_23 : decode cX5_takeFirst 23 = .ok (.iaload, 1) := dk_46 (by decide +kernel)
theorem dX5_takeFirst_24 : decode cX5_takeFirst 24 = .ok (.istore 4, 2) := dk_54 (x := 4) (by decide +kernel)
theorem dX5_takeFirst_26 : decode cX5_takeFirst 26 = .ok (.aload_n 0, 1) := dk_42 (by decide +kernel)
theorem dX5_takeFirst_27 : decode cX5_takeFirst 27 = .ok (.getfield 9, 3) := dk_180 (x := 0) (y := 9) (by decide +kernel) rfl
theorem dX5_takeFirst_30 : decode cX5_takeFirst 30 = .ok (.iload_n 3, 1) := dk_29 (by decide +kernel)
theorem dX5_takeFirst_31 : decode cX5_takeFirst 31 = .ok (.aload_n 0, 1) := dk_42 (by decide +kernel)
theorem dX5_takeFirst_32 : decode cX5_takeFirst 32 = .ok (.getfield 33, 3) := dk_180 (x := 0) (y := 33) (by decide +kernel) rfl
theorem dX5_takeFirst_35 : decode cX5_takeFirst 35 = .ok (.iload 4, 2) := dk_21 (x := 4) (by decide +kernel)
theorem dX5_takeFirst_37 : decode cX5_takeFirst 37 = .ok (.iaload, 1) := dk_46 (by decide +kernel)
theorem dX5_takeFirst_38 : decode cX5_takeFirst 38 = .ok (.iastore, 1) := dk_79 (by decide +kernel)
theorem dX5_takeFirst_39 : decode cX5_takeFirst 39 = .ok (.aload_n 0, 1) := dk_42 (by decide +kernel)
theorem dX5_takeFirst_40 : decode cX5_takeFirst 40 = .ok (.getfield 18, 3) := dk_180 (x := 0) (y := 18) (by decide +kernel) rfl
theorem dX5_takeFirst_43 : decode cX5_takeFirst 43 = .ok (.iload_n 3, 1) := dk_29 (by decide +kernel)
theorem dX5_takeFirst_44 : decode cX5_takeFirst 44 = .ok (.dup2, 1) := dk_92 (by decide +kernel)
theorem dX5_takeFirst_45 : decode cX5_takeFirst 45 = .ok (.iaload, 1) := dk_46 (by decide +kernel)
theorem dX5_takeFirst_46 : decode cX5_takeFirst 46 = .ok (.iconst 1, 1) := dk_4 (by decide +kernel)
theorem dX5_takeFirst_47 : decode cX5_takeFirst 47 = .ok (.isub, 1) := dk_100 (by decide +kernel)
theorem dX5_takeFirst_48 : decode cX5_takeFirst 48 = .ok (.iastore, 1) := dk_79 (by decide +kernel)
theorem dX5_takeFirst_49 : decode cX5_takeFirst 49 = .ok (.aload_n 0, 1) := dk_42 (by decide +kernel)
theorem dX5_takeFirst_50 : decode cX5_takeFirst 50 = .ok (.getfield 18, 3) := dk_180 (x := 0) (y := 18) (by decide +kernel) rfl
theorem dX5_takeFirst_53 : decode cX5_takeFirst 53 = .ok (.iload_n 3, 1) := dk_29 (by decide +kernel)
theorem dX5_takeFirst_54 : decode cX5_takeFirst 54 = .ok (.iaload, 1) := dk_46 (by decide +kernel)
theorem dX5_takeFirst_55 : decode cX5_takeFirst 55 = .ok (.ifCond .ne 17, 3) := dk_154 (x := 0) (y := 17) (by decide +kernel) rfl
theorem dX5_takeFirst_58 : decode cX5_takeFirst 58 = .ok (.aload_n 0, 1) := dk_42 (by decide +kernel)
theorem dX5_takeFirst_59 : decode cX5_takeFirst 59 = .ok (.getfield 21, 3) := dk_180 (x := 0) (y := 21) (by decide +kernel) rfl
theorem dX5_takeFirst_62 : decode cX5_takeFirst 62 = .ok (.iload_n 1, 1) := dk_27 (by decide +kernel)
theorem dX5_takeFirst_63 : decode cX5_takeFirst 63 = .ok (.dup2, 1) := dk_92 (by decide +kernel)
theorem dX5_takeFirst_64 : decode cX5_takeFirst 64 = .ok (.iaload, 1) := dk_46 (by decide +kernel)
theorem dX5_takeFirst_65 : decode cX5_takeFirst 65 = .ok (.iconst 1, 1) := dk_4 (by decide +kernel)
theorem dX5_takeFirst_66 : decode cX5_takeFirst 66 = .ok (.iload_n 2, 1) := dk_28 (by decide +kernel)
theorem dX5_takeFirst_67 : decode cX5_takeFirst 67 = .ok (.ishl, 1) := dk_120 (by decide +kernel)
theorem dX5_takeFirst_68 : decode cX5_takeFirst 68 = .ok (.iconst (-1), 1) := dk_2 (by decide +kernel)
theorem dX5_takeFirst_69 : decode cX5_takeFirst 69 = .ok (.ixor, 1) := dk_130 (by decide +kernel)
theorem dX5_takeFirst_70 : decode cX5_takeFirst 70 = .ok (.iand, 1) := dk_126 (by decide +kernel)
theorem dX5_takeFirst_71 : decode cX5_takeFirst 71 = .ok (.iastore, 1) := dk_79 (by decide +kernel)
theorem dX5_takeFirst_72 : decode cX5_takeFirst 72 = .ok (.aload_n 0, 1) := dk_42 (by decide +kernel)
theorem dX5_takeFirst_73 : decode cX5_takeFirst 73 = .ok (.getfield 33, 3) := dk_180 (x := 0) (y := 33) (by decide +kernel) rfl
theorem dX5_takeFirst_76 : decode cX5_takeFirst 76 = .ok (.iload 4, 2) := dk_21 (x := 4) (by decide +kernel)
theorem dX5_takeFirst_78 : decode cX5_takeFirst 78 = .ok (.aload_n 0, 1) := dk_42 (by decide +kernel)
theorem dX5_takeFirst_79 : decode cX5_takeFirst 79 = .ok (.getfield 36, 3) := dk_180 (x := 0) (y := 36) (by decide +kernel) rfl
theorem dX5_takeFirst_82 : decode cX5_takeFirst 82 = .ok (.iastore, 1) := dk_79 (by decide +kernel)
theorem dX5_takeFirst_83 : decode cX5_takeFirst 83 = .ok (.aload_n 0, 1) := dk_42 (by decide +kernel)
theorem dX5_takeFirst_84 : decode cX5_takeFirst 84 = .ok (.iload 4, 2) := dk_21 (x := 4) (by decide +kernel)
theorem dX5_takeFirst_86 : decode cX5_takeFirst 86 = .ok (.putfield 36, 3) := dk_181 (x := 0) (y := 36) (by decide +kernel) rfl
theorem dX5_takeFirst_89 : decode cX5_takeFirst 89 = .ok (.aload_n 0, 1) := dk_42 (by decide +kernel)
theorem dX5_takeFirst_90 : decode cX5_takeFirst 90 = .ok (.dup, 1) := dk_89 (by decide +kernel)
theorem dX5_takeFirst_91 : decode cX5_takeFirst 91 = .ok (.getfield 40, 3) := dk_180 (x := 0) (y := 40) (by decide +kernel) rfl
theorem dX5_takeFirst_94 : decode cX5_takeFirst 94 = .ok (.iconst 1, 1) := dk_4 (by decide +kernel)
theorem dX5_takeFirst_95 : decode cX5_takeFirst 95 = .ok (.isub, 1) := dk_100 (by decide +kernel)
theorem dX5_takeFirst_96 : decode cX5_takeFirst 96 = .ok (.putfield 40, 3) := dk_181 (x := 0) (y := 40) (by decide +kernel) rfl
theorem dX5_takeFirst_99 : decode cX5_takeFirst 99 = .ok (.aload_n 0, 1) := dk_42 (by decide +kernel)
theorem dX5_takeFirst_100 : decode cX5_takeFirst 100 = .ok (.getfield 27, 3) := dk_180 (x := 0) (y := 27) (by decide +kernel) rfl
theorem dX5_takeFirst_103 : decode cX5_takeFirst 103 = .ok (.iload 4, 2) := dk_21 (x := 4) (by decide +kernel)
theorem dX5_takeFirst_105 : decode cX5_takeFirst 105 = .ok (.iaload, 1) := dk_46 (by decide +kernel)
theorem dX5_takeFirst_106 : decode cX5_takeFirst 106 = .ok (.ireturn, 1) := dk_172 (by decide +kernel)
def f_X5_takeFirst_72 (v0 : Nat) (v4 : Int32) (M : Mem) : Option (Int32 × Mem) :=
    chk (isO M 5 v0) <|
    bnd (mR M v0 7) fun o2 =>
    chk (isO M 100 o2) <|
    chk (inB v4 (mLn M o2)) <|
    bnd (sI M o2 (v4).toNatClampNeg (mI M v0 9)) fun M6 =>
    bnd (sI M6 v0 9 v4) fun M10 =>
    bnd (sI M10 v0 10 ((mI M10 v0 10) - (1 : Int32))) fun M14 =>
    bnd (mR M14 v0 5) fun o18 =>
    chk (isO M14 100 o18) <|
    chk (inB v4 (mLn M14 o18)) <|
    some ((mI M14 o18 (v4).toNatClampNeg), M14)
def f_X5_takeFirst (o : Nat) (a1 : Int32) (a2 : Int32) (M : Mem) : Option (Int32 × Mem) :=
  bnd ((a1 * (16 : Int32)) + a2) fun x1 =>
  chk (isO M 5 o) <|
  bnd (mR M o 2) fun o4 =>
  chk (isO M 100 o4) <|
  chk (inB x1 (mLn M o4)) <|
  if (mI M o4 (x1).toNatClampNeg) = 0 then (
    some ((-1 : Int32), M)
    ) else (
    bnd (mR M o 0) fun o10 =>
    chk (isO M 100 o10) <|
    chk (inB x1 (mLn M o10)) <|
    bnd (mI M o10 (x1).toNatClampNeg) fun x14 =>
    bnd (mR M o 0) fun o16 =>
    chk (isO M 100 o16) <|
    bnd (mR M o 7) fun o19 =>
    chk (isO M 100 o19) <|
    chk (inB x14 (mLn M o19)) <|
    chk (inB x1 (mLn M o16)) <|
    bnd (sI M o16 (x1).toNatClampNeg (mI M o19 (x14).toNatClampNeg)) fun M24 =>
    bnd (mR M24 o 2) fun o31 =>
    chk (isO M24 100 o31) <|
    chk (inB x1 (mLn M24 o31)) <|
    chk (inB x1 (mLn M24 o31)) <|
    bnd (sI M24 o31 (x1).toNatClampNeg ((mI M24 o31 (x1).toNatClampNeg) - (1 : Int32))) fun M36 =>
    bnd (mR M36 o 2) fun o44 =>
    chk (isO M36 100 o44) <|
    chk (inB x1 (mLn M36 o44)) <|
    if (mI M36 o44 (x1).toNatClampNeg) = 0 then (
      bnd (mR M36 o 3) fun o50 =>
      chk (isO M36 100 o50) <|
      chk (inB a1 (mLn M36 o50)) <|
      chk (inB a1 (mLn M36 o50)) <|
      bnd (sI M36 o50 (a1).toNatClampNeg ((mI M36 o50 (a1).toNatClampNeg) &&& (((1 : Int32) <<< (a2 &&& 31)) ^^^ (-1 : Int32)))) fun M55 =>
      f_X5_takeFirst_72 o x14 M55
      ) else (
      f_X5_takeFirst_72 o x14 M36
      )
    )
theorem cd_X5_takeFirst : (yX5_takeFirst.cls ≠ "java/lang/invoke/MethodHandle" ∧ yX5_takeFirst.cls ≠ "java/lang/invoke/VarHandle") ∧ (parseMethodDescriptor yX5_takeFirst.desc).map (fun d => d.parameters.length) = some 2 := ⟨⟨by decide +kernel, by decide +kernel⟩, by decide +kernel⟩
section
variable {p : Program} {l : Launch} {e : Env} {R : Room} {s : State} {m : MethodId} {args : Array Value} {below : List Frame} {meth : Method} {c : Code} {G : Gam} {M0 : Mem}
theorem l_X5_takeFirst_72 {rv : (Int32 × Mem)} {v0 : Nat} {v4 : Int32} {M : Mem} (X : Cx p R s m args c G M0 cX5_takeFirst yX5_takeFirst.cls 5 0 0) (hr : meth.sig.returnType = (some .int)) (hlk : meth.locks = false) (hnm : meth.name = "takeFirst") (hf : f_X5_takeFirst_72 v0 v4 M = some rv) : Sg p l e R s m args below meth c (Qm below G args s (some (.int rv.1)) M0 rv.2) G M0 5 72 [(0, .ref (gB G + v0)), (4, .int v4)] [] M := by
  rw [f_X5_takeFirst_72] at hf
  refine s_aload_n X 0 dX5_takeFirst_72 rfl rfl ?_
  obtain ⟨h1, hf⟩ := pk_chk hf
  obtain ⟨o2, e3, hf⟩ := pk_bnd hf
  obtain ⟨h4, hf⟩ := pk_chk hf
  refine s_getR X (ci := 5) (k := 7) rfl (Nat.le_of_ble_eq_true rfl) h1 wd262 (fun _ _ _ => rfl) (e3 ▸ h4) dX5_takeFirst_73 (e3 ▸ ?_)
  refine s_iload X 1 dX5_takeFirst_76 rfl ?_
  refine s_aload_n X 0 dX5_takeFirst_78 rfl rfl ?_
  refine s_getI X (ci := 5) (k := 9) rfl (Nat.le_of_ble_eq_true rfl) h1 wd265 (fun _ _ _ => rfl) dX5_takeFirst_79 ?_
  obtain ⟨h5, hf⟩ := pk_chk hf
  obtain ⟨M6, e7, hf⟩ := pk_bnd hf
  refine s_iast X h4 h5 e7 dX5_takeFirst_82 ?_
  have h8 := io_sI e7 h1
  have h9 := io_sI e7 h4
  refine s_aload_n X 0 dX5_takeFirst_83 rfl rfl ?_
  refine s_iload X 1 dX5_takeFirst_84 rfl ?_
  obtain ⟨M10, e11, hf⟩ := pk_bnd hf
  refine s_putI X (ci := 5) (k := 9) rfl (Nat.le_of_ble_eq_true rfl) h8 wd265 (fun _ _ _ => rfl) rfl rfl e11 dX5_takeFirst_86 ?_
  have h12 := io_sI e11 h8
  have h13 := io_sI e11 h9
  refine s_aload_n X 0 dX5_takeFirst_89 rfl rfl ?_
  refine s_dup X dX5_takeFirst_90 rfl ?_
  refine s_getI X (ci := 5) (k := 10) rfl (Nat.le_of_ble_eq_true rfl) h12 wd267 (fun _ _ _ => rfl) dX5_takeFirst_91 ?_
  refine s_iconst X (v := (1 : Int32)) dX5_takeFirst_94 rfl ?_
  refine s_isub X dX5_takeFirst_95 ?_
  obtain ⟨M14, e15, hf⟩ := pk_bnd hf
  refine s_putI X (ci := 5) (k := 10) rfl (Nat.le_of_ble_eq_true rfl) h12 wd267 (fun _ _ _ => rfl) rfl rfl e15 dX5_takeFirst_96 ?_
  have h16 := io_sI e15 h12
  have h17 := io_sI e15 h13
  refine s_aload_n X 0 dX5_takeFirst_99 rfl rfl ?_
  obtain ⟨o18, e19, hf⟩ := pk_bnd hf
  obtain ⟨h20, hf⟩ := pk_chk hf
  refine s_getR X (ci := 5) (k := 5) rfl (Nat.le_of_ble_eq_true rfl) h16 wd259 (fun _ _ _ => rfl) (e19 ▸ h20) dX5_takeFirst_100 (e19 ▸ ?_)
  refine s_iload X 1 dX5_takeFirst_103 rfl ?_
  obtain ⟨h21, hf⟩ := pk_chk hf
  refine s_iald X h20 h21 dX5_takeFirst_105 ?_
  cases hf
  exact s_iret X hr hlk dX5_takeFirst_106
end
theorem k_X5_takeFirst (G : Gam) {o : Nat} {a1 : Int32} {a2 : Int32} {M : Mem} {rv : (Int32 × Mem)} (hf : f_X5_takeFirst o a1 a2 M = some rv) : Kt yX5_takeFirst cX5_takeFirst 5 (some .int) 0 0 G [.ref (gB G + o), .int a1, .int a2] M rv.2 (some (.int rv.1)) := by
  refine Kt.of (by decide) (Nat.le_of_ble_eq_true rfl) ?_
  intro p l e R s m args below meth c X hr hlk hnm
  refine s_drop [0, 1, 2] (vs' := [(0, .ref (gB G + o)), (1, .int a1), (2, .int a2)]) rfl ?_
  rw [f_X5_takeFirst] at hf
  refine s_iload_n X 1 dX5_takeFirst_0 rfl rfl ?_
  refine s_bipush X (v := (16 : Int32)) dX5_takeFirst_1 rfl ?_
  refine s_imul X dX5_takeFirst_3 ?_
  refine s_iload_n X 2 dX5_takeFirst_4 rfl rfl ?_
  refine s_iadd X dX5_takeFirst_5 ?_
  obtain ⟨x1, e2, hf⟩ := pk_bnd hf
  refine s_nmI e2 ?_
  refine s_istore_n X (vs' := [(0, .ref (gB G + o)), (1, .int a1), (2, .int a2), (3, .int x1)]) dX5_takeFirst_6 rfl (Nat.le_of_ble_eq_true rfl) [1, 2, 3, 0] rfl ?_
  refine s_aload_n X 0 dX5_takeFirst_7 rfl rfl ?_
  obtain ⟨h3, hf⟩ := pk_chk hf
  obtain ⟨o4, e5, hf⟩ := pk_bnd hf
  obtain ⟨h6, hf⟩ := pk_chk hf
  refine s_getR X (ci := 5) (k := 2) rfl (Nat.le_of_ble_eq_true rfl) h3 wd251 (fun _ _ _ => rfl) (e5 ▸ h6) dX5_takeFirst_8 (e5 ▸ ?_)
  refine s_iload_n X 3 dX5_takeFirst_11 rfl rfl ?_
  obtain ⟨h7, hf⟩ := pk_chk hf
  refine s_iald X h6 h7 dX5_takeFirst_12 ?_
  have hs8 := pk_ite hf
  clear hf
  refine s_if_ne X (tgt := 18) dX5_takeFirst_13 rfl (fun c9 => ?_) (fun c9 => ?_)
  · have hf := hs8.2 c9
    refine s_aload_n X 0 dX5_takeFirst_18 rfl rfl ?_
    obtain ⟨o10, e11, hf⟩ := pk_bnd hf
    obtain ⟨h12, hf⟩ := pk_chk hf
    refine s_getR X (ci := 5) (k := 0) rfl (Nat.le_of_ble_eq_true rfl) h3 wd248 (fun _ _ _ => rfl) (e11 ▸ h12) dX5_takeFirst_19 (e11 ▸ ?_)
    refine s_iload_n X 3 dX5_takeFirst_22 rfl rfl ?_
    obtain ⟨h13, hf⟩ := pk_chk hf
    refine s_iald X h12 h13 dX5_takeFirst_23 ?_
    obtain ⟨x14, e15, hf⟩ := pk_bnd hf
    refine s_nmI e15 ?_
    refine s_istore X (vs' := [(0, .ref (gB G + o)), (1, .int a1), (2, .int a2), (3, .int x1), (4, .int x14)]) dX5_takeFirst_24 (Nat.le_of_ble_eq_true rfl) [1, 2, 3, 4, 0] rfl ?_
    refine s_aload_n X 0 dX5_takeFirst_26 rfl rfl ?_
    obtain ⟨o16, e17, hf⟩ := pk_bnd hf
    obtain ⟨h18, hf⟩ := pk_chk hf
    refine s_getR X (ci := 5) (k := 0) rfl (Nat.le_of_ble_eq_true rfl) h3 wd248 (fun _ _ _ => rfl) (e17 ▸ h18) dX5_takeFirst_27 (e17 ▸ ?_)
    refine s_iload_n X 3 dX5_takeFirst_30 rfl rfl ?_
    refine s_aload_n X 0 dX5_takeFirst_31 rfl rfl ?_
    obtain ⟨o19, e20, hf⟩ := pk_bnd hf
    obtain ⟨h21, hf⟩ := pk_chk hf
    refine s_getR X (ci := 5) (k := 7) rfl (Nat.le_of_ble_eq_true rfl) h3 wd262 (fun _ _ _ => rfl) (e20 ▸ h21) dX5_takeFirst_32 (e20 ▸ ?_)
    refine s_iload X 4 dX5_takeFirst_35 rfl ?_
    obtain ⟨h22, hf⟩ := pk_chk hf
    refine s_iald X h21 h22 dX5_takeFirst_37 ?_
    obtain ⟨h23, hf⟩ := pk_chk hf
    obtain ⟨M24, e25, hf⟩ := pk_bnd hf
    refine s_iast X h18 h23 e25 dX5_takeFirst_38 ?_
    have h26 := io_sI e25 h3
    have h27 := io_sI e25 h6
    have h28 := io_sI e25 h12
    have h29 := io_sI e25 h18
    have h30 := io_sI e25 h21
    refine s_aload_n X 0 dX5_takeFirst_39 rfl rfl ?_
    obtain ⟨o31, e32, hf⟩ := pk_bnd hf
    obtain ⟨h33, hf⟩ := pk_chk hf
    refine s_getR X (ci := 5) (k := 2) rfl (Nat.le_of_ble_eq_true rfl) h26 wd251 (fun _ _ _ => rfl) (e32 ▸ h33) dX5_takeFirst_40 (e32 ▸ ?_)
    refine s_iload_n X 3 dX5_takeFirst_43 rfl rfl ?_
    refine s_dup2 X dX5_takeFirst_44 rfl rfl ?_
    obtain ⟨h34, hf⟩ := pk_chk hf
    refine s_iald X h33 h34 dX5_takeFirst_45 ?_
    refine s_iconst X (v := (1 : Int32)) dX5_takeFirst_46 rfl ?_
    refine s_isub X dX5_takeFirst_47 ?_
    obtain ⟨h35, hf⟩ := pk_chk hf
    obtain ⟨M36, e37, hf⟩ := pk_bnd hf
    refine s_iast X h33 h35 e37 dX5_takeFirst_48 ?_
    have h38 := io_sI e37 h26
    have h39 := io_sI e37 h27
    have h40 := io_sI e37 h28
    have h41 := io_sI e37 h29
    have h42 := io_sI e37 h30
    have h43 := io_sI e37 h33
    refine s_aload_n X 0 dX5_takeFirst_49 rfl rfl ?_
    obtain ⟨o44, e45, hf⟩ := pk_bnd hf
    obtain ⟨h46, hf⟩ := pk_chk hf
    refine s_getR X (ci := 5) (k := 2) rfl (Nat.le_of_ble_eq_true rfl) h38 wd251 (fun _ _ _ => rfl) (e45 ▸ h46) dX5_takeFirst_50 (e45 ▸ ?_)
    refine s_iload_n X 3 dX5_takeFirst_53 rfl rfl ?_
    obtain ⟨h47, hf⟩ := pk_chk hf
    refine s_iald X h46 h47 dX5_takeFirst_54 ?_
    have hs48 := pk_ite hf
    clear hf
    refine s_if_ne X (tgt := 72) dX5_takeFirst_55 rfl (fun c49 => ?_) (fun c49 => ?_)
    · have hf := hs48.2 c49
      refine s_drop [0, 4] (vs' := [(0, .ref (gB G + o)), (4, .int x14)]) rfl ?_
      exact l_X5_takeFirst_72 X hr hlk hnm hf
    · have hf := hs48.1 c49
      refine s_aload_n X 0 dX5_takeFirst_58 rfl rfl ?_
      obtain ⟨o50, e51, hf⟩ := pk_bnd hf
      obtain ⟨h52, hf⟩ := pk_chk hf
      refine s_getR X (ci := 5) (k := 3) rfl (Nat.le_of_ble_eq_true rfl) h38 wd253 (fun _ _ _ => rfl) (e51 ▸ h52) dX5_takeFirst_59 (e51 ▸ ?_)
      refine s_iload_n X 1 dX5_takeFirst_62 rfl rfl ?_
      refine s_dup2 X dX5_takeFirst_63 rfl rfl ?_
      obtain ⟨h53, hf⟩ := pk_chk hf
      refine s_iald X h52 h53 dX5_takeFirst_64 ?_
      refine s_iconst X (v := (1 : Int32)) dX5_takeFirst_65 rfl ?_
      refine s_iload_n X 2 dX5_takeFirst_66 rfl rfl ?_
      refine s_ishl X dX5_takeFirst_67 ?_
      refine s_iconst X (v := (-1 : Int32)) dX5_takeFirst_68 rfl ?_
      refine s_ixor X dX5_takeFirst_69 ?_
      refine s_iand X dX5_takeFirst_70 ?_
      obtain ⟨h54, hf⟩ := pk_chk hf
      obtain ⟨M55, e56, hf⟩ := pk_bnd hf
      refine s_iast X h52 h54 e56 dX5_takeFirst_71 ?_
      have h57 := io_sI e56 h38
      have h58 := io_sI e56 h39
      have h59 := io_sI e56 h40
      have h60 := io_sI e56 h41
      have h61 := io_sI e56 h42
      have h62 := io_sI e56 h43
      have h63 := io_sI e56 h46
      have h64 := io_sI e56 h52
      refine s_drop [0, 4] (vs' := [(0, .ref (gB G + o)), (4, .int x14)]) rfl ?_
      exact l_X5_takeFirst_72 X hr hlk hnm hf
  · have hf := hs8.1 c9
    refine s_iconst X (v := (-1 : Int32)) dX5_takeFirst_16 rfl ?_
    cases hf
    exact s_iret X hr hlk dX5_takeFirst_17
theorem dX5_kindOf_0 : decode cX5_kindOf 0 = .ok (.iload_n 0, 1) := dk_26 (by decide +kernel)
theorem dX5_kindOf_1 : decode cX5_kindOf 1 = .ok (.bipush 7, 2) := dk_16 (x := 7) (by decide +kernel) rfl
theorem dX5_kindOf_3 : decode cX5_kindOf 3 = .ok (.iand, 1) := dk_126 (by decide +kernel)
theorem dX5_kindOf_4 : decode cX5_kindOf 4 = .ok (.ireturn, 1) := dk_172 (by decide +kernel)
def f_X5_kindOf (a1 : Int32) (M : Mem) : Option Int32 :=
  some (a1 &&& (7 : Int32))
theorem cd_X5_kindOf : (yX5_kindOf.cls ≠ "java/lang/invoke/MethodHandle" ∧ yX5_kindOf.cls ≠ "java/lang/invoke/VarHandle") ∧ (parseMethodDescriptor yX5_kindOf.desc).map (fun d => d.parameters.length) = some 1 := ⟨⟨by decide +kernel, by decide +kernel⟩, by decide +kernel⟩
theorem k_X5_kindOf (G : Gam) {a1 : Int32} {M : Mem} {rv : Int32} (hf : f_X5_kindOf a1 M = some rv) : Kt yX5_kindOf cX5_kindOf 1 (some .int) 0 0 G [.int a1] M M (some (.int rv)) := by
  refine Kt.of (by decide) (Nat.le_of_ble_eq_true rfl) ?_
  intro p l e R s m args below meth c X hr hlk hnm
  refine s_drop [0] (vs' := [(0, .int a1)]) rfl ?_
  rw [f_X5_kindOf] at hf
  refine s_iload_n X 0 dX5_kindOf_0 rfl rfl ?_
  refine s_bipush X (v := (7 : Int32)) dX5_kindOf_1 rfl ?_
  refine s_iand X dX5_kindOf_3 ?_
  cases hf
  exact s_iret X hr hlk dX5_kindOf_4
theorem dX5_stampOf_0 : decode cX5_stampOf 0 = .ok (.iload_n 0, 1) := dk_26 (by decide +kernel)
theorem dX5_stampOf_1 : decode cX5_stampOf 1 = .ok (.iconst 3, 1) := dk_6 (by decide +kernel)
theorem dX5_stampOf_2 : decode cX5_stampOf 2 = .ok (.ishr, 1) := dk_122 (by decide +kernel)
theorem dX5_stampOf_3 : decode cX5_stampOf 3 = .ok (.ireturn, 1) := dk_172 (by decide +kernel)
def f_X5_stampOf (a1 : Int32) (M : Mem) : Option Int32 :=
  some (a1 >>> ((3 : Int32) &&& 31))
theorem cd_X5_stampOf : (yX5_stampOf.cls ≠ "java/lang/invoke/MethodHandle" ∧ yX5_stampOf.cls ≠ "java/lang/invoke/VarHandle") ∧ (parseMethodDescriptor yX5_stampOf.desc).map (fun d => d.parameters.length) = some 1 := ⟨⟨by decide +kernel, by decide +kernel⟩, by decide +kernel⟩
theorem k_X5_stampOf (G : Gam) {a1 : Int32} {M : Mem} {rv : Int32} (hf : f_X5_stampOf a1 M = some rv) : Kt yX5_stampOf cX5_stampOf 1 (some .int) 0 0 G [.int a1] M M (some (.int rv)) := by
  refine Kt.of (by decide) (Nat.le_of_ble_eq_true rfl) ?_
  intro p l e R s m args below meth c X hr hlk hnm
  refine s_drop [0] (vs' := [(0, .int a1)]) rfl ?_
  rw [f_X5_stampOf] at hf
  refine s_iload_n X 0 dX5_stampOf_0 rfl rfl ?_
  refine s_iconst X (v := (3 : Int32)) dX5_stampOf_1 rfl ?_
  refine s_ishr X dX5_stampOf_2 ?_
  cases hf
  exact s_iret X hr hlk dX5_stampOf_3
theorem dX3_add_0 : decode cX3_add 0 = .ok (.aload_n 0, 1) := dk_42 (by decide +kernel)
theorem dX3_add_1 : decode cX3_add 1 = .ok (.getfield 22, 3) := dk_180 (x := 0) (y := 22) (by decide +kernel) rfl
theorem dX3_add_4 : decode cX3_add 4 = .ok (.iconst 4, 1) := dk_7 (by decide +kernel)
theorem dX3_add_5 : decode cX3_add 5 = .ok (.imul, 1) := dk_104 (by decide +kernel)
theorem dX3_add_6 : decode cX3_add 6 = .ok (.istore 5, 2) := dk_54 (x := 5) (by decide +kernel)
theorem dX3_add_8 : decode cX3_add 8 = .ok (.aload_n 0, 1) := dk_42 (by decide +kernel)
theorem dX3_add_9 : decode cX3_add 9 = .ok (.getfield 15, 3) := dk_180 (x := 0) (y := 15) (by decide +kernel) rfl
theorem dX3_add_12 : decode cX3_add 12 = .ok (.iload 5, 2) := dk_21 (x := 5) (by decide +kernel)
theorem dX3_add_14 : decode cX3_add 14 = .ok (.iload_n 1, 1) := dk_27 (by decide +kernel)
theorem dX3_add_15 : decode cX3_add 15 = .ok (.iastore, 1) := dk_79 (by decide +kernel)
theorem dX3_add_16 : decode cX3_add 16 = .ok (.aload_n 0, 1) := dk_42 (by decide +kernel)
theorem dX3_add_17 : decode cX3_add 17 = .ok (.getfield 15, 3) := dk_180 (x := 0) (y := 15) (by decide +kernel) rfl
theorem dX3_add_20 : decode cX3_add 20 = .ok (.iload 5, 2) := dk_21 (x := 5) (by decide +kernel)
theorem dX3_add_22 : decode cX3_add 22 = .ok (.iconst 1, 1) := dk_4 (by decide +kernel)
theorem dX3_add_23 : decode cX3_add 23 = .ok (.iadd, 1) := dk_96 (by decide +kernel)
theorem dX3_add_24 : decode cX3_add 24 = .ok (.iload_n 2, 1) := dk_28 (by decide +kernel)
theorem dX3_add_25 : decode cX3_add 25 = .ok (.iastore, 1) := dk_79 (by decide +kernel)
theorem dX3_add_26 : decode cX3_add 26 = .ok (.aload_n 0, 1) := dk_42 (by decide +kernel)
theorem dX3_add_27 : decode cX3_add 27 = .ok (.getfield 15, 3) := dk_180 (x := 0) (y := 15) (by decide +kernel) rfl
theorem dX3_add_30 : decode cX3_add 30 = .ok (.iload 5, 2) := dk_21 (x := 5) (by decide +kernel)
theorem dX3_add_32 : decode cX3_add 32 = .ok (.iconst 2, 1) := dk_5 (by decide +kernel)
theorem dX3_add_33 : decode cX3_add 33 = .ok (.iadd, 1) := dk_96 (by decide +kernel)
theorem dX3_add_34 : decode cX3_add 34 = .ok (.iload_n 3, 1) := dk_29 (by decide +kernel)
theorem dX3_add_35 : decode cX3_add 35 = .ok (.iastore, 1) := dk_79 (by decide +kernel)
theorem dX3_add_36 : decode cX3_add 36 = .ok (.aload_n 0, 1) := dk_42 (by decide +kernel)
theorem dX3_add_37 : decode cX3_add 37 = .ok (.getfield 15, 3) := dk_180 (x := 0) (y := 15) (by decide +kernel) rfl
theorem dX3_add_40 : decode cX3_add 40 = .ok (.iload 5, 2) := dk_21 (x := 5) (by decide +kernel)
theorem dX3_add_42 : decode cX3_add 42 = .ok (.iconst 3, 1) := dk_6 (by decide +kernel)
theorem dX3_add_43 : decode cX3_add 43 = .ok (.iadd, 1) := dk_96 (by decide +kernel)
theorem dX3_add_44 : decode cX3_add 44 = .ok (.iload 4, 2) := dk_21 (x := 4) (by decide +kernel)
theorem dX3_add_46 : decode cX3_add 46 = .ok (.iastore, 1) := dk_79 (by decide +kernel)
theorem dX3_add_47 : decode cX3_add 47 = .ok (.aload_n 0, 1) := dk_42 (by decide +kernel)
theorem dX3_add_48 : decode cX3_add 48 = .ok (.aload_n 0, 1) := dk_42 (by decide +kernel)
theorem dX3_add_49 : decode cX3_add 49 = .ok (.getfield 22, 3) := dk_180 (x := 0) (y := 22) (by decide +kernel) rfl
theorem dX3_add_52 : decode cX3_add 52 = .ok (.iconst 1, 1) := dk_4 (by decide +kernel)
theorem dX3_add_53 : decode cX3_add 53 = .ok (.iadd, 1) := dk_96 (by decide +kernel)
theorem dX3_add_54 : decode cX3_add 54 = .ok (.aload_n 0, 1) := dk_42 (by decide +kernel)
theorem dX3_add_55 : decode cX3_add 55 = .ok (.getfield 9, 3) := dk_180 (x := 0) (y := 9) (by decide +kernel) rfl
theorem dX3_add_58 : decode cX3_add 58 = .ok (.if_icmp .ge 12, 3) := dk_162 (x := 0) (y := 12) (by decide +kernel) rfl
theorem dX3_add_61 : decode cX3_add 61 = .ok (.aload_n 0, 1) := dk_42 (by decide +kernel)
theorem dX3_add_62 : decode cX3_add 62 = .ok (.getfield 22, 3) := dk_180 (x := 0) (y := 22) (by decide +kernel) rfl
theorem dX3_add_65 : decode cX3_add 65 = .ok (.iconst 1, 1) := dk_4 (by decide +kernel)
theorem dX3_add_66 : decode cX3_add 66 = .ok (.iadd, 1) := dk_96 (by decide +kernel)
theorem dX3_add_67 : decode cX3_add 67 = .ok (.goto 4, 3) := dk_167 (x := 0) (y := 4) (by decide +kernel) rfl
theorem dX3_add_70 : decode cX3_add 70 = .ok (.iconst 0, 1) := dk_3 (by decide +kernel)
theorem dX3_add_71 : decode cX3_add 71 = .ok (.putfield 22, 3) := dk_181 (x := 0) (y := 22) (by decide +kernel) rfl
theorem dX3_add_74 : decode cX3_add 74 = .ok (.aload_n 0, 1) := dk_42 (by decide +kernel)
theorem dX3_add_75 : decode cX3_add 75 = .ok (.aload_n 0, 1) := dk_42 (by decide +kernel)
theorem dX3_add_76 : decode cX3_add 76 = .ok (.getfield 19, 3) := dk_180 (x := 0) (y := 19) (by decide +kernel) rfl
theorem dX3_add_79 : decode cX3_add 79 = .ok (.aload_n 0, 1) := dk_42 (by decide +kernel)
theorem dX3_add_80 : decode cX3_add 80 = .ok (.getfield 9, 3) := dk_180 (x := 0) (y := 9) (by decide +kernel) rfl
theorem dX3_add_83 : decode cX3_add 83 = .ok (.if_icmp .ge 12, 3) := dk_162 (x := 0) (y := 12) (by decide +kernel) rfl
theorem dX3_add_86 : decode cX3_add 86 = .ok (.aload_n 0, 1) := dk_42 (by decide +kernel)
theorem dX3_add_87 : decode cX3_add 87 = .ok (.getfield 19, 3) := dk_180 (x := 0) (y := 19) (by decide +kernel) rfl
theorem dX3_add_90 : decode cX3_add 90 = .ok (.iconst 1, 1) := dk_4 (by decide +kernel)
theorem dX3_add_91 : decode cX3_add 91 = .ok (.iadd, 1) := dk_96 (by decide +kernel)
theorem dX3_add_92 : decode cX3_add 92 = .ok (.goto 7, 3) := dk_167 (x := 0) (y := 7) (by decide +kernel) rfl
theorem dX3_add_95 : decode cX3_add 95 = .ok (.aload_n 0, 1) := dk_42 (by decide +kernel)
theorem dX3_add_96 : decode cX3_add 96 = .ok (.getfield 9, 3) := dk_180 (x := 0) (y := 9) (by decide +kernel) rfl
theorem dX3_add_99 : decode cX3_add 99 = .ok (.putfield 19, 3) := dk_181 (x := 0) (y := 19) (by decide +kernel) rfl
theorem dX3_add_102 : decode cX3_add 102 = .ok (.return_, 1) := dk_177 (by decide +kernel)
def f_X3_add_71 (v0 : Nat) (u0 : Int32) (u1 : Nat) (M : Mem) : Option Mem :=
    chk (isO M 3 u1) <|
    bnd (sI M u1 3 u0) fun M2 =>
    chk (isO M2 3 v0) <|
    if (mI M2 v0 0) ≤ (mI M2 v0 2) then (
      bnd (sI M2 v0 2 (mI M2 v0 0)) fun M8 =>
      some M8
      ) else (
      bnd (sI M2 v0 2 ((mI M2 v0 2) + (1 : Int32))) fun M12 =>
      some M12
      )
def f_X3_add (o : Nat) (a1 : Int32) (a2 : Int32) (a3 : Int32) (a4 : Int32) (M : Mem) : Option Mem :=
  chk (isO M 3 o) <|
  bnd ((mI M o 3) * (4 : Int32)) fun x2 =>
  bnd (mR M o 1) fun o4 =>
  chk (isO M 100 o4) <|
  chk (inB x2 (mLn M o4)) <|
  bnd (sI M o4 (x2).toNatClampNeg a1) fun M8 =>
  bnd (mR M8 o 1) fun o12 =>
  chk (isO M8 100 o12) <|
  chk (inB (x2 + (1 : Int32)) (mLn M8 o12)) <|
  bnd (sI M8 o12 ((x2 + (1 : Int32))).toNatClampNeg a2) fun M16 =>
  bnd (mR M16 o 1) fun o21 =>
  chk (isO M16 100 o21) <|
  chk (inB (x2 + (2 : Int32)) (mLn M16 o21)) <|
  bnd (sI M16 o21 ((x2 + (2 : Int32))).toNatClampNeg a3) fun M25 =>
  bnd (mR M25 o 1) fun o31 =>
  chk (isO M25 100 o31) <|
  chk (inB (x2 + (3 : Int32)) (mLn M25 o31)) <|
  bnd (sI M25 o31 ((x2 + (3 : Int32))).toNatClampNeg a4) fun M35 =>
  if (mI M35 o 0) ≤ ((mI M35 o 3) + (1 : Int32)) then (
    f_X3_add_71 o (0 : Int32) o M35
    ) else (
    f_X3_add_71 o ((mI M35 o 3) + (1 : Int32)) o M35
    )
theorem cd_X3_add : (yX3_add.cls ≠ "java/lang/invoke/MethodHandle" ∧ yX3_add.cls ≠ "java/lang/invoke/VarHandle") ∧ (parseMethodDescriptor yX3_add.desc).map (fun d => d.parameters.length) = some 4 := ⟨⟨by decide +kernel, by decide +kernel⟩, by decide +kernel⟩
section
variable {p : Program} {l : Launch} {e : Env} {R : Room} {s : State} {m : MethodId} {args : Array Value} {below : List Frame} {meth : Method} {c : Code} {G : Gam} {M0 : Mem}
theorem l_X3_add_71 {rv : Mem} {v0 : Nat} {u0 : Int32} {u1 : Nat} {M : Mem} (X : Cx p R s m args c G M0 cX3_add yX3_add.cls 6 0 0) (hr : meth.sig.returnType = none) (hlk : meth.locks = false) (hnm : meth.name = "add") (hf : f_X3_add_71 v0 u0 u1 M = some rv) : Sg p l e R s m args below meth c (Qm below G args s none M0 rv) G M0 6 71 [(0, .ref (gB G + v0))] [.int u0, .ref (gB G + u1)] M := by
  rw [f_X3_add_71] at hf
  obtain ⟨h1, hf⟩ := pk_chk hf
  obtain ⟨M2, e3, hf⟩ := pk_bnd hf
  refine s_putI X (ci := 3) (k := 3) rfl (Nat.le_of_ble_eq_true rfl) h1 wd310 (fun _ _ _ => rfl) rfl rfl e3 dX3_add_71 ?_
  have h4 := io_sI e3 h1
  refine s_aload_n X 0 dX3_add_74 rfl rfl ?_
  refine s_aload_n X 0 dX3_add_75 rfl rfl ?_
  obtain ⟨h5, hf⟩ := pk_chk hf
  refine s_getI X (ci := 3) (k := 2) rfl (Nat.le_of_ble_eq_true rfl) h5 wd309 (fun _ _ _ => rfl) dX3_add_76 ?_
  refine s_aload_n X 0 dX3_add_79 rfl rfl ?_
  refine s_getI X (ci := 3) (k := 0) rfl (Nat.le_of_ble_eq_true rfl) h5 wd307 (fun _ _ _ => rfl) dX3_add_80 ?_
  have hs6 := pk_ite hf
  clear hf
  refine s_icmp_ge X (tgt := 95) dX3_add_83 rfl (fun c7 => ?_) (fun c7 => ?_)
  · have hf := hs6.1 c7
    refine s_aload_n X 0 dX3_add_95 rfl rfl ?_
    refine s_getI X (ci := 3) (k := 0) rfl (Nat.le_of_ble_eq_true rfl) h5 wd307 (fun _ _ _ => rfl) dX3_add_96 ?_
    obtain ⟨M8, e9, hf⟩ := pk_bnd hf
    refine s_putI X (ci := 3) (k := 2) rfl (Nat.le_of_ble_eq_true rfl) h5 wd309 (fun _ _ _ => rfl) rfl rfl e9 dX3_add_99 ?_
    have h10 := io_sI e9 h4
    have h11 := io_sI e9 h5
    cases hf
    exact s_vret X hr hlk dX3_add_102
  · have hf := hs6.2 c7
    refine s_aload_n X 0 dX3_add_86 rfl rfl ?_
    refine s_getI X (ci := 3) (k := 2) rfl (Nat.le_of_ble_eq_true rfl) h5 wd309 (fun _ _ _ => rfl) dX3_add_87 ?_
    refine s_iconst X (v := (1 : Int32)) dX3_add_90 rfl ?_
    refine s_iadd X dX3_add_91 ?_
    refine s_goto X (tgt := 99) dX3_add_92 rfl ?_
    obtain ⟨M12, e13, hf⟩ := pk_bnd hf
    refine s_putI X (ci := 3) (k := 2) rfl (Nat.le_of_ble_eq_true rfl) h5 wd309 (fun _ _ _ => rfl) rfl rfl e13 dX3_add_99 ?_
    have h14 := io_sI e13 h4
    have h15 := io_sI e13 h5
    cases hf
    exact s_vret X hr hlk dX3_add_102
end
theorem k_X3_add (G : Gam) {o : Nat} {a1 : Int32} {a2 : Int32} {a3 : Int32} {a4 : Int32} {M : Mem} {rv : Mem} (hf : f_X3_add o a1 a2 a3 a4 M = some rv) : Kt yX3_add cX3_add 6 none 0 0 G [.ref (gB G + o), .int a1, .int a2, .int a3, .int a4] M rv none := by
  refine Kt.of (by decide) (Nat.le_of_ble_eq_true rfl) ?_
  intro p l e R s m args below meth c X hr hlk hnm
  refine s_drop [0, 1, 2, 3, 4] (vs' := [(0, .ref (gB G + o)), (1, .int a1), (2, .int a2), (3, .int a3), (4, .int a4)]) rfl ?_
  rw [f_X3_add] at hf
  refine s_aload_n X 0 dX3_add_0 rfl rfl ?_
  obtain ⟨h1, hf⟩ := pk_chk hf
  refine s_getI X (ci := 3) (k := 3) rfl (Nat.le_of_ble_eq_true rfl) h1 wd310 (fun _ _ _ => rfl) dX3_add_1 ?_
  refine s_iconst X (v := (4 : Int32)) dX3_add_4 rfl ?_
  refine s_imul X dX3_add_5 ?_
  obtain ⟨x2, e3, hf⟩ := pk_bnd hf
  refine s_nmI e3 ?_
  refine s_istore X (vs' := [(0, .ref (gB G + o)), (1, .int a1), (2, .int a2), (3, .int a3), (4, .int a4), (5, .int x2)]) dX3_add_6 (Nat.le_of_ble_eq_true rfl) [1, 2, 3, 4, 5, 0] rfl ?_
  refine s_aload_n X 0 dX3_add_8 rfl rfl ?_
  obtain ⟨o4, e5, hf⟩ := pk_bnd hf
  obtain ⟨h6, hf⟩ := pk_chk hf
  refine s_getR X (ci := 3) (k := 1) rfl (Nat.le_of_ble_eq_true rfl) h1 wd308 (fun _ _ _ => rfl) (e5 ▸ h6) dX3_add_9 (e5 ▸ ?_)
  refine s_iload X 5 dX3_add_12 rfl ?_
  refine s_iload_n X 1 dX3_add_14 rfl rfl ?_
  obtain ⟨h7, hf⟩ := pk_chk hf
  obtain ⟨M8, e9, hf⟩ := pk_bnd hf
  refine s_iast X h6 h7 e9 dX3_add_15 ?_
  have h10 := io_sI e9 h1
  have h11 := io_sI e9 h6
  refine s_aload_n X 0 dX3_add_16 rfl rfl ?_
  obtain ⟨o12, e13, hf⟩ := pk_bnd hf
  obtain ⟨h14, hf⟩ := pk_chk hf
  refine s_getR X (ci := 3) (k := 1) rfl (Nat.le_of_ble_eq_true rfl) h10 wd308 (fun _ _ _ => rfl) (e13 ▸ h14) dX3_add_17 (e13 ▸ ?_)
  refine s_iload X 5 dX3_add_20 rfl ?_
  refine s_iconst X (v := (1 : Int32)) dX3_add_22 rfl ?_
  refine s_iadd X dX3_add_23 ?_
  refine s_iload_n X 2 dX3_add_24 rfl rfl ?_
  obtain ⟨h15, hf⟩ := pk_chk hf
  obtain ⟨M16, e17, hf⟩ := pk_bnd hf
  refine s_iast X h14 h15 e17 dX3_add_25 ?_
  have h18 := io_sI e17 h10
  have h19 := io_sI e17 h11
  have h20 := io_sI e17 h14
  refine s_aload_n X 0 dX3_add_26 rfl rfl ?_
  obtain ⟨o21, e22, hf⟩ := pk_bnd hf
  obtain ⟨h23, hf⟩ := pk_chk hf
  refine s_getR X (ci := 3) (k := 1) rfl (Nat.le_of_ble_eq_true rfl) h18 wd308 (fun _ _ _ => rfl) (e22 ▸ h23) dX3_add_27 (e22 ▸ ?_)
  refine s_iload X 5 dX3_add_30 rfl ?_
  refine s_iconst X (v := (2 : Int32)) dX3_add_32 rfl ?_
  refine s_iadd X dX3_add_33 ?_
  refine s_iload_n X 3 dX3_add_34 rfl rfl ?_
  obtain ⟨h24, hf⟩ := pk_chk hf
  obtain ⟨M25, e26, hf⟩ := pk_bnd hf
  refine s_iast X h23 h24 e26 dX3_add_35 ?_
  have h27 := io_sI e26 h18
  have h28 := io_sI e26 h19
  have h29 := io_sI e26 h20
  have h30 := io_sI e26 h23
  refine s_aload_n X 0 dX3_add_36 rfl rfl ?_
  obtain ⟨o31, e32, hf⟩ := pk_bnd hf
  obtain ⟨h33, hf⟩ := pk_chk hf
  refine s_getR X (ci := 3) (k := 1) rfl (Nat.le_of_ble_eq_true rfl) h27 wd308 (fun _ _ _ => rfl) (e32 ▸ h33) dX3_add_37 (e32 ▸ ?_)
  refine s_iload X 5 dX3_add_40 rfl ?_
  refine s_iconst X (v := (3 : Int32)) dX3_add_42 rfl ?_
  refine s_iadd X dX3_add_43 ?_
  refine s_iload X 4 dX3_add_44 rfl ?_
  obtain ⟨h34, hf⟩ := pk_chk hf
  obtain ⟨M35, e36, hf⟩ := pk_bnd hf
  refine s_iast X h33 h34 e36 dX3_add_46 ?_
  have h37 := io_sI e36 h27
  have h38 := io_sI e36 h28
  have h39 := io_sI e36 h29
  have h40 := io_sI e36 h30
  have h41 := io_sI e36 h33
  refine s_aload_n X 0 dX3_add_47 rfl rfl ?_
  refine s_aload_n X 0 dX3_add_48 rfl rfl ?_
  refine s_getI X (ci := 3) (k := 3) rfl (Nat.le_of_ble_eq_true rfl) h37 wd310 (fun _ _ _ => rfl) dX3_add_49 ?_
  refine s_iconst X (v := (1 : Int32)) dX3_add_52 rfl ?_
  refine s_iadd X dX3_add_53 ?_
  refine s_aload_n X 0 dX3_add_54 rfl rfl ?_
  refine s_getI X (ci := 3) (k := 0) rfl (Nat.le_of_ble_eq_true rfl) h37 wd307 (fun _ _ _ => rfl) dX3_add_55 ?_
  have hs42 := pk_ite hf
  clear hf
  refine s_icmp_ge X (tgt := 70) dX3_add_58 rfl (fun c43 => ?_) (fun c43 => ?_)
  · have hf := hs42.1 c43
    refine s_iconst X (v := (0 : Int32)) dX3_add_70 rfl ?_
    refine s_drop [0] (vs' := [(0, .ref (gB G + o))]) rfl ?_
    exact l_X3_add_71 X hr hlk hnm hf
  · have hf := hs42.2 c43
    refine s_aload_n X 0 dX3_add_61 rfl rfl ?_
    refine s_getI X (ci := 3) (k := 3) rfl (Nat.le_of_ble_eq_true rfl) h37 wd310 (fun _ _ _ => rfl) dX3_add_62 ?_
    refine s_iconst X (v := (1 : Int32)) dX3_add_65 rfl ?_
    refine s_iadd X dX3_add_66 ?_
    refine s_goto X (tgt := 71) dX3_add_67 rfl ?_
    refine s_drop [0] (vs' := [(0, .ref (gB G + o))]) rfl ?_
    exact l_X3_add_71 X hr hlk hnm hf
