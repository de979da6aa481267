theorem dX2_noteBringing_0 : decode cX2_noteBringing 0 = .ok (.aload_n 0, 1) := dk_42 (by decide +kernel)
theorem dX2_noteBringing_1 : decode cX2_noteBringing 1 = .ok (.dup, 1) := dk_89 (by decide +kernel)
theorem dX2_noteBringing_2 : decode cX2_noteBringing 2 = .ok (.getfield 65, 3) := dk_180 (x := 0) (y := 65) (by decide +kernel) rfl
theorem dX2_noteBringing_5 : decode cX2_noteBringing 5 = .ok (.iconst 1, 1) := dk_4 (by decide +kernel)
theorem dX2_noteBringing_6 : decode cX2_noteBringing 6 = .ok (.iadd, 1) := dk_96 (by decide +kernel)
theorem dX2_noteBringing_7 : decode cX2_noteBringing 7 = .ok (.putfield 65, 3) := dk_181 (x := 0) (y := 65) (by decide +kernel) rfl
theorem dX2_noteBringing_10 : decode cX2_noteBringing 10 = .ok (.aload_n 0, 1) := dk_42 (by decide +kernel)
theorem dX2_noteBringing_11 : decode cX2_noteBringing 11 = .ok (.getfield 33, 3) := dk_180 (x := 0) (y := 33) (by decide +kernel) rfl
theorem dX2_noteBringing_14 : decode cX2_noteBringing 14 = .ok (.iload_n 1, 1) := dk_27 (by decide +kernel)
theorem dX2_noteBringing_15 : decode cX2_noteBringing 15 = .ok (.iload_n 2, 1) := dk_28 (by decide +kernel)
theorem dX2_noteBringing_16 : decode cX2_noteBringing 16 = .ok (.iload_n 3, 1) := dk_29 (by decide +kernel)
theorem dX2_noteBringing_17 : decode cX2_noteBringing 17 = .ok (.iload 4, 2) := dk_21 (x := 4) (by decide +kernel)
theorem dX2_noteBringing_19 : decode cX2_noteBringing 19 = .ok (.invokevirtual 218, 3) := dk_182 (x := 0) (y := 218) (by decide +kernel) rfl
theorem dX2_noteBringing_22 : decode cX2_noteBringing 22 = .ok (.aload_n 0, 1) := dk_42 (by decide +kernel)
theorem dX2_noteBringing_23 : decode cX2_noteBringing 23 = .ok (.getfield 20, 3) := dk_180 (x := 0) (y := 20) (by decide +kernel) rfl
theorem dX2_noteBringing_26 : decode cX2_noteBringing 26 = .ok (.iload_n 3, 1) := dk_29 (by decide +kernel)
theorem dX2_noteBringing_27 : decode cX2_noteBringing 27 = .ok (.aaload, 1) := dk_50 (by decide +kernel)
theorem dX2_noteBringing_28 : decode cX2_noteBringing 28 = .ok (.dup, 1) := dk_89 (by decide +kernel)
theorem dX2_noteBringing_29 : decode cX2_noteBringing 29 = .ok (.getfield 221, 3) := dk_180 (x := 0) (y := 221) (by decide +kernel) rfl
theorem dX2_noteBringing_32 : decode cX2_noteBringing 32 = .ok (.iconst 1, 1) := dk_4 (by decide +kernel)
theorem dX2_noteBringing_33 : decode cX2_noteBringing 33 = .ok (.iadd, 1) := dk_96 (by decide +kernel)
theorem dX2_noteBringing_34 : decode cX2_noteBringing 34 = .ok (.putfield 221, 3) := dk_181 (x := 0) (y := 221) (by decide +kernel) rfl
theorem dX2_noteBringing_37 : decode cX2_noteBringing 37 = .ok (.aload_n 0, 1) := dk_42 (by decide +kernel)
theorem dX2_noteBringing_38 : decode cX2_noteBringing 38 = .ok (.getfield 20, 3) := dk_180 (x := 0) (y := 20) (by decide +kernel) rfl
theorem dX2_noteBringing_41 : decode cX2_noteBringing 41 = .ok (.iload_n 3, 1) := dk_29 (by decide +kernel)
theorem dX2_noteBringing_42 : decode cX2_noteBringing 42 = .ok (.aaload, 1) := dk_50 (by decide +kernel)
theorem dX2_noteBringing_43 : decode cX2_noteBringing 43 = .ok (.dup, 1) := dk_89 (by decide +kernel)
theorem dX2_noteBringing_44 : decode cX2_noteBringing 44 = .ok (.getfield 130, 3) := dk_180 (x := 0) (y := 130) (by decide +kernel) rfl
theorem dX2_noteBringing_47 : decode cX2_noteBringing 47 = .ok (.iconst 1, 1) := dk_4 (by decide +kernel)
theorem dX2_noteBringing_48 : decode cX2_noteBringing 48 = .ok (.iadd, 1) := dk_96 (by decide +kernel)
theorem dX2_noteBringing_49 : decode cX2_noteBringing 49 = .ok (.putfield 130, 3) := dk_181 (x := 0) (y := 130) (by decide +kernel) rfl
theorem dX2_noteBringing_52 : decode cX2_noteBringing 52 = .ok (.iload_n 2, 1) := dk_28 (by decide +kernel)
theorem dX2_noteBringing_53 : decode cX2_noteBringing 53 = .ok (.iload_n 3, 1) := dk_29 (by decide +kernel)
theorem dX2_noteBringing_54 : decode cX2_noteBringing 54 = .ok (.if_icmp .eq 18, 3) := dk_159 (x := 0) (y := 18) (by decide +kernel) rfl
theorem dX2_noteBringing_57 : decode cX2_noteBringing 57 = .ok (.aload_n 0, 1) := dk_42 (by decide +kernel)
theorem dX2_noteBringing_58 : decode cX2_noteBringing 58 = .ok (.getfield 20, 3) := dk_180 (x := 0) (y := 20) (by decide +kernel) rfl
theorem dX2_noteBringing_61 : decode cX2_noteBringing 61 = .ok (.iload_n 2, 1) := dk_28 (by decide +kernel)
theorem dX2_noteBringing_62 : decode cX2_noteBringing 62 = .ok (.aaload, 1) := dk_50 (by decide +kernel)
theorem dX2_noteBringing_63 : decode cX2_noteBringing 63 = .ok (.dup, 1) := dk_89 (by decide +kernel)
theorem dX2_noteBringing_64 : decode cX2_noteBringing 64 = .ok (.getfield 130, 3) := dk_180 (x := 0) (y := 130) (by decide +kernel) rfl
theorem dX2_noteBringing_67 : decode cX2_noteBringing 67 = .ok (.iconst 1, 1) := dk_4 (by decide +kernel)
theorem dX2_noteBringing_68 : decode cX2_noteBringing 68 = .ok (.iadd, 1) := dk_96 (by decide +kernel)
theorem dX2_noteBringing_69 : decode cX2_noteBringing 69 = .ok (.putfield 130, 3) := dk_181 (x := 0) (y := 130) (by decide +kernel) rfl
theorem dX2_noteBringing_72 : decode cX2_noteBringing 72 = .ok (.return_, 1) := dk_177 (by decide +kernel)
def f_X2_noteBringing (o : Nat) (a1 : Int32) (a2 : Int32) (a3 : Int32) (a4 : Int32) (M : Mem) : Option Mem :=
  chk (isO M 2 o) <|
  bnd (sI M o 10 ((mI M o 10) + (1 : Int32))) fun M2 =>
  bnd (mR M2 o 4) fun o5 =>
  chk (isO M2 3 o5) <|
  obd (f_X3_add o5 a1 a2 a3 a4 M2) fun M9 =>
  chk (isO M9 2 o) <|
  bnd (mR M9 o 2) fun o11 =>
  chk (isO M9 102 o11) <|
  chk (inB a3 (mLn M9 o11)) <|
  bnd (mR M9 o11 (a3).toNatClampNeg) fun o15 =>
  chk (isO M9 4 o15) <|
  bnd (sI M9 o15 12 ((mI M9 o15 12) + (1 : Int32))) fun M18 =>
  bnd (mR M18 o 2) fun o23 =>
  chk (isO M18 102 o23) <|
  chk (inB a3 (mLn M18 o23)) <|
  bnd (mR M18 o23 (a3).toNatClampNeg) fun o27 =>
  chk (isO M18 4 o27) <|
  bnd (sI M18 o27 14 ((mI M18 o27 14) + (1 : Int32))) fun M30 =>
  if a2 = a3 then (
    some M30
    ) else (
    bnd (mR M30 o 2) fun o39 =>
    chk (isO M30 102 o39) <|
    chk (inB a2 (mLn M30 o39)) <|
    bnd (mR M30 o39 (a2).toNatClampNeg) fun o43 =>
    chk (isO M30 4 o43) <|
    bnd (sI M30 o43 14 ((mI M30 o43 14) + (1 : Int32))) fun M46 =>
    some M46
    )
theorem cd_X2_noteBringing : (yX2_noteBringing.cls ≠ "java/lang/invoke/MethodHandle" ∧ yX2_noteBringing.cls ≠ "java/lang/invoke/VarHandle") ∧ (parseMethodDescriptor yX2_noteBringing.desc).map (fun d => d.parameters.length) = some 4 := ⟨⟨by decide +kernel, by decide +kernel⟩, by decide +kernel⟩
theorem k_X2_noteBringing (G : Gam) {o : Nat} {a1 : Int32} {a2 : Int32} {a3 : Int32} {a4 : Int32} {M : Mem} {rv : Mem} (hf : f_X2_noteBringing o a1 a2 a3 a4 M = some rv) : Kt yX2_noteBringing cX2_noteBringing 5 none 1 25 G [.ref (gB G + o), .int a1, .int a2, .int a3, .int a4] M rv none := by
  refine Kt.of (by decide) (Nat.le_of_ble_eq_true rfl) ?_
  intro p l e R s m args below meth c X hr hlk hnm
  refine s_drop [0, 1, 2, 3, 4] (vs' := [(0, .ref (gB G + o)), (1, .int a1), (2, .int a2), (3, .int a3), (4, .int a4)]) rfl ?_
  rw [f_X2_noteBringing] at hf
  refine s_aload_n X 0 dX2_noteBringing_0 rfl rfl ?_
  refine s_dup X dX2_noteBringing_1 rfl ?_
  obtain ⟨h1, hf⟩ := pk_chk hf
  refine s_getI X (ci := 2) (k := 10) rfl (Nat.le_of_ble_eq_true rfl) h1 wd443 (fun _ _ _ => rfl) dX2_noteBringing_2 ?_
  refine s_iconst X (v := (1 : Int32)) dX2_noteBringing_5 rfl ?_
  refine s_iadd X dX2_noteBringing_6 ?_
  obtain ⟨M2, e3, hf⟩ := pk_bnd hf
  refine s_putI X (ci := 2) (k := 10) rfl (Nat.le_of_ble_eq_true rfl) h1 wd443 (fun _ _ _ => rfl) rfl rfl e3 dX2_noteBringing_7 ?_
  have h4 := io_sI e3 h1
  refine s_aload_n X 0 dX2_noteBringing_10 rfl rfl ?_
  obtain ⟨o5, e6, hf⟩ := pk_bnd hf
  obtain ⟨h7, hf⟩ := pk_chk hf
  refine s_getR X (ci := 2) (k := 4) rfl (Nat.le_of_ble_eq_true rfl) h4 wd429 (fun _ _ _ => rfl) (e6 ▸ h7) dX2_noteBringing_11 (e6 ▸ ?_)
  refine s_iload_n X 1 dX2_noteBringing_14 rfl rfl ?_
  refine s_iload_n X 2 dX2_noteBringing_15 rfl rfl ?_
  refine s_iload_n X 3 dX2_noteBringing_16 rfl rfl ?_
  refine s_iload X 4 dX2_noteBringing_17 rfl ?_
  obtain ⟨M9, hc8, hf⟩ := pk_obd hf
  refine s_callV X (ci := 3) (k_X3_add G hc8) rfl h7 wd998 wd999 wd1000 wd1001 wd132 cd_X3_add ⟨Nat.le_of_ble_eq_true rfl, Nat.le_of_ble_eq_true rfl⟩ (Nat.le_of_ble_eq_true rfl) dX2_noteBringing_19 ?_
  refine s_aload_n X 0 dX2_noteBringing_22 rfl rfl ?_
  obtain ⟨h10, hf⟩ := pk_chk hf
  obtain ⟨o11, e12, hf⟩ := pk_bnd hf
  obtain ⟨h13, hf⟩ := pk_chk hf
  refine s_getR X (ci := 2) (k := 2) rfl (Nat.le_of_ble_eq_true rfl) h10 wd423 (fun _ _ _ => rfl) (e12 ▸ h13) dX2_noteBringing_23 (e12 ▸ ?_)
  refine s_iload_n X 3 dX2_noteBringing_26 rfl rfl ?_
  obtain ⟨h14, hf⟩ := pk_chk hf
  obtain ⟨o15, e16, hf⟩ := pk_bnd hf
  obtain ⟨h17, hf⟩ := pk_chk hf
  refine s_aald X h13 h14 (e16 ▸ h17) dX2_noteBringing_27 (e16 ▸ ?_)
  refine s_dup X dX2_noteBringing_28 rfl ?_
  refine s_getI X (ci := 4) (k := 12) rfl (Nat.le_of_ble_eq_true rfl) h17 wd373 (fun _ _ _ => rfl) dX2_noteBringing_29 ?_
  refine s_iconst X (v := (1 : Int32)) dX2_noteBringing_32 rfl ?_
  refine s_iadd X dX2_noteBringing_33 ?_
  obtain ⟨M18, e19, hf⟩ := pk_bnd hf
  refine s_putI X (ci := 4) (k := 12) rfl (Nat.le_of_ble_eq_true rfl) h17 wd373 (fun _ _ _ => rfl) rfl rfl e19 dX2_noteBringing_34 ?_
  have h20 := io_sI e19 h10
  have h21 := io_sI e19 h13
  have h22 := io_sI e19 h17
  refine s_aload_n X 0 dX2_noteBringing_37 rfl rfl ?_
  obtain ⟨o23, e24, hf⟩ := pk_bnd hf
  obtain ⟨h25, hf⟩ := pk_chk hf
  refine s_getR X (ci := 2) (k := 2) rfl (Nat.le_of_ble_eq_true rfl) h20 wd423 (fun _ _ _ => rfl) (e24 ▸ h25) dX2_noteBringing_38 (e24 ▸ ?_)
  refine s_iload_n X 3 dX2_noteBringing_41 rfl rfl ?_
  obtain ⟨h26, hf⟩ := pk_chk hf
  obtain ⟨o27, e28, hf⟩ := pk_bnd hf
  obtain ⟨h29, hf⟩ := pk_chk hf
  refine s_aald X h25 h26 (e28 ▸ h29) dX2_noteBringing_42 (e28 ▸ ?_)
  refine s_dup X dX2_noteBringing_43 rfl ?_
  refine s_getI X (ci := 4) (k := 14) rfl (Nat.le_of_ble_eq_true rfl) h29 wd378 (fun _ _ _ => rfl) dX2_noteBringing_44 ?_
  refine s_iconst X (v := (1 : Int32)) dX2_noteBringing_47 rfl ?_
  refine s_iadd X dX2_noteBringing_48 ?_
  obtain ⟨M30, e31, hf⟩ := pk_bnd hf
  refine s_putI X (ci := 4) (k := 14) rfl (Nat.le_of_ble_eq_true rfl) h29 wd378 (fun _ _ _ => rfl) rfl rfl e31 dX2_noteBringing_49 ?_
  have h32 := io_sI e31 h20
  have h33 := io_sI e31 h21
  have h34 := io_sI e31 h22
  have h35 := io_sI e31 h25
  have h36 := io_sI e31 h29
  refine s_iload_n X 2 dX2_noteBringing_52 rfl rfl ?_
  refine s_iload_n X 3 dX2_noteBringing_53 rfl rfl ?_
  have hs37 := pk_ite hf
  clear hf
  refine s_icmp_eq X (tgt := 72) dX2_noteBringing_54 rfl (fun c38 => ?_) (fun c38 => ?_)
  · have hf := hs37.1 c38
    cases hf
    exact s_vret X hr hlk dX2_noteBringing_72
  · have hf := hs37.2 c38
    refine s_aload_n X 0 dX2_noteBringing_57 rfl rfl ?_
    obtain ⟨o39, e40, hf⟩ := pk_bnd hf
    obtain ⟨h41, hf⟩ := pk_chk hf
    refine s_getR X (ci := 2) (k := 2) rfl (Nat.le_of_ble_eq_true rfl) h32 wd423 (fun _ _ _ => rfl) (e40 ▸ h41) dX2_noteBringing_58 (e40 ▸ ?_)
    refine s_iload_n X 2 dX2_noteBringing_61 rfl rfl ?_
    obtain ⟨h42, hf⟩ := pk_chk hf
    obtain ⟨o43, e44, hf⟩ := pk_bnd hf
    obtain ⟨h45, hf⟩ := pk_chk hf
    refine s_aald X h41 h42 (e44 ▸ h45) dX2_noteBringing_62 (e44 ▸ ?_)
    refine s_dup X dX2_noteBringing_63 rfl ?_
    refine s_getI X (ci := 4) (k := 14) rfl (Nat.le_of_ble_eq_true rfl) h45 wd378 (fun _ _ _ => rfl) dX2_noteBringing_64 ?_
    refine s_iconst X (v := (1 : Int32)) dX2_noteBringing_67 rfl ?_
    refine s_iadd X dX2_noteBringing_68 ?_
    obtain ⟨M46, e47, hf⟩ := pk_bnd hf
    refine s_putI X (ci := 4) (k := 14) rfl (Nat.le_of_ble_eq_true rfl) h45 wd378 (fun _ _ _ => rfl) rfl rfl e47 dX2_noteBringing_69 ?_
    have h48 := io_sI e47 h32
    have h49 := io_sI e47 h33
    have h50 := io_sI e47 h34
    have h51 := io_sI e47 h35
    have h52 := io_sI e47 h36
    have h53 := io_sI e47 h41
    have h54 := io_sI e47 h45
    cases hf
    exact s_vret X hr hlk dX2_noteBringing_72
theorem dX4_firstWaiter_0 : decode cX4_firstWaiter 0 = .ok (.iconst (-1), 1) := dk_2 (by decide +kernel)
theorem dX4_firstWaiter_1 : decode cX4_firstWaiter 1 = .ok (.istore_n 1, 1) := dk_60 (by decide +kernel)
theorem dX4_firstWaiter_2 : decode cX4_firstWaiter 2 = .ok (.iconst 0, 1) := dk_3 (by decide +kernel)
theorem dX4_firstWaiter_3 : decode cX4_firstWaiter 3 = .ok (.istore_n 2, 1) := dk_61 (by decide +kernel)
theorem dX4_firstWaiter_4 : decode cX4_firstWaiter 4 = .ok (.iload_n 2, 1) := dk_28 (by decide +kernel)
theorem dX4_firstWaiter_5 : decode cX4_firstWaiter 5 = .ok (.bipush 16, 2) := dk_16 (x := 16) (by decide +kernel) rfl
theorem dX4_firstWaiter_7 : decode cX4_firstWaiter 7 = .ok (.if_icmp .ge 42, 3) := dk_162 (x := 0) (y := 42) (by decide +kernel) rfl
theorem dX4_firstWaiter_10 : decode cX4_firstWaiter 10 = .ok (.aload_n 0, 1) := dk_42 (by decide +kernel)
theorem dX4_firstWaiter_11 : decode cX4_firstWaiter 11 = .ok (.getfield 64, 3) := dk_180 (x := 0) (y := 64) (by decide +kernel) rfl
theorem dX4_firstWaiter_14 : decode cX4_firstWaiter 14 = .ok (.iload_n 2, 1) := dk_28 (by decide +kernel)
theorem dX4_firstWaiter_15 : decode cX4_firstWaiter 15 = .ok (.invokestatic 77, 3) := dk_184 (x := 0) (y := 77) (by decide +kernel) rfl
theorem dX4_firstWaiter_18 : decode cX4_firstWaiter 18 = .ok (.ifCond .eq 25, 3) := dk_153 (x := 0) (y := 25) (by decide +kernel) rfl
theorem dX4_firstWaiter_21 : decode cX4_firstWaiter 21 = .ok (.iload_n 1, 1) := dk_27 (by decide +kernel)
theorem dX4_firstWaiter_22 : decode cX4_firstWaiter 22 = .ok (.iconst (-1), 1) := dk_2 (by decide +kernel)
theorem dX4_firstWaiter_23 : decode cX4_firstWaiter 23 = .ok (.if_icmp .eq 18, 3) := dk_159 (x := 0) (y := 18) (by decide +kernel) rfl
theorem dX4_firstWaiter_26 : decode cX4_firstWaiter 26 = .ok (.aload_n 0, 1) := dk_42 (by decide +kernel)
theorem dX4_firstWaiter_27 : decode cX4_firstWaiter 27 = .ok (.getfield 18, 3) := dk_180 (x := 0) (y := 18) (by decide +kernel) rfl
theorem dX4_firstWaiter_30 : decode cX4_firstWaiter 30 = .ok (.iload_n 2, 1) := dk_28 (by decide +kernel)
theorem dX4_firstWaiter_31 : decode cX4_firstWaiter 31 = .ok (.iaload, 1) := dk_46 (by decide +kernel)
theorem dX4_firstWaiter_32 : decode cX4_firstWaiter 32 = .ok (.aload_n 0, 1) := dk_42 (by decide +kernel)
theorem dX4_firstWaiter_33 : decode cX4_firstWaiter 33 = .ok (.getfield 18, 3) := dk_180 (x := 0) (y := 18) (by decide +kernel) rfl
theorem dX4_firstWaiter_36 : decode cX4_firstWaiter 36 = .ok (.iload_n 1, 1) := dk_27 (by decide +kernel)
theorem dX4_firstWaiter_37 : decode cX4_firstWaiter 37 = .ok (.iaload, 1) := dk_46 (by decide +kernel)
theorem dX4_firstWaiter_38 : decode cX4_firstWaiter 38 = .ok (.if_icmp .ge 5, 3) := dk_162 (x := 0) (y := 5) (by decide +kernel) rfl
theorem dX4_firstWaiter_41 : decode cX4_firstWaiter 41 = .ok (.iload_n 2, 1) := dk_28 (by decide +kernel)
theorem dX4_firstWaiter_42 : decode cX4_firstWaiter 42 = .ok (.istore_n 1, 1) := dk_60 (by decide +kernel)
theorem dX4_firstWaiter_43 : decode cX4_firstWaiter 43 = .ok (.iinc 2 1, 3) := dk_132 (x := 2) (y := 1) (by decide +kernel) rfl
theorem dX4_firstWaiter_46 : decode cX4_firstWaiter 46 = .ok (.goto (-42), 3) := dk_167 (x := 255) (y := 214) (by decide +kernel) rfl
theorem dX4_firstWaiter_49 : decode cX4_firstWaiter 49 = .ok (.iload_n 1, 1) := dk_27 (by decide +kernel)
theorem dX4_firstWaiter_50 : decode cX4_firstWaiter 50 = .ok (.ireturn, 1) := dk_172 (by decide +kernel)
def f_X4_firstWaiter_4 (M : Mem) : Nat → Nat → Int32 → Int32 → Option Int32
  | 0, _, _, _ => none
  | n + 1, v0, v1, v2 =>
    if (16 : Int32) ≤ v2 then (
      some v1
      ) else (
      chk (isO M 4 v0) <|
      obd (f_X9_has (mI M v0 9) v2 M) fun r5 =>
      if r5 = 0 then (
        bnd (v2 + (1 : Int32)) fun x8 =>
        f_X4_firstWaiter_4 M n v0 v1 x8
        ) else (
        if v1 = (-1 : Int32) then (
          bnd (v2 + (1 : Int32)) fun x12 =>
          f_X4_firstWaiter_4 M n v0 v2 x12
          ) else (
          bnd (mR M v0 10) fun o14 =>
          chk (isO M 100 o14) <|
          chk (inB v2 (mLn M o14)) <|
          bnd (mR M v0 10) fun o18 =>
          chk (isO M 100 o18) <|
          chk (inB v1 (mLn M o18)) <|
          if (mI M o18 (v1).toNatClampNeg) ≤ (mI M o14 (v2).toNatClampNeg) then (
            bnd (v2 + (1 : Int32)) fun x24 =>
            f_X4_firstWaiter_4 M n v0 v1 x24
            ) else (
            bnd (v2 + (1 : Int32)) fun x26 =>
            f_X4_firstWaiter_4 M n v0 v2 x26
            )
          )
        )
      )
def f_X4_firstWaiter (n : Nat) (o : Nat) (M : Mem) : Option Int32 :=
  f_X4_firstWaiter_4 M n o (-1 : Int32) (0 : Int32)
theorem cd_X4_firstWaiter : (yX4_firstWaiter.cls ≠ "java/lang/invoke/MethodHandle" ∧ yX4_firstWaiter.cls ≠ "java/lang/invoke/VarHandle") ∧ (parseMethodDescriptor yX4_firstWaiter.desc).map (fun d => d.parameters.length) = some 0 := ⟨⟨by decide +kernel, by decide +kernel⟩, by decide +kernel⟩
section
variable {p : Program} {l : Launch} {e : Env} {R : Room} {s : State} {m : MethodId} {args : Array Value} {below : List Frame} {meth : Method} {c : Code} {G : Gam} {M0 : Mem}
theorem l_X4_firstWaiter_4 {M : Mem} {rv : Int32} (X : Cx p R s m args c G M0 cX4_firstWaiter yX4_firstWaiter.cls 3 1 21) (hr : meth.sig.returnType = (some .int)) (hlk : meth.locks = false) (hnm : meth.name = "firstWaiter") : ∀ {n : Nat} (v0 : Nat) (v1 : Int32) (v2 : Int32), f_X4_firstWaiter_4 M n v0 v1 v2 = some rv → Sg p l e R s m args below meth c (Qm below G args s (some (.int rv)) M0 M) G M0 3 4 [(0, .ref (gB G + v0)), (1, .int v1), (2, .int v2)] [] M := by
  intro n
  induction n with
  | zero => intro v0 v1 v2 hf; exact (pk_none hf).elim
  | succ n ih =>
    intro v0 v1 v2 hf
    rw [f_X4_firstWaiter_4] at hf
    refine s_iload_n X 2 dX4_firstWaiter_4 rfl rfl ?_
    refine s_bipush X (v := (16 : Int32)) dX4_firstWaiter_5 rfl ?_
    have hs1 := pk_ite hf
    clear hf
    refine s_icmp_ge X (tgt := 49) dX4_firstWaiter_7 rfl (fun c2 => ?_) (fun c2 => ?_)
    · have hf := hs1.1 c2
      refine s_iload_n X 1 dX4_firstWaiter_49 rfl rfl ?_
      cases hf
      exact s_iret X hr hlk dX4_firstWaiter_50
    · have hf := hs1.2 c2
      refine s_aload_n X 0 dX4_firstWaiter_10 rfl rfl ?_
      obtain ⟨h3, hf⟩ := pk_chk hf
      refine s_getI X (ci := 4) (k := 9) rfl (Nat.le_of_ble_eq_true rfl) h3 wd361 (fun _ _ _ => rfl) dX4_firstWaiter_11 ?_
      refine s_iload_n X 2 dX4_firstWaiter_14 rfl rfl ?_
      obtain ⟨r5, hc4, hf⟩ := pk_obd hf
      refine s_callSN X (k_X9_has G hc4) (host := "QuorumGate") ns_9 wd712 wd713 wd126 cd_X9_has ⟨Nat.le_of_ble_eq_true rfl, Nat.le_of_ble_eq_true rfl⟩ (Nat.le_of_ble_eq_true rfl) dX4_firstWaiter_15 ?_
      have hs6 := pk_ite hf
      clear hf
      refine s_if_eq X (tgt := 43) dX4_firstWaiter_18 rfl (fun c7 => ?_) (fun c7 => ?_)
      · have hf := hs6.1 c7
        obtain ⟨x8, e9, hf⟩ := pk_bnd hf
        refine s_iinc X (vs' := [(0, .ref (gB G + v0)), (1, .int v1), (2, .int x8)]) 2 dX4_firstWaiter_43 rfl (v := x8) e9.symm (Nat.le_of_ble_eq_true rfl) [1, 2, 0] rfl ?_
        refine s_goto X (tgt := 4) dX4_firstWaiter_46 rfl ?_
        exact ih _ _ _ hf
      · have hf := hs6.2 c7
        refine s_iload_n X 1 dX4_firstWaiter_21 rfl rfl ?_
        refine s_iconst X (v := (-1 : Int32)) dX4_firstWaiter_22 rfl ?_
        have hs10 := pk_ite hf
        clear hf
        refine s_icmp_eq X (tgt := 41) dX4_firstWaiter_23 rfl (fun c11 => ?_) (fun c11 => ?_)
        · have hf := hs10.1 c11
          refine s_iload_n X 2 dX4_firstWaiter_41 rfl rfl ?_
          refine s_istore_n X (vs' := [(0, .ref (gB G + v0)), (1, .int v2), (2, .int v2)]) dX4_firstWaiter_42 rfl (Nat.le_of_ble_eq_true rfl) [1, 0, 2] rfl ?_
          obtain ⟨x12, e13, hf⟩ := pk_bnd hf
          refine s_iinc X (vs' := [(0, .ref (gB G + v0)), (1, .int v2), (2, .int x12)]) 2 dX4_firstWaiter_43 rfl (v := x12) e13.symm (Nat.le_of_ble_eq_true rfl) [1, 2, 0] rfl ?_
          refine s_goto X (tgt := 4) dX4_firstWaiter_46 rfl ?_
          exact ih _ _ _ hf
        · have hf := hs10.2 c11
          refine s_aload_n X 0 dX4_firstWaiter_26 rfl rfl ?_
          obtain ⟨o14, e15, hf⟩ := pk_bnd hf
          obtain ⟨h16, hf⟩ := pk_chk hf
          refine s_getR X (ci := 4) (k := 10) rfl (Nat.le_of_ble_eq_true rfl) h3 wd365 (fun _ _ _ => rfl) (e15 ▸ h16) dX4_firstWaiter_27 (e15 ▸ ?_)
          refine s_iload_n X 2 dX4_firstWaiter_30 rfl rfl ?_
          obtain ⟨h17, hf⟩ := pk_chk hf
          refine s_iald X h16 h17 dX4_firstWaiter_31 ?_
          refine s_aload_n X 0 dX4_firstWaiter_32 rfl rfl ?_
          obtain ⟨o18, e19, hf⟩ := pk_bnd hf
          obtain ⟨h20, hf⟩ := pk_chk hf
          refine s_getR X (ci := 4) (k := 10) rfl (Nat.le_of_ble_eq_true rfl) h3 wd365 (fun _ _ _ => rfl) (e19 ▸ h20) dX4_firstWaiter_33 (e19 ▸ ?_)
          refine s_iload_n X 1 dX4_firstWaiter_36 rfl rfl ?_
          obtain ⟨h21, hf⟩ := pk_chk hf
          refine s_iald X h20 h21 dX4_firstWaiter_37 ?_
          have hs22 := pk_ite hf
          clear hf
          refine s_icmp_ge X (tgt := 43) dX4_firstWaiter_38 rfl (fun c23 => ?_) (fun c23 => ?_)
          · have hf := hs22.1 c23
            obtain ⟨x24, e25, hf⟩ := pk_bnd hf
            refine s_iinc X (vs' := [(0, .ref (gB G + v0)), (1, .int v1), (2, .int x24)]) 2 dX4_firstWaiter_43 rfl (v := x24) e25.symm (Nat.le_of_ble_eq_true rfl) [1, 2, 0] rfl ?_
            refine s_goto X (tgt := 4) dX4_firstWaiter_46 rfl ?_
            exact ih _ _ _ hf
          · have hf := hs22.2 c23
            refine s_iload_n X 2 dX4_firstWaiter_41 rfl rfl ?_
            refine s_istore_n X (vs' := [(0, .ref (gB G + v0)), (1, .int v2), (2, .int v2)]) dX4_firstWaiter_42 rfl (Nat.le_of_ble_eq_true rfl) [1, 0, 2] rfl ?_
            obtain ⟨x26, e27, hf⟩ := pk_bnd hf
            refine s_iinc X (vs' := [(0, .ref (gB G + v0)), (1, .int v2), (2, .int x26)]) 2 dX4_firstWaiter_43 rfl (v := x26) e27.symm (Nat.le_of_ble_eq_true rfl) [1, 2, 0] rfl ?_
            refine s_goto X (tgt := 4) dX4_firstWaiter_46 rfl ?_
            exact ih _ _ _ hf
end
theorem k_X4_firstWaiter (G : Gam) {n : Nat} {o : Nat} {M : Mem} {rv : Int32} (hf : f_X4_firstWaiter n o M = some rv) : Kt yX4_firstWaiter cX4_firstWaiter 3 (some .int) 1 21 G [.ref (gB G + o)] M M (some (.int rv)) := by
  refine Kt.of (by decide) (Nat.le_of_ble_eq_true rfl) ?_
  intro p l e R s m args below meth c X hr hlk hnm
  refine s_drop [0] (vs' := [(0, .ref (gB G + o))]) rfl ?_
  rw [f_X4_firstWaiter] at hf
  refine s_iconst X (v := (-1 : Int32)) dX4_firstWaiter_0 rfl ?_
  refine s_istore_n X (vs' := [(0, .ref (gB G + o)), (1, .int (-1 : Int32))]) dX4_firstWaiter_1 rfl (Nat.le_of_ble_eq_true rfl) [1, 0] rfl ?_
  refine s_iconst X (v := (0 : Int32)) dX4_firstWaiter_2 rfl ?_
  refine s_istore_n X (vs' := [(0, .ref (gB G + o)), (1, .int (-1 : Int32)), (2, .int (0 : Int32))]) dX4_firstWaiter_3 rfl (Nat.le_of_ble_eq_true rfl) [1, 2, 0] rfl ?_
  exact l_X4_firstWaiter_4 X hr hlk hnm _ _ _ hf
theorem dX4_letWait_0 : decode cX4_letWait 0 = .ok (.aload_n 0, 1) := dk_42 (by decide +kernel)
theorem dX4_letWait_1 : decode cX4_letWait 1 = .ok (.dup, 1) := dk_89 (by decide +kernel)
theorem dX4_letWait_2 : decode cX4_letWait 2 = .ok (.getfield 64, 3) := dk_180 (x := 0) (y := 64) (by decide +kernel) rfl
theorem dX4_letWait_5 : decode cX4_letWait 5 = .ok (.iconst 1, 1) := dk_4 (by decide +kernel)
theorem dX4_letWait_6 : decode cX4_letWait 6 = .ok (.iload_n 1, 1) := dk_27 (by decide +kernel)
theorem dX4_letWait_7 : decode cX4_letWait 7 = .ok (.ishl, 1) := dk_120 (by decide +kernel)
theorem dX4_letWait_8 : decode cX4_letWait 8 = .ok (.ior, 1) := dk_128 (by decide +kernel)
theorem dX4_letWait_9 : decode cX4_letWait 9 = .ok (.putfield 64, 3) := dk_181 (x := 0) (y := 64) (by decide +kernel) rfl
theorem dX4_letWait_12 : decode cX4_letWait 12 = .ok (.aload_n 0, 1) := dk_42 (by decide +kernel)
theorem dX4_letWait_13 : decode cX4_letWait 13 = .ok (.getfield 18, 3) := dk_180 (x := 0) (y := 18) (by decide +kernel) rfl
theorem dX4_letWait_16 : decode cX4_letWait 16 = .ok (.iload_n 1, 1) := dk_27 (by decide +kernel)
theorem dX4_letWait_17 : decode cX4_letWait 17 = .ok (.iload_n 2, 1) := dk_28 (by decide +kernel)
theorem dX4_letWait_18 : decode cX4_letWait 18 = .ok (.iastore, 1) := dk_79 (by decide +kernel)
theorem dX4_letWait_19 : decode cX4_letWait 19 = .ok (.return_, 1) := dk_177 (by decide +kernel)
def f_X4_letWait (o : Nat) (a1 : Int32) (a2 : Int32) (M : Mem) : Option Mem :=
  chk (isO M 4 o) <|
  bnd (sI M o 9 ((mI M o 9) ||| ((1 : Int32) <<< (a1 &&& 31)))) fun M2 =>
  bnd (mR M2 o 10) fun o5 =>
  chk (isO M2 100 o5) <|
  chk (inB a1 (mLn M2 o5)) <|
  bnd (sI M2 o5 (a1).toNatClampNeg a2) fun M9 =>
  some M9
theorem cd_X4_letWait : (yX4_letWait.cls ≠ "java/lang/invoke/MethodHandle" ∧ yX4_letWait.cls ≠ "java/lang/invoke/VarHandle") ∧ (parseMethodDescriptor yX4_letWait.desc).map (fun d => d.parameters.length) = some 2 := ⟨⟨by decide +kernel, by decide +kernel⟩, by decide +kernel⟩
theorem k_X4_letWait (G : Gam) {o : Nat} {a1 : Int32} {a2 : Int32} {M : Mem} {rv : Mem} (hf : f_X4_letWait o a1 a2 M = some rv) : Kt yX4_letWait cX4_letWait 3 none 0 0 G [.ref (gB G + o), .int a1, .int a2] M rv none := by
  refine Kt.of (by decide) (Nat.le_of_ble_eq_true rfl) ?_
  intro p l e R s m args below meth c X hr hlk hnm
  refine s_drop [0, 1, 2] (vs' := [(0, .ref (gB G + o)), (1, .int a1), (2, .int a2)]) rfl ?_
  rw [f_X4_letWait] at hf
  refine s_aload_n X 0 dX4_letWait_0 rfl rfl ?_
  refine s_dup X dX4_letWait_1 rfl ?_
  obtain ⟨h1, hf⟩ := pk_chk hf
  refine s_getI X (ci := 4) (k := 9) rfl (Nat.le_of_ble_eq_true rfl) h1 wd361 (fun _ _ _ => rfl) dX4_letWait_2 ?_
  refine s_iconst X (v := (1 : Int32)) dX4_letWait_5 rfl ?_
  refine s_iload_n X 1 dX4_letWait_6 rfl rfl ?_
  refine s_ishl X dX4_letWait_7 ?_
  refine s_ior X dX4_letWait_8 ?_
  obtain ⟨M2, e3, hf⟩ := pk_bnd hf
  refine s_putI X (ci := 4) (k := 9) rfl (Nat.le_of_ble_eq_true rfl) h1 wd361 (fun _ _ _ => rfl) rfl rfl e3 dX4_letWait_9 ?_
  have h4 := io_sI e3 h1
  refine s_aload_n X 0 dX4_letWait_12 rfl rfl ?_
  obtain ⟨o5, e6, hf⟩ := pk_bnd hf
  obtain ⟨h7, hf⟩ := pk_chk hf
  refine s_getR X (ci := 4) (k := 10) rfl (Nat.le_of_ble_eq_true rfl) h4 wd365 (fun _ _ _ => rfl) (e6 ▸ h7) dX4_letWait_13 (e6 ▸ ?_)
  refine s_iload_n X 1 dX4_letWait_16 rfl rfl ?_
  refine s_iload_n X 2 dX4_letWait_17 rfl rfl ?_
  obtain ⟨h8, hf⟩ := pk_chk hf
  obtain ⟨M9, e10, hf⟩ := pk_bnd hf
  refine s_iast X h7 h8 e10 dX4_letWait_18 ?_
  have h11 := io_sI e10 h4
  have h12 := io_sI e10 h7
  cases hf
  exact s_vret X hr hlk dX4_letWait_19
theorem dX2_grantFirst_0 : decode cX2_grantFirst 0 = .ok (.aload_n 0, 1) := dk_42 (by decide +kernel)
theorem dX2_grantFirst_1 : decode cX2_grantFirst 1 = .ok (.getfield 20, 3) := dk_180 (x := 0) (y := 20) (by decide +kernel) rfl
theorem dX2_grantFirst_4 : decode cX2_grantFirst 4 = .ok (.iload_n 1, 1) := dk_27 (by decide +kernel)
theorem dX2_grantFirst_5 : decode cX2_grantFirst 5 = .ok (.aaload, 1) := dk_50 (by decide +kernel)
theorem dX2_grantFirst_6 : decode cX2_grantFirst 6 = .ok (.astore_n 2, 1) := dk_77 (by decide +kernel)
theorem dX2_grantFirst_7 : decode cX2_grantFirst 7 = .ok (.aload_n 2, 1) := dk_44 (by decide +kernel)
theorem dX2_grantFirst_8 : decode cX2_grantFirst 8 = .ok (.invokevirtual 224, 3) := dk_182 (x := 0) (y := 224) (by decide +kernel) rfl
theorem dX2_grantFirst_11 : decode cX2_grantFirst 11 = .ok (.istore_n 3, 1) := dk_62 (by decide +kernel)
theorem dX2_grantFirst_12 : decode cX2_grantFirst 12 = .ok (.iload_n 3, 1) := dk_29 (by decide +kernel)
theorem dX2_grantFirst_13 : decode cX2_grantFirst 13 = .ok (.iconst (-1), 1) := dk_2 (by decide +kernel)
theorem dX2_grantFirst_14 : decode cX2_grantFirst 14 = .ok (.if_icmp .ne 4, 3) := dk_160 (x := 0) (y := 4) (by decide +kernel) rfl
theorem dX2_grantFirst_17 : decode cX2_grantFirst 17 = .ok (.return_, 1) := dk_177 (by decide +kernel)
theorem dX2_grantFirst_18 : decode cX2_grantFirst 18 = .ok (.aload_n 2, 1) := dk_44 (by decide +kernel)
theorem dX2_grantFirst_19 : decode cX2_grantFirst 19 = .ok (.dup, 1) := dk_89 (by decide +kernel)
theorem dX2_grantFirst_20 : decode cX2_grantFirst 20 = .ok (.getfield 167, 3) := dk_180 (x := 0) (y := 167) (by decide +kernel) rfl
theorem dX2_grantFirst_23 : decode cX2_grantFirst 23 = .ok (.iconst 1, 1) := dk_4 (by decide +kernel)
theorem dX2_grantFirst_24 : decode cX2_grantFirst 24 = .ok (.iload_n 3, 1) := dk_29 (by decide +kernel)
theorem dX2_grantFirst_25 : decode cX2_grantFirst 25 = .ok (.ishl, 1) := dk_120 (by decide +kernel)
theorem dX2_grantFirst_26 : decode cX2_grantFirst 26 = .ok (.iconst (-1), 1) := dk_2 (by decide +kernel)
theorem dX2_grantFirst_27 : decode cX2_grantFirst 27 = .ok (.ixor, 1) := dk_130 (by decide +kernel)
theorem dX2_grantFirst_28 : decode cX2_grantFirst 28 = .ok (.iand, 1) := dk_126 (by decide +kernel)
theorem dX2_grantFirst_29 : decode cX2_grantFirst 29 = .ok (.putfield 167, 3) := dk_181 (x := 0) (y := 167) (by decide +kernel) rfl
theorem dX2_grantFirst_32 : decode cX2_grantFirst 32 = .ok (.aload_n 2, 1) := dk_44 (by decide +kernel)
theorem dX2_grantFirst_33 : decode cX2_grantFirst 33 = .ok (.iload_n 3, 1) := dk_29 (by decide +kernel)
theorem dX2_grantFirst_34 : decode cX2_grantFirst 34 = .ok (.putfield 170, 3) := dk_181 (x := 0) (y := 170) (by decide +kernel) rfl
theorem dX2_grantFirst_37 : decode cX2_grantFirst 37 = .ok (.aload_n 2, 1) := dk_44 (by decide +kernel)
theorem dX2_grantFirst_38 : decode cX2_grantFirst 38 = .ok (.aload_n 2, 1) := dk_44 (by decide +kernel)
theorem dX2_grantFirst_39 : decode cX2_grantFirst 39 = .ok (.getfield 234, 3) := dk_180 (x := 0) (y := 234) (by decide +kernel) rfl
theorem dX2_grantFirst_42 : decode cX2_grantFirst 42 = .ok (.iload_n 3, 1) := dk_29 (by decide +kernel)
theorem dX2_grantFirst_43 : decode cX2_grantFirst 43 = .ok (.iaload, 1) := dk_46 (by decide +kernel)
theorem dX2_grantFirst_44 : decode cX2_grantFirst 44 = .ok (.putfield 241, 3) := dk_181 (x := 0) (y := 241) (by decide +kernel) rfl
theorem dX2_grantFirst_47 : decode cX2_grantFirst 47 = .ok (.aload_n 2, 1) := dk_44 (by decide +kernel)
theorem dX2_grantFirst_48 : decode cX2_grantFirst 48 = .ok (.iconst 0, 1) := dk_3 (by decide +kernel)
theorem dX2_grantFirst_49 : decode cX2_grantFirst 49 = .ok (.putfield 237, 3) := dk_181 (x := 0) (y := 237) (by decide +kernel) rfl
theorem dX2_grantFirst_52 : decode cX2_grantFirst 52 = .ok (.aload_n 0, 1) := dk_42 (by decide +kernel)
theorem dX2_grantFirst_53 : decode cX2_grantFirst 53 = .ok (.getfield 12, 3) := dk_180 (x := 0) (y := 12) (by decide +kernel) rfl
theorem dX2_grantFirst_56 : decode cX2_grantFirst 56 = .ok (.iconst 1, 1) := dk_4 (by decide +kernel)
theorem dX2_grantFirst_57 : decode cX2_grantFirst 57 = .ok (.iload_n 1, 1) := dk_27 (by decide +kernel)
theorem dX2_grantFirst_58 : decode cX2_grantFirst 58 = .ok (.iload_n 3, 1) := dk_29 (by decide +kernel)
theorem dX2_grantFirst_59 : decode cX2_grantFirst 59 = .ok (.aload_n 2, 1) := dk_44 (by decide +kernel)
theorem dX2_grantFirst_60 : decode cX2_grantFirst 60 = .ok (.getfield 241, 3) := dk_180 (x := 0) (y := 241) (by decide +kernel) rfl
theorem dX2_grantFirst_63 : decode cX2_grantFirst 63 = .ok (.invokevirtual 147, 3) := dk_182 (x := 0) (y := 147) (by decide +kernel) rfl
theorem dX2_grantFirst_66 : decode cX2_grantFirst 66 = .ok (.return_, 1) := dk_177 (by decide +kernel)
def f_X2_grantFirst (n : Nat) (o : Nat) (a1 : Int32) (M : Mem) : Option Mem :=
  chk (isO M 2 o) <|
  bnd (mR M o 2) fun o2 =>
  chk (isO M 102 o2) <|
  chk (inB a1 (mLn M o2)) <|
  bnd (mR M o2 (a1).toNatClampNeg) fun o6 =>
  chk (isO M 4 o6) <|
  obd (f_X4_firstWaiter n o6 M) fun r10 =>
  if r10 = (-1 : Int32) then (
    some M
    ) else (
    bnd (sI M o6 9 ((mI M o6 9) &&& (((1 : Int32) <<< (r10 &&& 31)) ^^^ (-1 : Int32)))) fun M13 =>
    bnd (sI M13 o6 6 r10) fun M18 =>
    bnd (mR M18 o6 10) fun o23 =>
    chk (isO M18 100 o23) <|
    chk (inB r10 (mLn M18 o23)) <|
    bnd (sI M18 o6 7 (mI M18 o23 (r10).toNatClampNeg)) fun M27 =>
    chk (bz (0 : Int32)) <|
    bnd (sI M27 o6 8 (0 : Int32)) fun M33 =>
    bnd (mR M33 o 1) fun o40 =>
    chk (isO M33 5 o40) <|
    obd (f_X5_put o40 (1 : Int32) a1 r10 (mI M33 o6 7) M33) fun M44 =>
    some M44
    )
theorem cd_X2_grantFirst : (yX2_grantFirst.cls ≠ "java/lang/invoke/MethodHandle" ∧ yX2_grantFirst.cls ≠ "java/lang/invoke/VarHandle") ∧ (parseMethodDescriptor yX2_grantFirst.desc).map (fun d => d.parameters.length) = some 1 := ⟨⟨by decide +kernel, by decide +kernel⟩, by decide +kernel⟩
theorem k_X2_grantFirst (G : Gam) {n : Nat} {o : Nat} {a1 : Int32} {M : Mem} {rv : Mem} (hf : f_X2_grantFirst n o a1 M = some rv) : Kt yX2_grantFirst cX2_grantFirst 4 none 3 76 G [.ref (gB G + o), .int a1] M rv none := by
  refine Kt.of (by decide) (Nat.le_of_ble_eq_true rfl) ?_
  intro p l e R s m args below meth c X hr hlk hnm
  refine s_drop [0, 1] (vs' := [(0, .ref (gB G + o)), (1, .int a1)]) rfl ?_
  rw [f_X2_grantFirst] at hf
  refine s_aload_n X 0 dX2_grantFirst_0 rfl rfl ?_
  obtain ⟨h1, hf⟩ := pk_chk hf
  obtain ⟨o2, e3, hf⟩ := pk_bnd hf
  obtain ⟨h4, hf⟩ := pk_chk hf
  refine s_getR X (ci := 2) (k := 2) rfl (Nat.le_of_ble_eq_true rfl) h1 wd423 (fun _ _ _ => rfl) (e3 ▸ h4) dX2_grantFirst_1 (e3 ▸ ?_)
  refine s_iload_n X 1 dX2_grantFirst_4 rfl rfl ?_
  obtain ⟨h5, hf⟩ := pk_chk hf
  obtain ⟨o6, e7, hf⟩ := pk_bnd hf
  obtain ⟨h8, hf⟩ := pk_chk hf
  refine s_aald X h4 h5 (e7 ▸ h8) dX2_grantFirst_5 (e7 ▸ ?_)
  refine s_astore_n X (vs' := [(0, .ref (gB G + o)), (1, .int a1), (2, .ref (gB G + o6))]) dX2_grantFirst_6 rfl (Nat.le_of_ble_eq_true rfl) [1, 2, 0] rfl ?_
  refine s_aload_n X 2 dX2_grantFirst_7 rfl rfl ?_
  obtain ⟨r10, hc9, hf⟩ := pk_obd hf
  refine s_callV X (ci := 4) (k_X4_firstWaiter G hc9) rfl h8 wd1007 wd1008 wd1009 wd1010 wd133 cd_X4_firstWaiter ⟨Nat.le_of_ble_eq_true rfl, Nat.le_of_ble_eq_true rfl⟩ (Nat.le_of_ble_eq_true rfl) dX2_grantFirst_8 ?_
  refine s_istore_n X (vs' := [(0, .ref (gB G + o)), (1, .int a1), (2, .ref (gB G + o6)), (3, .int r10)]) dX2_grantFirst_11 rfl (Nat.le_of_ble_eq_true rfl) [1, 2, 3, 0] rfl ?_
  refine s_iload_n X 3 dX2_grantFirst_12 rfl rfl ?_
  refine s_iconst X (v := (-1 : Int32)) dX2_grantFirst_13 rfl ?_
  have hs11 := pk_ite hf
  clear hf
  refine s_icmp_ne X (tgt := 18) dX2_grantFirst_14 rfl (fun c12 => ?_) (fun c12 => ?_)
  · have hf := hs11.2 c12
    refine s_aload_n X 2 dX2_grantFirst_18 rfl rfl ?_
    refine s_dup X dX2_grantFirst_19 rfl ?_
    refine s_getI X (ci := 4) (k := 9) rfl (Nat.le_of_ble_eq_true rfl) h8 wd363 (fun _ _ _ => rfl) dX2_grantFirst_20 ?_
    refine s_iconst X (v := (1 : Int32)) dX2_grantFirst_23 rfl ?_
    refine s_iload_n X 3 dX2_grantFirst_24 rfl rfl ?_
    refine s_ishl X dX2_grantFirst_25 ?_
    refine s_iconst X (v := (-1 : Int32)) dX2_grantFirst_26 rfl ?_
    refine s_ixor X dX2_grantFirst_27 ?_
    refine s_iand X dX2_grantFirst_28 ?_
    obtain ⟨M13, e14, hf⟩ := pk_bnd hf
    refine s_putI X (ci := 4) (k := 9) rfl (Nat.le_of_ble_eq_true rfl) h8 wd363 (fun _ _ _ => rfl) rfl rfl e14 dX2_grantFirst_29 ?_
    have h15 := io_sI e14 h1
    have h16 := io_sI e14 h4
    have h17 := io_sI e14 h8
    refine s_aload_n X 2 dX2_grantFirst_32 rfl rfl ?_
    refine s_iload_n X 3 dX2_grantFirst_33 rfl rfl ?_
    obtain ⟨M18, e19, hf⟩ := pk_bnd hf
    refine s_putI X (ci := 4) (k := 6) rfl (Nat.le_of_ble_eq_true rfl) h17 wd351 (fun _ _ _ => rfl) rfl rfl e19 dX2_grantFirst_34 ?_
    have h20 := io_sI e19 h15
    have h21 := io_sI e19 h16
    have h22 := io_sI e19 h17
    refine s_aload_n X 2 dX2_grantFirst_37 rfl rfl ?_
    refine s_aload_n X 2 dX2_grantFirst_38 rfl rfl ?_
    obtain ⟨o23, e24, hf⟩ := pk_bnd hf
    obtain ⟨h25, hf⟩ := pk_chk hf
    refine s_getR X (ci := 4) (k := 10) rfl (Nat.le_of_ble_eq_true rfl) h22 wd367 (fun _ _ _ => rfl) (e24 ▸ h25) dX2_grantFirst_39 (e24 ▸ ?_)
    refine s_iload_n X 3 dX2_grantFirst_42 rfl rfl ?_
    obtain ⟨h26, hf⟩ := pk_chk hf
    refine s_iald X h25 h26 dX2_grantFirst_43 ?_
    obtain ⟨M27, e28, hf⟩ := pk_bnd hf
    refine s_putI X (ci := 4) (k := 7) rfl (Nat.le_of_ble_eq_true rfl) h22 wd355 (fun _ _ _ => rfl) rfl rfl e28 dX2_grantFirst_44 ?_
    have h29 := io_sI e28 h20
    have h30 := io_sI e28 h21
    have h31 := io_sI e28 h22
    have h32 := io_sI e28 h25
    refine s_aload_n X 2 dX2_grantFirst_47 rfl rfl ?_
    refine s_iconst X (v := (0 : Int32)) dX2_grantFirst_48 rfl ?_
    obtain ⟨h35, hf⟩ := pk_chk hf
    obtain ⟨M33, e34, hf⟩ := pk_bnd hf
    refine s_putZ X (ci := 4) (k := 8) rfl (Nat.le_of_ble_eq_true rfl) h31 wd359 (fun _ _ _ => rfl) rfl (bz_n h35) (bz_f h35) rfl e34 dX2_grantFirst_49 ?_
    have h36 := io_sI e34 h29
    have h37 := io_sI e34 h30
    have h38 := io_sI e34 h31
    have h39 := io_sI e34 h32
    refine s_aload_n X 0 dX2_grantFirst_52 rfl rfl ?_
    obtain ⟨o40, e41, hf⟩ := pk_bnd hf
    obtain ⟨h42, hf⟩ := pk_chk hf
    refine s_getR X (ci := 2) (k := 1) rfl (Nat.le_of_ble_eq_true rfl) h36 wd419 (fun _ _ _ => rfl) (e41 ▸ h42) dX2_grantFirst_53 (e41 ▸ ?_)
    refine s_iconst X (v := (1 : Int32)) dX2_grantFirst_56 rfl ?_
    refine s_iload_n X 1 dX2_grantFirst_57 rfl rfl ?_
    refine s_iload_n X 3 dX2_grantFirst_58 rfl rfl ?_
    refine s_aload_n X 2 dX2_grantFirst_59 rfl rfl ?_
    refine s_getI X (ci := 4) (k := 7) rfl (Nat.le_of_ble_eq_true rfl) h38 wd355 (fun _ _ _ => rfl) dX2_grantFirst_60 ?_
    obtain ⟨M44, hc43, hf⟩ := pk_obd hf
    refine s_callV X (ci := 5) (k_X5_put G hc43) rfl h42 wd945 wd946 wd947 wd948 wd131 cd_X5_put ⟨Nat.le_of_ble_eq_true rfl, Nat.le_of_ble_eq_true rfl⟩ (Nat.le_of_ble_eq_true rfl) dX2_grantFirst_63 ?_
    cases hf
    exact s_vret X hr hlk dX2_grantFirst_66
  · have hf := hs11.1 c12
    cases hf
    exact s_vret X hr hlk dX2_grantFirst_17
theorem dX9_isAhead_0 : decode cX9_isAhead 0 = .ok (.iload_n 0, 1) := dk_26 (by decide +kernel)
theorem dX9_isAhead_1 : decode cX9_isAhead 1 = .ok (.iload_n 2, 1) := dk_28 (by decide +kernel)
theorem dX9_isAhead_2 : decode cX9_isAhead 2 = .ok (.if_icmp .lt 13, 3) := dk_161 (x := 0) (y := 13) (by decide +kernel) rfl
theorem dX9_isAhead_5 : decode cX9_isAhead 5 = .ok (.iload_n 0, 1) := dk_26 (by decide +kernel)
theorem dX9_isAhead_6 : decode cX9_isAhead 6 = .ok (.iload_n 2, 1) := dk_28 (by decide +kernel)
theorem dX9_isAhead_7 : decode cX9_isAhead 7 = .ok (.if_icmp .ne 12, 3) := dk_160 (x := 0) (y := 12) (by decide +kernel) rfl
theorem dX9_isAhead_10 : decode cX9_isAhead 10 = .ok (.iload_n 1, 1) := dk_27 (by decide +kernel)
theorem dX9_isAhead_11 : decode cX9_isAhead 11 = .ok (.iload_n 3, 1) := dk_29 (by decide +kernel)
theorem dX9_isAhead_12 : decode cX9_isAhead 12 = .ok (.if_icmp .ge 7, 3) := dk_162 (x := 0) (y := 7) (by decide +kernel) rfl
theorem dX9_isAhead_15 : decode cX9_isAhead 15 = .ok (.iconst 1, 1) := dk_4 (by decide +kernel)
theorem dX9_isAhead_16 : decode cX9_isAhead 16 = .ok (.goto 4, 3) := dk_167 (x := 0) (y := 4) (by decide +kernel) rfl
theorem dX9_isAhead_19 : decode cX9_isAhead 19 = .ok (.iconst 0, 1) := dk_3 (by decide +kernel)
theorem dX9_isAhead_20 : decode cX9_isAhead 20 = .ok (.ireturn, 1) := dk_172 (by decide +kernel)
def f_X9_isAhead (a1 : Int32) (a2 : Int32) (a3 : Int32) (a4 : Int32) (M : Mem) : Option Int32 :=
  if a1 < a3 then (
    some (1 : Int32)
    ) else (
    if a1 = a3 then (
      if a4 ≤ a2 then (
        some (0 : Int32)
        ) else (
        some (1 : Int32)
        )
      ) else (
      some (0 : Int32)
      )
    )
theorem cd_X9_isAhead : (yX9_isAhead.cls ≠ "java/lang/invoke/MethodHandle" ∧ yX9_isAhead.cls ≠ "java/lang/invoke/VarHandle") ∧ (parseMethodDescriptor yX9_isAhead.desc).map (fun d => d.parameters.length) = some 4 := ⟨⟨by decide +kernel, by decide +kernel⟩, by decide +kernel⟩
theorem k_X9_isAhead (G : Gam) {a1 : Int32} {a2 : Int32} {a3 : Int32} {a4 : Int32} {M : Mem} {rv : Int32} (hf : f_X9_isAhead a1 a2 a3 a4 M = some rv) : Kt yX9_isAhead cX9_isAhead 4 (some .boolean) 0 0 G [.int a1, .int a2, .int a3, .int a4] M M (some (.int rv)) := by
  refine Kt.of (by decide) (Nat.le_of_ble_eq_true rfl) ?_
  intro p l e R s m args below meth c X hr hlk hnm
  refine s_drop [0, 1, 2, 3] (vs' := [(0, .int a1), (1, .int a2), (2, .int a3), (3, .int a4)]) rfl ?_
  rw [f_X9_isAhead] at hf
  refine s_iload_n X 0 dX9_isAhead_0 rfl rfl ?_
  refine s_iload_n X 2 dX9_isAhead_1 rfl rfl ?_
  have hs1 := pk_ite hf
  clear hf
  refine s_icmp_lt X (tgt := 15) dX9_isAhead_2 rfl (fun c2 => ?_) (fun c2 => ?_)
  · have hf := hs1.1 c2
    refine s_iconst X (v := (1 : Int32)) dX9_isAhead_15 rfl ?_
    refine s_goto X (tgt := 20) dX9_isAhead_16 rfl ?_
    cases hf
    exact s_zret X hr (bz_n (Or.inr rfl)) hlk dX9_isAhead_20
  · have hf := hs1.2 c2
    refine s_iload_n X 0 dX9_isAhead_5 rfl rfl ?_
    refine s_iload_n X 2 dX9_isAhead_6 rfl rfl ?_
    have hs3 := pk_ite hf
    clear hf
    refine s_icmp_ne X (tgt := 19) dX9_isAhead_7 rfl (fun c4 => ?_) (fun c4 => ?_)
    · have hf := hs3.2 c4
      refine s_iconst X (v := (0 : Int32)) dX9_isAhead_19 rfl ?_
      cases hf
      exact s_zret X hr (bz_n (Or.inl rfl)) hlk dX9_isAhead_20
    · have hf := hs3.1 c4
      refine s_iload_n X 1 dX9_isAhead_10 rfl rfl ?_
      refine s_iload_n X 3 dX9_isAhead_11 rfl rfl ?_
      have hs5 := pk_ite hf
      clear hf
      refine s_icmp_ge X (tgt := 19) dX9_isAhead_12 rfl (fun c6 => ?_) (fun c6 => ?_)
      · have hf := hs5.1 c6
        refine s_iconst X (v := (0 : Int32)) dX9_isAhead_19 rfl ?_
        cases hf
        exact s_zret X hr (bz_n (Or.inl rfl)) hlk dX9_isAhead_20
      · have hf := hs5.2 c6
        refine s_iconst X (v := (1 : Int32)) dX9_isAhead_15 rfl ?_
        refine s_goto X (tgt := 20) dX9_isAhead_16 rfl ?_
        cases hf
        exact s_zret X hr (bz_n (Or.inr rfl)) hlk dX9_isAhead_20
theorem dX4_isAheadOfGranted_0 : decode cX4_isAheadOfGranted 0 = .ok (.aload_n 0, 1) := dk_42 (by decide +kernel)
theorem dX4_isAheadOfGranted_1 : decode cX4_isAheadOfGranted 1 = .ok (.getfield 18, 3) := dk_180 (x := 0) (y := 18) (by decide +kernel) rfl
theorem dX4_isAheadOfGranted_4 : decode cX4_isAheadOfGranted 4 = .ok (.iload_n 1, 1) := dk_27 (by decide +kernel)
theorem dX4_isAheadOfGranted_5 : decode cX4_isAheadOfGranted 5 = .ok (.iaload, 1) := dk_46 (by decide +kernel)
theorem dX4_isAheadOfGranted_6 : decode cX4_isAheadOfGranted 6 = .ok (.iload_n 1, 1) := dk_27 (by decide +kernel)
theorem dX4_isAheadOfGranted_7 : decode cX4_isAheadOfGranted 7 = .ok (.aload_n 0, 1) := dk_42 (by decide +kernel)
theorem dX4_isAheadOfGranted_8 : decode cX4_isAheadOfGranted 8 = .ok (.getfield 15, 3) := dk_180 (x := 0) (y := 15) (by decide +kernel) rfl
theorem dX4_isAheadOfGranted_11 : decode cX4_isAheadOfGranted 11 = .ok (.aload_n 0, 1) := dk_42 (by decide +kernel)
theorem dX4_isAheadOfGranted_12 : decode cX4_isAheadOfGranted 12 = .ok (.getfield 9, 3) := dk_180 (x := 0) (y := 9) (by decide +kernel) rfl
theorem dX4_isAheadOfGranted_15 : decode cX4_isAheadOfGranted 15 = .ok (.invokestatic 81, 3) := dk_184 (x := 0) (y := 81) (by decide +kernel) rfl
theorem dX4_isAheadOfGranted_18 : decode cX4_isAheadOfGranted 18 = .ok (.ireturn, 1) := dk_172 (by decide +kernel)
def f_X4_isAheadOfGranted (o : Nat) (a1 : Int32) (M : Mem) : Option Int32 :=
  chk (isO M 4 o) <|
  bnd (mR M o 10) fun o2 =>
  chk (isO M 100 o2) <|
  chk (inB a1 (mLn M o2)) <|
  obd (f_X9_isAhead (mI M o2 (a1).toNatClampNeg) a1 (mI M o 7) (mI M o 6) M) fun r7 =>
  chk (bz r7) <|
  some r7
theorem cd_X4_isAheadOfGranted : (yX4_isAheadOfGranted.cls ≠ "java/lang/invoke/MethodHandle" ∧ yX4_isAheadOfGranted.cls ≠ "java/lang/invoke/VarHandle") ∧ (parseMethodDescriptor yX4_isAheadOfGranted.desc).map (fun d => d.parameters.length) = some 1 := ⟨⟨by decide +kernel, by decide +kernel⟩, by decide +kernel⟩
theorem k_X4_isAheadOfGranted (G : Gam) {o : Nat} {a1 : Int32} {M : Mem} {rv : Int32} (hf : f_X4_isAheadOfGranted o a1 M = some rv) : Kt yX4_isAheadOfGranted cX4_isAheadOfGranted 2 (some .boolean) 1 23 G [.ref (gB G + o), .int a1] M M (some (.int rv)) := by
  refine Kt.of (by decide) (Nat.le_of_ble_eq_true rfl) ?_
  intro p l e R s m args below meth c X hr hlk hnm
  refine s_drop [0, 1] (vs' := [(0, .ref (gB G + o)), (1, .int a1)]) rfl ?_
  rw [f_X4_isAheadOfGranted] at hf
  refine s_aload_n X 0 dX4_isAheadOfGranted_0 rfl rfl ?_
  obtain ⟨h1, hf⟩ := pk_chk hf
  obtain ⟨o2, e3, hf⟩ := pk_bnd hf
  obtain ⟨h4, hf⟩ := pk_chk hf
  refine s_getR X (ci := 4) (k := 10) rfl (Nat.le_of_ble_eq_true rfl) h1 wd365 (fun _ _ _ => rfl) (e3 ▸ h4) dX4_isAheadOfGranted_1 (e3 ▸ ?_)
  refine s_iload_n X 1 dX4_isAheadOfGranted_4 rfl rfl ?_
  obtain ⟨h5, hf⟩ := pk_chk hf
  refine s_iald X h4 h5 dX4_isAheadOfGranted_5 ?_
  refine s_iload_n X 1 dX4_isAheadOfGranted_6 rfl rfl ?_
  refine s_aload_n X 0 dX4_isAheadOfGranted_7 rfl rfl ?_
  refine s_getI X (ci := 4) (k := 7) rfl (Nat.le_of_ble_eq_true rfl) h1 wd353 (fun _ _ _ => rfl) dX4_isAheadOfGranted_8 ?_
  refine s_aload_n X 0 dX4_isAheadOfGranted_11 rfl rfl ?_
  refine s_getI X (ci := 4) (k := 6) rfl (Nat.le_of_ble_eq_true rfl) h1 wd349 (fun _ _ _ => rfl) dX4_isAheadOfGranted_12 ?_
  obtain ⟨r7, hc6, hf⟩ := pk_obd hf
  refine s_callSN X (k_X9_isAhead G hc6) (host := "QuorumGate") ns_10 wd1025 wd1026 wd126 cd_X9_isAhead ⟨Nat.le_of_ble_eq_true rfl, Nat.le_of_ble_eq_true rfl⟩ (Nat.le_of_ble_eq_true rfl) dX4_isAheadOfGranted_15 ?_
  obtain ⟨h8, hf⟩ := pk_chk hf
  cases hf
  exact s_zret X hr (bz_n h8) hlk dX4_isAheadOfGranted_18
theorem dX2_hearRequest_0 : decode cX2_hearRequest 0 = .ok (.aload_n 0, 1) := dk_42 (by decide +kernel)
theorem dX2_hearRequest_1 : decode cX2_hearRequest 1 = .ok (.getfield 20, 3) := dk_180 (x := 0) (y := 20) (by decide +kernel) rfl
theorem dX2_hearRequest_4 : decode cX2_hearRequest 4 = .ok (.iload_n 2, 1) := dk_28 (by decide +kernel)
theorem dX2_hearRequest_5 : decode cX2_hearRequest 5 = .ok (.aaload, 1) := dk_50 (by decide +kernel)
theorem dX2_hearRequest_6 : decode cX2_hearRequest 6 = .ok (.astore 4, 2) := dk_58 (x := 4) (by decide +kernel)
theorem dX2_hearRequest_8 : decode cX2_hearRequest 8 = .ok (.aload 4, 2) := dk_25 (x := 4) (by decide +kernel)
theorem dX2_hearRequest_10 : decode cX2_hearRequest 10 = .ok (.invokevirtual 224, 3) := dk_182 (x := 0) (y := 224) (by decide +kernel) rfl
theorem dX2_hearRequest_13 : decode cX2_hearRequest 13 = .ok (.istore 5, 2) := dk_54 (x := 5) (by decide +kernel)
theorem dX2_hearRequest_15 : decode cX2_hearRequest 15 = .ok (.aload 4, 2) := dk_25 (x := 4) (by decide +kernel)
theorem dX2_hearRequest_17 : decode cX2_hearRequest 17 = .ok (.iload_n 1, 1) := dk_27 (by decide +kernel)
theorem dX2_hearRequest_18 : decode cX2_hearRequest 18 = .ok (.iload_n 3, 1) := dk_29 (by decide +kernel)
theorem dX2_hearRequest_19 : decode cX2_hearRequest 19 = .ok (.invokevirtual 228, 3) := dk_182 (x := 0) (y := 228) (by decide +kernel) rfl
theorem dX2_hearRequest_22 : decode cX2_hearRequest 22 = .ok (.aload 4, 2) := dk_25 (x := 4) (by decide +kernel)
theorem dX2_hearRequest_24 : decode cX2_hearRequest 24 = .ok (.getfield 170, 3) := dk_180 (x := 0) (y := 170) (by decide +kernel) rfl
theorem dX2_hearRequest_27 : decode cX2_hearRequest 27 = .ok (.iconst (-1), 1) := dk_2 (by decide +kernel)
theorem dX2_hearRequest_28 : decode cX2_hearRequest 28 = .ok (.if_icmp .ne 9, 3) := dk_160 (x := 0) (y := 9) (by decide +kernel) rfl
theorem dX2_hearRequest_31 : decode cX2_hearRequest 31 = .ok (.aload_n 0, 1) := dk_42 (by decide +kernel)
theorem dX2_hearRequest_32 : decode cX2_hearRequest 32 = .ok (.iload_n 2, 1) := dk_28 (by decide +kernel)
theorem dX2_hearRequest_33 : decode cX2_hearRequest 33 = .ok (.invokevirtual 176, 3) := dk_182 (x := 0) (y := 176) (by decide +kernel) rfl
theorem dX2_hearRequest_36 : decode cX2_hearRequest 36 = .ok (.return_, 1) := dk_177 (by decide +kernel)
theorem dX2_hearRequest_37 : decode cX2_hearRequest 37 = .ok (.aload 4, 2) := dk_25 (x := 4) (by decide +kernel)
theorem dX2_hearRequest_39 : decode cX2_hearRequest 39 = .ok (.invokevirtual 224, 3) := dk_182 (x := 0) (y := 224) (by decide +kernel) rfl
theorem dX2_hearRequest_42 : decode cX2_hearRequest 42 = .ok (.iload_n 1, 1) := dk_27 (by decide +kernel)
theorem dX2_hearRequest_43 : decode cX2_hearRequest 43 = .ok (.if_icmp .ne 12, 3) := dk_160 (x := 0) (y := 12) (by decide +kernel) rfl
theorem dX2_hearRequest_46 : decode cX2_hearRequest 46 = .ok (.aload 4, 2) := dk_25 (x := 4) (by decide +kernel)
theorem dX2_hearRequest_48 : decode cX2_hearRequest 48 = .ok (.iload_n 1, 1) := dk_27 (by decide +kernel)
theorem dX2_hearRequest_49 : decode cX2_hearRequest 49 = .ok (.invokevirtual 231, 3) := dk_182 (x := 0) (y := 231) (by decide +kernel) rfl
theorem dX2_hearRequest_52 : decode cX2_hearRequest 52 = .ok (.ifCond .ne 15, 3) := dk_154 (x := 0) (y := 15) (by decide +kernel) rfl
theorem dX2_hearRequest_55 : decode cX2_hearRequest 55 = .ok (.aload_n 0, 1) := dk_42 (by decide +kernel)
theorem dX2_hearRequest_56 : decode cX2_hearRequest 56 = .ok (.getfield 12, 3) := dk_180 (x := 0) (y := 12) (by decide +kernel) rfl
theorem dX2_hearRequest_59 : decode cX2_hearRequest 59 = .ok (.iconst 2, 1) := dk_5 (by decide +kernel)
theorem dX2_hearRequest_60 : decode cX2_hearRequest 60 = .ok (.iload_n 2, 1) := dk_28 (by decide +kernel)
theorem dX2_hearRequest_61 : decode cX2_hearRequest 61 = .ok (.iload_n 1, 1) := dk_27 (by decide +kernel)
theorem dX2_hearRequest_62 : decode cX2_hearRequest 62 = .ok (.iload_n 3, 1) := dk_29 (by decide +kernel)
theorem dX2_hearRequest_63 : decode cX2_hearRequest 63 = .ok (.invokevirtual 147, 3) := dk_182 (x := 0) (y := 147) (by decide +kernel) rfl
theorem dX2_hearRequest_66 : decode cX2_hearRequest 66 = .ok (.return_, 1) := dk_177 (by decide +kernel)
theorem dX2_hearRequest_67 : decode cX2_hearRequest 67 = .ok (.iload 5, 2) := dk_21 (x := 5) (by decide +kernel)
theorem dX2_hearRequest_69 : decode cX2_hearRequest 69 = .ok (.iconst (-1), 1) := dk_2 (by decide +kernel)
theorem dX2_hearRequest_70 : decode cX2_hearRequest 70 = .ok (.if_icmp .eq 32, 3) := dk_159 (x := 0) (y := 32) (by decide +kernel) rfl
theorem dX2_hearRequest_73 : decode cX2_hearRequest 73 = .ok (.aload 4, 2) := dk_25 (x := 4) (by decide +kernel)
theorem dX2_hearRequest_75 : decode cX2_hearRequest 75 = .ok (.iload 5, 2) := dk_21 (x := 5) (by decide +kernel)
theorem dX2_hearRequest_77 : decode cX2_hearRequest 77 = .ok (.invokevirtual 231, 3) := dk_182 (x := 0) (y := 231) (by decide +kernel) rfl
theorem dX2_hearRequest_80 : decode cX2_hearRequest 80 = .ok (.ifCond .eq 22, 3) := dk_153 (x := 0) (y := 22) (by decide +kernel) rfl
theorem dX2_hearRequest_83 : decode cX2_hearRequest 83 = .ok (.aload_n 0, 1) := dk_42 (by decide +kernel)
theorem dX2_hearRequest_84 : decode cX2_hearRequest 84 = .ok (.getfield 12, 3) := dk_180 (x := 0) (y := 12) (by decide +kernel) rfl
theorem dX2_hearRequest_87 : decode cX2_hearRequest 87 = .ok (.iconst 2, 1) := dk_5 (by decide +kernel)
theorem dX2_hearRequest_88 : decode cX2_hearRequest 88 = .ok (.iload_n 2, 1) := dk_28 (by decide +kernel)
theorem dX2_hearRequest_89 : decode cX2_hearRequest 89 = .ok (.iload 5, 2) := dk_21 (x := 5) (by decide +kernel)
theorem dX2_hearRequest_91 : decode cX2_hearRequest 91 = .ok (.aload 4, 2) := dk_25 (x := 4) (by decide +kernel)
theorem dX2_hearRequest_93 : decode cX2_hearRequest 93 = .ok (.getfield 234, 3) := dk_180 (x := 0) (y := 234) (by decide +kernel) rfl
theorem dX2_hearRequest_96 : decode cX2_hearRequest 96 = .ok (.iload 5, 2) := dk_21 (x := 5) (by decide +kernel)
theorem dX2_hearRequest_98 : decode cX2_hearRequest 98 = .ok (.iaload, 1) := dk_46 (by decide +kernel)
theorem dX2_hearRequest_99 : decode cX2_hearRequest 99 = .ok (.invokevirtual 147, 3) := dk_182 (x := 0) (y := 147) (by decide +kernel) rfl
theorem dX2_hearRequest_102 : decode cX2_hearRequest 102 = .ok (.aload 4, 2) := dk_25 (x := 4) (by decide +kernel)
theorem dX2_hearRequest_104 : decode cX2_hearRequest 104 = .ok (.getfield 237, 3) := dk_180 (x := 0) (y := 237) (by decide +kernel) rfl
theorem dX2_hearRequest_107 : decode cX2_hearRequest 107 = .ok (.ifCond .ne 28, 3) := dk_154 (x := 0) (y := 28) (by decide +kernel) rfl
theorem dX2_hearRequest_110 : decode cX2_hearRequest 110 = .ok (.aload 4, 2) := dk_25 (x := 4) (by decide +kernel)
theorem dX2_hearRequest_112 : decode cX2_hearRequest 112 = .ok (.iconst 1, 1) := dk_4 (by decide +kernel)
theorem dX2_hearRequest_113 : decode cX2_hearRequest 113 = .ok (.putfield 237, 3) := dk_181 (x := 0) (y := 237) (by decide +kernel) rfl
theorem dX2_hearRequest_116 : decode cX2_hearRequest 116 = .ok (.aload_n 0, 1) := dk_42 (by decide +kernel)
theorem dX2_hearRequest_117 : decode cX2_hearRequest 117 = .ok (.getfield 12, 3) := dk_180 (x := 0) (y := 12) (by decide +kernel) rfl
theorem dX2_hearRequest_120 : decode cX2_hearRequest 120 = .ok (.iconst 3, 1) := dk_6 (by decide +kernel)
theorem dX2_hearRequest_121 : decode cX2_hearRequest 121 = .ok (.iload_n 2, 1) := dk_28 (by decide +kernel)
theorem dX2_hearRequest_122 : decode cX2_hearRequest 122 = .ok (.aload 4, 2) := dk_25 (x := 4) (by decide +kernel)
theorem dX2_hearRequest_124 : decode cX2_hearRequest 124 = .ok (.getfield 170, 3) := dk_180 (x := 0) (y := 170) (by decide +kernel) rfl
theorem dX2_hearRequest_127 : decode cX2_hearRequest 127 = .ok (.aload 4, 2) := dk_25 (x := 4) (by decide +kernel)
theorem dX2_hearRequest_129 : decode cX2_hearRequest 129 = .ok (.getfield 241, 3) := dk_180 (x := 0) (y := 241) (by decide +kernel) rfl
theorem dX2_hearRequest_132 : decode cX2_hearRequest 132 = .ok (.invokevirtual 147, 3) := dk_182 (x := 0) (y := 147) (by decide +kernel) rfl
theorem dX2_hearRequest_135 : decode cX2_hearRequest 135 = .ok (.return_, 1) := dk_177 (by decide +kernel)
def f_X2_hearRequest_55 (n : Nat) (v0 : Nat) (v1 : Int32) (v2 : Int32) (v3 : Int32) (M : Mem) : Option Mem :=
    chk (isO M 2 v0) <|
    bnd (mR M v0 1) fun o2 =>
    chk (isO M 5 o2) <|
    obd (f_X5_put o2 (2 : Int32) v2 v1 v3 M) fun M6 =>
    some M6
def f_X2_hearRequest_102 (n : Nat) (v0 : Nat) (v2 : Int32) (v4 : Nat) (M : Mem) : Option Mem :=
    chk (isO M 4 v4) <|
    if (mI M v4 8) = 0 then (
      chk (bz (1 : Int32)) <|
      bnd (sI M v4 8 (1 : Int32)) fun M4 =>
      chk (isO M4 2 v0) <|
      bnd (mR M4 v0 1) fun o9 =>
      chk (isO M4 5 o9) <|
      obd (f_X5_put o9 (3 : Int32) v2 (mI M4 v4 6) (mI M4 v4 7) M4) fun M13 =>
      some M13
      ) else (
      some M
      )
def f_X2_hearRequest (n : Nat) (o : Nat) (a1 : Int32) (a2 : Int32) (a3 : Int32) (M : Mem) : Option Mem :=
  chk (isO M 2 o) <|
  bnd (mR M o 2) fun o2 =>
  chk (isO M 102 o2) <|
  chk (inB a2 (mLn M o2)) <|
  bnd (mR M o2 (a2).toNatClampNeg) fun o6 =>
  chk (isO M 4 o6) <|
  obd (f_X4_firstWaiter n o6 M) fun r10 =>
  obd (f_X4_letWait o6 a1 a3 M) fun M12 =>
  chk (isO M12 4 o6) <|
  if (mI M12 o6 6) = (-1 : Int32) then (
    chk (isO M12 2 o) <|
    obd (f_X2_grantFirst n o a2 M12) fun M42 =>
    some M42
    ) else (
    obd (f_X4_firstWaiter n o6 M12) fun r17 =>
    if r17 = a1 then (
      obd (f_X4_isAheadOfGranted o6 a1 M12) fun r21 =>
      if r21 = 0 then (
        f_X2_hearRequest_55 n o a1 a2 a3 M12
        ) else (
        if r10 = (-1 : Int32) then (
          f_X2_hearRequest_102 n o a2 o6 M12
          ) else (
          obd (f_X4_isAheadOfGranted o6 r10 M12) fun r27 =>
          if r27 = 0 then (
            f_X2_hearRequest_102 n o a2 o6 M12
            ) else (
            chk (isO M12 2 o) <|
            bnd (mR M12 o 1) fun o31 =>
            chk (isO M12 5 o31) <|
            bnd (mR M12 o6 10) fun o34 =>
            chk (isO M12 100 o34) <|
            chk (inB r10 (mLn M12 o34)) <|
            obd (f_X5_put o31 (2 : Int32) a2 r10 (mI M12 o34 (r10).toNatClampNeg) M12) fun M39 =>
            f_X2_hearRequest_102 n o a2 o6 M39
            )
          )
        )
      ) else (
      f_X2_hearRequest_55 n o a1 a2 a3 M12
      )
    )
theorem cd_X2_hearRequest : (yX2_hearRequest.cls ≠ "java/lang/invoke/MethodHandle" ∧ yX2_hearRequest.cls ≠ "java/lang/invoke/VarHandle") ∧ (parseMethodDescriptor yX2_hearRequest.desc).map (fun d => d.parameters.length) = some 3 := ⟨⟨by decide +kernel, by decide +kernel⟩, by decide +kernel⟩
section
variable {p : Program} {l : Launch} {e : Env} {R : Room} {s : State} {m : MethodId} {args : Array Value} {below : List Frame} {meth : Method} {c : Code} {G : Gam} {M0 : Mem}
theorem l_X2_hearRequest_55 {rv : Mem} {n : Nat} {v0 : Nat} {v1 : Int32} {v2 : Int32} {v3 : Int32} {M : Mem} (X : Cx p R s m args c G M0 cX2_hearRequest yX2_hearRequest.cls 6 4 99) (hr : meth.sig.returnType = none) (hlk : meth.locks = false) (hnm : meth.name = "hearRequest") (hf : f_X2_hearRequest_55 n v0 v1 v2 v3 M = some rv) : Sg p l e R s m args below meth c (Qm below G args s none M0 rv) G M0 6 55 [(0, .ref (gB G + v0)), (1, .int v1), (2, .int v2), (3, .int v3)] [] M := by
  rw [f_X2_hearRequest_55] at hf
  refine s_aload_n X 0 dX2_hearRequest_55 rfl rfl ?_
  obtain ⟨h1, hf⟩ := pk_chk hf
  obtain ⟨o2, e3, hf⟩ := pk_bnd hf
  obtain ⟨h4, hf⟩ := pk_chk hf
  refine s_getR X (ci := 2) (k := 1) rfl (Nat.le_of_ble_eq_true rfl) h1 wd419 (fun _ _ _ => rfl) (e3 ▸ h4) dX2_hearRequest_56 (e3 ▸ ?_)
  refine s_iconst X (v := (2 : Int32)) dX2_hearRequest_59 rfl ?_
  refine s_iload_n X 2 dX2_hearRequest_60 rfl rfl ?_
  refine s_iload_n X 1 dX2_hearRequest_61 rfl rfl ?_
  refine s_iload_n X 3 dX2_hearRequest_62 rfl rfl ?_
  obtain ⟨M6, hc5, hf⟩ := pk_obd hf
  refine s_callV X (ci := 5) (k_X5_put G hc5) rfl h4 wd945 wd946 wd947 wd948 wd131 cd_X5_put ⟨Nat.le_of_ble_eq_true rfl, Nat.le_of_ble_eq_true rfl⟩ (Nat.le_of_ble_eq_true rfl) dX2_hearRequest_63 ?_
  cases hf
  exact s_vret X hr hlk dX2_hearRequest_66
theorem l_X2_hearRequest_102 {rv : Mem} {n : Nat} {v0 : Nat} {v2 : Int32} {v4 : Nat} {M : Mem} (X : Cx p R s m args c G M0 cX2_hearRequest yX2_hearRequest.cls 6 4 99) (hr : meth.sig.returnType = none) (hlk : meth.locks = false) (hnm : meth.name = "hearRequest") (hf : f_X2_hearRequest_102 n v0 v2 v4 M = some rv) : Sg p l e R s m args below meth c (Qm below G args s none M0 rv) G M0 6 102 [(0, .ref (gB G + v0)), (2, .int v2), (4, .ref (gB G + v4))] [] M := by
  rw [f_X2_hearRequest_102] at hf
  refine s_aload X 2 dX2_hearRequest_102 rfl ?_
  obtain ⟨h1, hf⟩ := pk_chk hf
  refine s_getI X (ci := 4) (k := 8) rfl (Nat.le_of_ble_eq_true rfl) h1 wd359 (fun _ _ _ => rfl) dX2_hearRequest_104 ?_
  have hs2 := pk_ite hf
  clear hf
  refine s_if_ne X (tgt := 135) dX2_hearRequest_107 rfl (fun c3 => ?_) (fun c3 => ?_)
  · have hf := hs2.2 c3
    cases hf
    exact s_vret X hr hlk dX2_hearRequest_135
  · have hf := hs2.1 c3
    refine s_aload X 2 dX2_hearRequest_110 rfl ?_
    refine s_iconst X (v := (1 : Int32)) dX2_hearRequest_112 rfl ?_
    obtain ⟨h6, hf⟩ := pk_chk hf
    obtain ⟨M4, e5, hf⟩ := pk_bnd hf
    refine s_putZ X (ci := 4) (k := 8) rfl (Nat.le_of_ble_eq_true rfl) h1 wd359 (fun _ _ _ => rfl) rfl (bz_n h6) (bz_f h6) rfl e5 dX2_hearRequest_113 ?_
    have h7 := io_sI e5 h1
    refine s_aload_n X 0 dX2_hearRequest_116 rfl rfl ?_
    obtain ⟨h8, hf⟩ := pk_chk hf
    obtain ⟨o9, e10, hf⟩ := pk_bnd hf
    obtain ⟨h11, hf⟩ := pk_chk hf
    refine s_getR X (ci := 2) (k := 1) rfl (Nat.le_of_ble_eq_true rfl) h8 wd419 (fun _ _ _ => rfl) (e10 ▸ h11) dX2_hearRequest_117 (e10 ▸ ?_)
    refine s_iconst X (v := (3 : Int32)) dX2_hearRequest_120 rfl ?_
    refine s_iload_n X 1 dX2_hearRequest_121 rfl rfl ?_
    refine s_aload X 2 dX2_hearRequest_122 rfl ?_
    refine s_getI X (ci := 4) (k := 6) rfl (Nat.le_of_ble_eq_true rfl) h7 wd351 (fun _ _ _ => rfl) dX2_hearRequest_124 ?_
    refine s_aload X 2 dX2_hearRequest_127 rfl ?_
    refine s_getI X (ci := 4) (k := 7) rfl (Nat.le_of_ble_eq_true rfl) h7 wd355 (fun _ _ _ => rfl) dX2_hearRequest_129 ?_
    obtain ⟨M13, hc12, hf⟩ := pk_obd hf
    refine s_callV X (ci := 5) (k_X5_put G hc12) rfl h11 wd945 wd946 wd947 wd948 wd131 cd_X5_put ⟨Nat.le_of_ble_eq_true rfl, Nat.le_of_ble_eq_true rfl⟩ (Nat.le_of_ble_eq_true rfl) dX2_hearRequest_132 ?_
    cases hf
    exact s_vret X hr hlk dX2_hearRequest_135
end
theorem k_X2_hearRequest (G : Gam) {n : Nat} {o : Nat} {a1 : Int32} {a2 : Int32} {a3 : Int32} {M : Mem} {rv : Mem} (hf : f_X2_hearRequest n o a1 a2 a3 M = some rv) : Kt yX2_hearRequest cX2_hearRequest 6 none 4 99 G [.ref (gB G + o), .int a1, .int a2, .int a3] M rv none := by
  refine Kt.of (by decide) (Nat.le_of_ble_eq_true rfl) ?_
  intro p l e R s m args below meth c X hr hlk hnm
  refine s_drop [0, 1, 2, 3] (vs' := [(0, .ref (gB G + o)), (1, .int a1), (2, .int a2), (3, .int a3)]) rfl ?_
  rw [f_X2_hearRequest] at hf
  refine s_aload_n X 0 dX2_hearRequest_0 rfl rfl ?_
  obtain ⟨h1, hf⟩ := pk_chk hf
  obtain ⟨o2, e3, hf⟩ := pk_bnd hf
  obtain ⟨h4, hf⟩ := pk_chk hf
  refine s_getR X (ci := 2) (k := 2) rfl (Nat.le_of_ble_eq_true rfl) h1 wd423 (fun _ _ _ => rfl) (e3 ▸ h4) dX2_hearRequest_1 (e3 ▸ ?_)
  refine s_iload_n X 2 dX2_hearRequest_4 rfl rfl ?_
  obtain ⟨h5, hf⟩ := pk_chk hf
  obtain ⟨o6, e7, hf⟩ := pk_bnd hf
  obtain ⟨h8, hf⟩ := pk_chk hf
  refine s_aald X h4 h5 (e7 ▸ h8) dX2_hearRequest_5 (e7 ▸ ?_)
  refine s_astore X (vs' := [(0, .ref (gB G + o)), (1, .int a1), (2, .int a2), (3, .int a3), (4, .ref (gB G + o6))]) dX2_hearRequest_6 (Nat.le_of_ble_eq_true rfl) [1, 2, 3, 4, 0] rfl ?_
  refine s_aload X 4 dX2_hearRequest_8 rfl ?_
  obtain ⟨r10, hc9, hf⟩ := pk_obd hf
  refine s_callV X (ci := 4) (k_X4_firstWaiter G hc9) rfl h8 wd1007 wd1008 wd1009 wd1010 wd133 cd_X4_firstWaiter ⟨Nat.le_of_ble_eq_true rfl, Nat.le_of_ble_eq_true rfl⟩ (Nat.le_of_ble_eq_true rfl) dX2_hearRequest_10 ?_
  refine s_istore X (vs' := [(0, .ref (gB G + o)), (1, .int a1), (2, .int a2), (3, .int a3), (4, .ref (gB G + o6)), (5, .int r10)]) dX2_hearRequest_13 (Nat.le_of_ble_eq_true rfl) [1, 2, 3, 4, 5, 0] rfl ?_
  refine s_aload X 4 dX2_hearRequest_15 rfl ?_
  refine s_iload_n X 1 dX2_hearRequest_17 rfl rfl ?_
  refine s_iload_n X 3 dX2_hearRequest_18 rfl rfl ?_
  obtain ⟨M12, hc11, hf⟩ := pk_obd hf
  refine s_callV X (ci := 4) (k_X4_letWait G hc11) rfl h8 wd1012 wd1013 wd1014 wd1015 wd133 cd_X4_letWait ⟨Nat.le_of_ble_eq_true rfl, Nat.le_of_ble_eq_true rfl⟩ (Nat.le_of_ble_eq_true rfl) dX2_hearRequest_19 ?_
  refine s_aload X 4 dX2_hearRequest_22 rfl ?_
  obtain ⟨h13, hf⟩ := pk_chk hf
  refine s_getI X (ci := 4) (k := 6) rfl (Nat.le_of_ble_eq_true rfl) h13 wd351 (fun _ _ _ => rfl) dX2_hearRequest_24 ?_
  refine s_iconst X (v := (-1 : Int32)) dX2_hearRequest_27 rfl ?_
  have hs14 := pk_ite hf
  clear hf
  refine s_icmp_ne X (tgt := 37) dX2_hearRequest_28 rfl (fun c15 => ?_) (fun c15 => ?_)
  · have hf := hs14.2 c15
    refine s_aload X 4 dX2_hearRequest_37 rfl ?_
    obtain ⟨r17, hc16, hf⟩ := pk_obd hf
    refine s_callV X (ci := 4) (k_X4_firstWaiter G hc16) rfl h13 wd1007 wd1008 wd1009 wd1010 wd133 cd_X4_firstWaiter ⟨Nat.le_of_ble_eq_true rfl, Nat.le_of_ble_eq_true rfl⟩ (Nat.le_of_ble_eq_true rfl) dX2_hearRequest_39 ?_
    refine s_iload_n X 1 dX2_hearRequest_42 rfl rfl ?_
    have hs18 := pk_ite hf
    clear hf
    refine s_icmp_ne X (tgt := 55) dX2_hearRequest_43 rfl (fun c19 => ?_) (fun c19 => ?_)
    · have hf := hs18.2 c19
      refine s_drop [0, 1, 2, 3] (vs' := [(0, .ref (gB G + o)), (1, .int a1), (2, .int a2), (3, .int a3)]) rfl ?_
      exact l_X2_hearRequest_55 X hr hlk hnm hf
    · have hf := hs18.1 c19
      refine s_aload X 4 dX2_hearRequest_46 rfl ?_
      refine s_iload_n X 1 dX2_hearRequest_48 rfl rfl ?_
      obtain ⟨r21, hc20, hf⟩ := pk_obd hf
      refine s_callV X (ci := 4) (k_X4_isAheadOfGranted G hc20) rfl h13 wd1020 wd1021 wd1022 wd1023 wd133 cd_X4_isAheadOfGranted ⟨Nat.le_of_ble_eq_true rfl, Nat.le_of_ble_eq_true rfl⟩ (Nat.le_of_ble_eq_true rfl) dX2_hearRequest_49 ?_
      have hs22 := pk_ite hf
      clear hf
      refine s_if_ne X (tgt := 67) dX2_hearRequest_52 rfl (fun c23 => ?_) (fun c23 => ?_)
      · have hf := hs22.2 c23
        refine s_iload X 5 dX2_hearRequest_67 rfl ?_
        refine s_iconst X (v := (-1 : Int32)) dX2_hearRequest_69 rfl ?_
        have hs24 := pk_ite hf
        clear hf
        refine s_icmp_eq X (tgt := 102) dX2_hearRequest_70 rfl (fun c25 => ?_) (fun c25 => ?_)
        · have hf := hs24.1 c25
          refine s_drop [0, 2, 4] (vs' := [(0, .ref (gB G + o)), (2, .int a2), (4, .ref (gB G + o6))]) rfl ?_
          exact l_X2_hearRequest_102 X hr hlk hnm hf
        · have hf := hs24.2 c25
          refine s_aload X 4 dX2_hearRequest_73 rfl ?_
          refine s_iload X 5 dX2_hearRequest_75 rfl ?_
          obtain ⟨r27, hc26, hf⟩ := pk_obd hf
          refine s_callV X (ci := 4) (k_X4_isAheadOfGranted G hc26) rfl h13 wd1020 wd1021 wd1022 wd1023 wd133 cd_X4_isAheadOfGranted ⟨Nat.le_of_ble_eq_true rfl, Nat.le_of_ble_eq_true rfl⟩ (Nat.le_of_ble_eq_true rfl) dX2_hearRequest_77 ?_
          have hs28 := pk_ite hf
          clear hf
          refine s_if_eq X (tgt := 102) dX2_hearRequest_80 rfl (fun c29 => ?_) (fun c29 => ?_)
          · have hf := hs28.1 c29
            refine s_drop [0, 2, 4] (vs' := [(0, .ref (gB G + o)), (2, .int a2), (4, .ref (gB G + o6))]) rfl ?_
            exact l_X2_hearRequest_102 X hr hlk hnm hf
          · have hf := hs28.2 c29
            refine s_aload_n X 0 dX2_hearRequest_83 rfl rfl ?_
            obtain ⟨h30, hf⟩ := pk_chk hf
            obtain ⟨o31, e32, hf⟩ := pk_bnd hf
            obtain ⟨h33, hf⟩ := pk_chk hf
            refine s_getR X (ci := 2) (k := 1) rfl (Nat.le_of_ble_eq_true rfl) h30 wd419 (fun _ _ _ => rfl) (e32 ▸ h33) dX2_hearRequest_84 (e32 ▸ ?_)
            refine s_iconst X (v := (2 : Int32)) dX2_hearRequest_87 rfl ?_
            refine s_iload_n X 2 dX2_hearRequest_88 rfl rfl ?_
            refine s_iload X 5 dX2_hearRequest_89 rfl ?_
            refine s_aload X 4 dX2_hearRequest_91 rfl ?_
            obtain ⟨o34, e35, hf⟩ := pk_bnd hf
            obtain ⟨h36, hf⟩ := pk_chk hf
            refine s_getR X (ci := 4) (k := 10) rfl (Nat.le_of_ble_eq_true rfl) h13 wd367 (fun _ _ _ => rfl) (e35 ▸ h36) dX2_hearRequest_93 (e35 ▸ ?_)
            refine s_iload X 5 dX2_hearRequest_96 rfl ?_
            obtain ⟨h37, hf⟩ := pk_chk hf
            refine s_iald X h36 h37 dX2_hearRequest_98 ?_
            obtain ⟨M39, hc38, hf⟩ := pk_obd hf
            refine s_callV X (ci := 5) (k_X5_put G hc38) rfl h33 wd945 wd946 wd947 wd948 wd131 cd_X5_put ⟨Nat.le_of_ble_eq_true rfl, Nat.le_of_ble_eq_true rfl⟩ (Nat.le_of_ble_eq_true rfl) dX2_hearRequest_99 ?_
            refine s_drop [0, 2, 4] (vs' := [(0, .ref (gB G + o)), (2, .int a2), (4, .ref (gB G + o6))]) rfl ?_
            exact l_X2_hearRequest_102 X hr hlk hnm hf
      · have hf := hs22.1 c23
        refine s_drop [0, 1, 2, 3] (vs' := [(0, .ref (gB G + o)), (1, .int a1), (2, .int a2), (3, .int a3)]) rfl ?_
        exact l_X2_hearRequest_55 X hr hlk hnm hf
  · have hf := hs14.1 c15
    refine s_aload_n X 0 dX2_hearRequest_31 rfl rfl ?_
    refine s_iload_n X 2 dX2_hearRequest_32 rfl rfl ?_
    obtain ⟨h40, hf⟩ := pk_chk hf
    obtain ⟨M42, hc41, hf⟩ := pk_obd hf
    refine s_callV X (ci := 2) (k_X2_grantFirst G hc41) rfl h40 wd1016 wd1018 wd16 wd1019 wd130 cd_X2_grantFirst ⟨Nat.le_of_ble_eq_true rfl, Nat.le_of_ble_eq_true rfl⟩ (Nat.le_of_ble_eq_true rfl) dX2_hearRequest_33 ?_
    cases hf
    exact s_vret X hr hlk dX2_hearRequest_36
theorem dX2_isAskingBy_0 : decode cX2_isAskingBy 0 = .ok (.aload_n 0, 1) := dk_42 (by decide +kernel)
theorem dX2_isAskingBy_1 : decode cX2_isAskingBy 1 = .ok (.getfield 59, 3) := dk_180 (x := 0) (y := 59) (by decide +kernel) rfl
theorem dX2_isAskingBy_4 : decode cX2_isAskingBy 4 = .ok (.iload_n 1, 1) := dk_27 (by decide +kernel)
theorem dX2_isAskingBy_5 : decode cX2_isAskingBy 5 = .ok (.invokestatic 108, 3) := dk_184 (x := 0) (y := 108) (by decide +kernel) rfl
theorem dX2_isAskingBy_8 : decode cX2_isAskingBy 8 = .ok (.ifCond .eq 20, 3) := dk_153 (x := 0) (y := 20) (by decide +kernel) rfl
theorem dX2_isAskingBy_11 : decode cX2_isAskingBy 11 = .ok (.aload_n 0, 1) := dk_42 (by decide +kernel)
theorem dX2_isAskingBy_12 : decode cX2_isAskingBy 12 = .ok (.getfield 20, 3) := dk_180 (x := 0) (y := 20) (by decide +kernel) rfl
theorem dX2_isAskingBy_15 : decode cX2_isAskingBy 15 = .ok (.iload_n 1, 1) := dk_27 (by decide +kernel)
theorem dX2_isAskingBy_16 : decode cX2_isAskingBy 16 = .ok (.aaload, 1) := dk_50 (by decide +kernel)
theorem dX2_isAskingBy_17 : decode cX2_isAskingBy 17 = .ok (.getfield 118, 3) := dk_180 (x := 0) (y := 118) (by decide +kernel) rfl
theorem dX2_isAskingBy_20 : decode cX2_isAskingBy 20 = .ok (.iload_n 2, 1) := dk_28 (by decide +kernel)
theorem dX2_isAskingBy_21 : decode cX2_isAskingBy 21 = .ok (.if_icmp .ne 7, 3) := dk_160 (x := 0) (y := 7) (by decide +kernel) rfl
theorem dX2_isAskingBy_24 : decode cX2_isAskingBy 24 = .ok (.iconst 1, 1) := dk_4 (by decide +kernel)
theorem dX2_isAskingBy_25 : decode cX2_isAskingBy 25 = .ok (.goto 4, 3) := dk_167 (x := 0) (y := 4) (by decide +kernel) rfl
theorem dX2_isAskingBy_28 : decode cX2_isAskingBy 28 = .ok (.iconst 0, 1) := dk_3 (by decide +kernel)
theorem dX2_isAskingBy_29 : decode cX2_isAskingBy 29 = .ok (.ireturn, 1) := dk_172 (by decide +kernel)
def f_X2_isAskingBy (o : Nat) (a1 : Int32) (a2 : Int32) (M : Mem) : Option Int32 :=
  chk (isO M 2 o) <|
  obd (f_X9_has (mI M o 8) a1 M) fun r3 =>
  if r3 = 0 then (
    some (0 : Int32)
    ) else (
    bnd (mR M o 2) fun o6 =>
    chk (isO M 102 o6) <|
    chk (inB a1 (mLn M o6)) <|
    bnd (mR M o6 (a1).toNatClampNeg) fun o10 =>
    chk (isO M 4 o10) <|
    if (mI M o10 1) = a2 then (
      some (1 : Int32)
      ) else (
      some (0 : Int32)
      )
    )
theorem cd_X2_isAskingBy : (yX2_isAskingBy.cls ≠ "java/lang/invoke/MethodHandle" ∧ yX2_isAskingBy.cls ≠ "java/lang/invoke/VarHandle") ∧ (parseMethodDescriptor yX2_isAskingBy.desc).map (fun d => d.parameters.length) = some 2 := ⟨⟨by decide +kernel, by decide +kernel⟩, by decide +kernel⟩
theorem k_X2_isAskingBy (G : Gam) {o : Nat} {a1 : Int32} {a2 : Int32} {M : Mem} {rv : Int32} (hf : f_X2_isAskingBy o a1 a2 M = some rv) : Kt yX2_isAskingBy cX2_isAskingBy 3 (some .boolean) 1 21 G [.ref (gB G + o), .int a1, .int a2] M M (some (.int rv)) := by
  refine Kt.of (by decide) (Nat.le_of_ble_eq_true rfl) ?_
  intro p l e R s m args below meth c X hr hlk hnm
  refine s_drop [0, 1, 2] (vs' := [(0, .ref (gB G + o)), (1, .int a1), (2, .int a2)]) rfl ?_
  rw [f_X2_isAskingBy] at hf
  refine s_aload_n X 0 dX2_isAskingBy_0 rfl rfl ?_
  obtain ⟨h1, hf⟩ := pk_chk hf
  refine s_getI X (ci := 2) (k := 8) rfl (Nat.le_of_ble_eq_true rfl) h1 wd438 (fun _ _ _ => rfl) dX2_isAskingBy_1 ?_
  refine s_iload_n X 1 dX2_isAskingBy_4 rfl rfl ?_
  obtain ⟨r3, hc2, hf⟩ := pk_obd hf
  refine s_callSN X (k_X9_has G hc2) (host := "QuorumGate") ns_8 wd712 wd713 wd126 cd_X9_has ⟨Nat.le_of_ble_eq_true rfl, Nat.le_of_ble_eq_true rfl⟩ (Nat.le_of_ble_eq_true rfl) dX2_isAskingBy_5 ?_
  have hs4 := pk_ite hf
  clear hf
  refine s_if_eq X (tgt := 28) dX2_isAskingBy_8 rfl (fun c5 => ?_) (fun c5 => ?_)
  · have hf := hs4.1 c5
    refine s_iconst X (v := (0 : Int32)) dX2_isAskingBy_28 rfl ?_
    cases hf
    exact s_zret X hr (bz_n (Or.inl rfl)) hlk dX2_isAskingBy_29
  · have hf := hs4.2 c5
    refine s_aload_n X 0 dX2_isAskingBy_11 rfl rfl ?_
    obtain ⟨o6, e7, hf⟩ := pk_bnd hf
    obtain ⟨h8, hf⟩ := pk_chk hf
    refine s_getR X (ci := 2) (k := 2) rfl (Nat.le_of_ble_eq_true rfl) h1 wd423 (fun _ _ _ => rfl) (e7 ▸ h8) dX2_isAskingBy_12 (e7 ▸ ?_)
    refine s_iload_n X 1 dX2_isAskingBy_15 rfl rfl ?_
    obtain ⟨h9, hf⟩ := pk_chk hf
    obtain ⟨o10, e11, hf⟩ := pk_bnd hf
    obtain ⟨h12, hf⟩ := pk_chk hf
    refine s_aald X h8 h9 (e11 ▸ h12) dX2_isAskingBy_16 (e11 ▸ ?_)
    refine s_getI X (ci := 4) (k := 1) rfl (Nat.le_of_ble_eq_true rfl) h12 wd331 (fun _ _ _ => rfl) dX2_isAskingBy_17 ?_
    refine s_iload_n X 2 dX2_isAskingBy_20 rfl rfl ?_
    have hs13 := pk_ite hf
    clear hf
    refine s_icmp_ne X (tgt := 28) dX2_isAskingBy_21 rfl (fun c14 => ?_) (fun c14 => ?_)
    · have hf := hs13.2 c14
      refine s_iconst X (v := (0 : Int32)) dX2_isAskingBy_28 rfl ?_
      cases hf
      exact s_zret X hr (bz_n (Or.inl rfl)) hlk dX2_isAskingBy_29
    · have hf := hs13.1 c14
      refine s_iconst X (v := (1 : Int32)) dX2_isAskingBy_24 rfl ?_
      refine s_goto X (tgt := 29) dX2_isAskingBy_25 rfl ?_
      cases hf
      exact s_zret X hr (bz_n (Or.inr rfl)) hlk dX2_isAskingBy_29
theorem dX2_isSomeoneAheadOf_0 : decode cX2_isSomeoneAheadOf 0 = .ok (.iconst 0, 1) := dk_3 (by decide +kernel)
theorem dX2_isSomeoneAheadOf_1 : decode cX2_isSomeoneAheadOf 1 = .ok (.istore_n 2, 1) := dk_61 (by decide +kernel)
theorem dX2_isSomeoneAheadOf_2 : decode cX2_isSomeoneAheadOf 2 = .ok (.iload_n 2, 1) := dk_28 (by decide +kernel)
theorem dX2_isSomeoneAheadOf_3 : decode cX2_isSomeoneAheadOf 3 = .ok (.aload_n 0, 1) := dk_42 (by decide +kernel)
theorem dX2_isSomeoneAheadOf_4 : decode cX2_isSomeoneAheadOf 4 = .ok (.getfield 43, 3) := dk_180 (x := 0) (y := 43) (by decide +kernel) rfl
theorem dX2_isSomeoneAheadOf_7 : decode cX2_isSomeoneAheadOf 7 = .ok (.getfield 94, 3) := dk_180 (x := 0) (y := 94) (by decide +kernel) rfl
theorem dX2_isSomeoneAheadOf_10 : decode cX2_isSomeoneAheadOf 10 = .ok (.if_icmp .ge 48, 3) := dk_162 (x := 0) (y := 48) (by decide +kernel) rfl
theorem dX2_isSomeoneAheadOf_13 : decode cX2_isSomeoneAheadOf 13 = .ok (.aload_n 0, 1) := dk_42 (by decide +kernel)
theorem dX2_isSomeoneAheadOf_14 : decode cX2_isSomeoneAheadOf 14 = .ok (.getfield 59, 3) := dk_180 (x := 0) (y := 59) (by decide +kernel) rfl
theorem dX2_isSomeoneAheadOf_17 : decode cX2_isSomeoneAheadOf 17 = .ok (.iload_n 2, 1) := dk_28 (by decide +kernel)
theorem dX2_isSomeoneAheadOf_18 : decode cX2_isSomeoneAheadOf 18 = .ok (.invokestatic 108, 3) := dk_184 (x := 0) (y := 108) (by decide +kernel) rfl
theorem dX2_isSomeoneAheadOf_21 : decode cX2_isSomeoneAheadOf 21 = .ok (.ifCond .eq 31, 3) := dk_153 (x := 0) (y := 31) (by decide +kernel) rfl
theorem dX2_isSomeoneAheadOf_24 : decode cX2_isSomeoneAheadOf 24 = .ok (.aload_n 0, 1) := dk_42 (by decide +kernel)
theorem dX2_isSomeoneAheadOf_25 : decode cX2_isSomeoneAheadOf 25 = .ok (.getfield 20, 3) := dk_180 (x := 0) (y := 20) (by decide +kernel) rfl
theorem dX2_isSomeoneAheadOf_28 : decode cX2_isSomeoneAheadOf 28 = .ok (.iload_n 2, 1) := dk_28 (by decide +kernel)
theorem dX2_isSomeoneAheadOf_29 : decode cX2_isSomeoneAheadOf 29 = .ok (.aaload, 1) := dk_50 (by decide +kernel)
theorem dX2_isSomeoneAheadOf_30 : decode cX2_isSomeoneAheadOf 30 = .ok (.getfield 118, 3) := dk_180 (x := 0) (y := 118) (by decide +kernel) rfl
theorem dX2_isSomeoneAheadOf_33 : decode cX2_isSomeoneAheadOf 33 = .ok (.iload_n 2, 1) := dk_28 (by decide +kernel)
theorem dX2_isSomeoneAheadOf_34 : decode cX2_isSomeoneAheadOf 34 = .ok (.aload_n 0, 1) := dk_42 (by decide +kernel)
theorem dX2_isSomeoneAheadOf_35 : decode cX2_isSomeoneAheadOf 35 = .ok (.getfield 20, 3) := dk_180 (x := 0) (y := 20) (by decide +kernel) rfl
theorem dX2_isSomeoneAheadOf_38 : decode cX2_isSomeoneAheadOf 38 = .ok (.iload_n 1, 1) := dk_27 (by decide +kernel)
theorem dX2_isSomeoneAheadOf_39 : decode cX2_isSomeoneAheadOf 39 = .ok (.aaload, 1) := dk_50 (by decide +kernel)
theorem dX2_isSomeoneAheadOf_40 : decode cX2_isSomeoneAheadOf 40 = .ok (.getfield 118, 3) := dk_180 (x := 0) (y := 118) (by decide +kernel) rfl
theorem dX2_isSomeoneAheadOf_43 : decode cX2_isSomeoneAheadOf 43 = .ok (.iload_n 1, 1) := dk_27 (by decide +kernel)
theorem dX2_isSomeoneAheadOf_44 : decode cX2_isSomeoneAheadOf 44 = .ok (.invokestatic 280, 3) := dk_184 (x := 1) (y := 24) (by decide +kernel) rfl
theorem dX2_isSomeoneAheadOf_47 : decode cX2_isSomeoneAheadOf 47 = .ok (.ifCond .eq 5, 3) := dk_153 (x := 0) (y := 5) (by decide +kernel) rfl
theorem dX2_isSomeoneAheadOf_50 : decode cX2_isSomeoneAheadOf 50 = .ok (.iconst 1, 1) := dk_4 (by decide +kernel)
theorem dX2_isSomeoneAheadOf_51 : decode cX2_isSomeoneAheadOf 51 = .ok (.ireturn, 1) := dk_172 (by decide +kernel)
theorem dX2_isSomeoneAheadOf_52 : decode cX2_isSomeoneAheadOf 52 = .ok (.iinc 2 1, 3) := dk_132 (x := 2) (y := 1) (by decide +kernel) rfl
theorem dX2_isSomeoneAheadOf_55 : decode cX2_isSomeoneAheadOf 55 = .ok (.goto (-53), 3) := dk_167 (x := 255) (y := 203) (by decide +kernel) rfl
theorem dX2_isSomeoneAheadOf_58 : decode cX2_isSomeoneAheadOf 58 = .ok (.iconst 0, 1) := dk_3 (by decide +kernel)
theorem dX2_isSomeoneAheadOf_59 : decode cX2_isSomeoneAheadOf 59 = .ok (.ireturn, 1) := dk_172 (by decide +kernel)
def f_X2_isSomeoneAheadOf_2 (M : Mem) : Nat → Nat → Int32 → Int32 → Option Int32
  | 0, _, _, _ => none
  | n + 1, v0, v1, v2 =>
    chk (isO M 2 v0) <|
    bnd (mR M v0 0) fun o2 =>
    chk (isO M 7 o2) <|
    if (mI M o2 3) ≤ v2 then (
      some (0 : Int32)
      ) else (
      obd (f_X9_has (mI M v0 8) v2 M) fun r8 =>
      if r8 = 0 then (
        bnd (v2 + (1 : Int32)) fun x11 =>
        f_X2_isSomeoneAheadOf_2 M n v0 v1 x11
        ) else (
        bnd (mR M v0 2) fun o13 =>
        chk (isO M 102 o13) <|
        chk (inB v2 (mLn M o13)) <|
        bnd (mR M o13 (v2).toNatClampNeg) fun o17 =>
        chk (isO M 4 o17) <|
        bnd (mR M v0 2) fun o20 =>
        chk (isO M 102 o20) <|
        chk (inB v1 (mLn M o20)) <|
        bnd (mR M o20 (v1).toNatClampNeg) fun o24 =>
        chk (isO M 4 o24) <|
        obd (f_X9_isAhead (mI M o17 1) v2 (mI M o24 1) v1 M) fun r28 =>
        if r28 = 0 then (
          bnd (v2 + (1 : Int32)) fun x31 =>
          f_X2_isSomeoneAheadOf_2 M n v0 v1 x31
          ) else (
          some (1 : Int32)
          )
        )
      )
def f_X2_isSomeoneAheadOf (n : Nat) (o : Nat) (a1 : Int32) (M : Mem) : Option Int32 :=
  f_X2_isSomeoneAheadOf_2 M n o a1 (0 : Int32)
theorem cd_X2_isSomeoneAheadOf : (yX2_isSomeoneAheadOf.cls ≠ "java/lang/invoke/MethodHandle" ∧ yX2_isSomeoneAheadOf.cls ≠ "java/lang/invoke/VarHandle") ∧ (parseMethodDescriptor yX2_isSomeoneAheadOf.desc).map (fun d => d.parameters.length) = some 1 := ⟨⟨by decide +kernel, by decide +kernel⟩, by decide +kernel⟩
section
variable {p : Program} {l : Launch} {e : Env} {R : Room} {s : State} {m : MethodId} {args : Array Value} {below : List Frame} {meth : Method} {c : Code} {G : Gam} {M0 : Mem}
theorem l_X2_isSomeoneAheadOf_2 {M : Mem} {rv : Int32} (X : Cx p R s m args c G M0 cX2_isSomeoneAheadOf yX2_isSomeoneAheadOf.cls 3 1 23) (hr : meth.sig.returnType = (some .boolean)) (hlk : meth.locks = false) (hnm : meth.name = "isSomeoneAheadOf") : ∀ {n : Nat} (v0 : Nat) (v1 : Int32) (v2 : Int32), f_X2_isSomeoneAheadOf_2 M n v0 v1 v2 = some rv → Sg p l e R s m args below meth c (Qm below G args s (some (.int rv)) M0 M) G M0 3 2 [(0, .ref (gB G + v0)), (1, .int v1), (2, .int v2)] [] M := by
  intro n
  induction n with
  | zero => intro v0 v1 v2 hf; exact (pk_none hf).elim
  | succ n ih =>
    intro v0 v1 v2 hf
    rw [f_X2_isSomeoneAheadOf_2] at hf
    refine s_iload_n X 2 dX2_isSomeoneAheadOf_2 rfl rfl ?_
    refine s_aload_n X 0 dX2_isSomeoneAheadOf_3 rfl rfl ?_
    obtain ⟨h1, hf⟩ := pk_chk hf
    obtain ⟨o2, e3, hf⟩ := pk_bnd hf
    obtain ⟨h4, hf⟩ := pk_chk hf
    refine s_getR X (ci := 2) (k := 0) rfl (Nat.le_of_ble_eq_true rfl) h1 wd416 (fun _ _ _ => rfl) (e3 ▸ h4) dX2_isSomeoneAheadOf_4 (e3 ▸ ?_)
    refine s_getI X (ci := 7) (k := 3) rfl (Nat.le_of_ble_eq_true rfl) h4 wd166 (fun _ _ _ => rfl) dX2_isSomeoneAheadOf_7 ?_
    have hs5 := pk_ite hf
    clear hf
    refine s_icmp_ge X (tgt := 58) dX2_isSomeoneAheadOf_10 rfl (fun c6 => ?_) (fun c6 => ?_)
    · have hf := hs5.1 c6
      refine s_iconst X (v := (0 : Int32)) dX2_isSomeoneAheadOf_58 rfl ?_
      cases hf
      exact s_zret X hr (bz_n (Or.inl rfl)) hlk dX2_isSomeoneAheadOf_59
    · have hf := hs5.2 c6
      refine s_aload_n X 0 dX2_isSomeoneAheadOf_13 rfl rfl ?_
      refine s_getI X (ci := 2) (k := 8) rfl (Nat.le_of_ble_eq_true rfl) h1 wd438 (fun _ _ _ => rfl) dX2_isSomeoneAheadOf_14 ?_
      refine s_iload_n X 2 dX2_isSomeoneAheadOf_17 rfl rfl ?_
      obtain ⟨r8, hc7, hf⟩ := pk_obd hf
      refine s_callSN X (k_X9_has G hc7) (host := "QuorumGate") ns_8 wd712 wd713 wd126 cd_X9_has ⟨Nat.le_of_ble_eq_true rfl, Nat.le_of_ble_eq_true rfl⟩ (Nat.le_of_ble_eq_true rfl) dX2_isSomeoneAheadOf_18 ?_
      have hs9 := pk_ite hf
      clear hf
      refine s_if_eq X (tgt := 52) dX2_isSomeoneAheadOf_21 rfl (fun c10 => ?_) (fun c10 => ?_)
      · have hf := hs9.1 c10
        obtain ⟨x11, e12, hf⟩ := pk_bnd hf
        refine s_iinc X (vs' := [(0, .ref (gB G + v0)), (1, .int v1), (2, .int x11)]) 2 dX2_isSomeoneAheadOf_52 rfl (v := x11) e12.symm (Nat.le_of_ble_eq_true rfl) [1, 2, 0] rfl ?_
        refine s_goto X (tgt := 2) dX2_isSomeoneAheadOf_55 rfl ?_
        exact ih _ _ _ hf
      · have hf := hs9.2 c10
        refine s_aload_n X 0 dX2_isSomeoneAheadOf_24 rfl rfl ?_
        obtain ⟨o13, e14, hf⟩ := pk_bnd hf
        obtain ⟨h15, hf⟩ := pk_chk hf
        refine s_getR X (ci := 2) (k := 2) rfl (Nat.le_of_ble_eq_true rfl) h1 wd423 (fun _ _ _ => rfl) (e14 ▸ h15) dX2_isSomeoneAheadOf_25 (e14 ▸ ?_)
        refine s_iload_n X 2 dX2_isSomeoneAheadOf_28 rfl rfl ?_
        obtain ⟨h16, hf⟩ := pk_chk hf
        obtain ⟨o17, e18, hf⟩ := pk_bnd hf
        obtain ⟨h19, hf⟩ := pk_chk hf
        refine s_aald X h15 h16 (e18 ▸ h19) dX2_isSomeoneAheadOf_29 (e18 ▸ ?_)
        refine s_getI X (ci := 4) (k := 1) rfl (Nat.le_of_ble_eq_true rfl) h19 wd331 (fun _ _ _ => rfl) dX2_isSomeoneAheadOf_30 ?_
        refine s_iload_n X 2 dX2_isSomeoneAheadOf_33 rfl rfl ?_
        refine s_aload_n X 0 dX2_isSomeoneAheadOf_34 rfl rfl ?_
        obtain ⟨o20, e21, hf⟩ := pk_bnd hf
        obtain ⟨h22, hf⟩ := pk_chk hf
        refine s_getR X (ci := 2) (k := 2) rfl (Nat.le_of_ble_eq_true rfl) h1 wd423 (fun _ _ _ => rfl) (e21 ▸ h22) dX2_isSomeoneAheadOf_35 (e21 ▸ ?_)
        refine s_iload_n X 1 dX2_isSomeoneAheadOf_38 rfl rfl ?_
        obtain ⟨h23, hf⟩ := pk_chk hf
        obtain ⟨o24, e25, hf⟩ := pk_bnd hf
        obtain ⟨h26, hf⟩ := pk_chk hf
        refine s_aald X h22 h23 (e25 ▸ h26) dX2_isSomeoneAheadOf_39 (e25 ▸ ?_)
        refine s_getI X (ci := 4) (k := 1) rfl (Nat.le_of_ble_eq_true rfl) h26 wd331 (fun _ _ _ => rfl) dX2_isSomeoneAheadOf_40 ?_
        refine s_iload_n X 1 dX2_isSomeoneAheadOf_43 rfl rfl ?_
        obtain ⟨r28, hc27, hf⟩ := pk_obd hf
        refine s_callSN X (k_X9_isAhead G hc27) (host := "QuorumGate") ns_11 wd1025 wd1026 wd126 cd_X9_isAhead ⟨Nat.le_of_ble_eq_true rfl, Nat.le_of_ble_eq_true rfl⟩ (Nat.le_of_ble_eq_true rfl) dX2_isSomeoneAheadOf_44 ?_
        have hs29 := pk_ite hf
        clear hf
        refine s_if_eq X (tgt := 52) dX2_isSomeoneAheadOf_47 rfl (fun c30 => ?_) (fun c30 => ?_)
        · have hf := hs29.1 c30
          obtain ⟨x31, e32, hf⟩ := pk_bnd hf
          refine s_iinc X (vs' := [(0, .ref (gB G + v0)), (1, .int v1), (2, .int x31)]) 2 dX2_isSomeoneAheadOf_52 rfl (v := x31) e32.symm (Nat.le_of_ble_eq_true rfl) [1, 2, 0] rfl ?_
          refine s_goto X (tgt := 2) dX2_isSomeoneAheadOf_55 rfl ?_
          exact ih _ _ _ hf
        · have hf := hs29.2 c30
          refine s_iconst X (v := (1 : Int32)) dX2_isSomeoneAheadOf_50 rfl ?_
          cases hf
          exact s_zret X hr (bz_n (Or.inr rfl)) hlk dX2_isSomeoneAheadOf_51
end
theorem k_X2_isSomeoneAheadOf (G : Gam) {n : Nat} {o : Nat} {a1 : Int32} {M : Mem} {rv : Int32} (hf : f_X2_isSomeoneAheadOf n o a1 M = some rv) : Kt yX2_isSomeoneAheadOf cX2_isSomeoneAheadOf 3 (some .boolean) 1 23 G [.ref (gB G + o), .int a1] M M (some (.int rv)) := by
  refine Kt.of (by decide) (Nat.le_of_ble_eq_true rfl) ?_
  intro p l e R s m args below meth c X hr hlk hnm
  refine s_drop [0, 1] (vs' := [(0, .ref (gB G + o)), (1, .int a1)]) rfl ?_
  rw [f_X2_isSomeoneAheadOf] at hf
  refine s_iconst X (v := (0 : Int32)) dX2_isSomeoneAheadOf_0 rfl ?_
  refine s_istore_n X (vs' := [(0, .ref (gB G + o)), (1, .int a1), (2, .int (0 : Int32))]) dX2_isSomeoneAheadOf_1 rfl (Nat.le_of_ble_eq_true rfl) [1, 2, 0] rfl ?_
  exact l_X2_isSomeoneAheadOf_2 X hr hlk hnm _ _ _ hf
theorem dX2_enter_0 : decode cX2_enter 0 = .ok (.aload_n 0, 1) := dk_42 (by decide +kernel)
theorem dX2_enter_1 : decode cX2_enter 1 = .ok (.getfield 20, 3) := dk_180 (x := 0) (y := 20) (by decide +kernel) rfl
theorem dX2_enter_4 : decode cX2_enter 4 = .ok (.iload_n 1, 1) := dk_27 (by decide +kernel)
theorem dX2_enter_5 : decode cX2_enter 5 = .ok (.aaload, 1) := dk_50 (by decide +kernel)
theorem dX2_enter_6 : decode cX2_enter 6 = .ok (.astore_n 2, 1) := dk_77 (by decide +kernel)
theorem dX2_enter_7 : decode cX2_enter 7 = .ok (.aload_n 2, 1) := dk_44 (by decide +kernel)
theorem dX2_enter_8 : decode cX2_enter 8 = .ok (.iconst 0, 1) := dk_3 (by decide +kernel)
theorem dX2_enter_9 : decode cX2_enter 9 = .ok (.putfield 250, 3) := dk_181 (x := 0) (y := 250) (by decide +kernel) rfl
theorem dX2_enter_12 : decode cX2_enter 12 = .ok (.aload_n 0, 1) := dk_42 (by decide +kernel)
theorem dX2_enter_13 : decode cX2_enter 13 = .ok (.dup, 1) := dk_89 (by decide +kernel)
theorem dX2_enter_14 : decode cX2_enter 14 = .ok (.getfield 59, 3) := dk_180 (x := 0) (y := 59) (by decide +kernel) rfl
theorem dX2_enter_17 : decode cX2_enter 17 = .ok (.iconst 1, 1) := dk_4 (by decide +kernel)
theorem dX2_enter_18 : decode cX2_enter 18 = .ok (.iload_n 1, 1) := dk_27 (by decide +kernel)
theorem dX2_enter_19 : decode cX2_enter 19 = .ok (.ishl, 1) := dk_120 (by decide +kernel)
theorem dX2_enter_20 : decode cX2_enter 20 = .ok (.iconst (-1), 1) := dk_2 (by decide +kernel)
theorem dX2_enter_21 : decode cX2_enter 21 = .ok (.ixor, 1) := dk_130 (by decide +kernel)
theorem dX2_enter_22 : decode cX2_enter 22 = .ok (.iand, 1) := dk_126 (by decide +kernel)
theorem dX2_enter_23 : decode cX2_enter 23 = .ok (.putfield 59, 3) := dk_181 (x := 0) (y := 59) (by decide +kernel) rfl
theorem dX2_enter_26 : decode cX2_enter 26 = .ok (.aload_n 0, 1) := dk_42 (by decide +kernel)
theorem dX2_enter_27 : decode cX2_enter 27 = .ok (.dup, 1) := dk_89 (by decide +kernel)
theorem dX2_enter_28 : decode cX2_enter 28 = .ok (.getfield 55, 3) := dk_180 (x := 0) (y := 55) (by decide +kernel) rfl
theorem dX2_enter_31 : decode cX2_enter 31 = .ok (.iconst 1, 1) := dk_4 (by decide +kernel)
theorem dX2_enter_32 : decode cX2_enter 32 = .ok (.iload_n 1, 1) := dk_27 (by decide +kernel)
theorem dX2_enter_33 : decode cX2_enter 33 = .ok (.ishl, 1) := dk_120 (by decide +kernel)
theorem dX2_enter_34 : decode cX2_enter 34 = .ok (.ior, 1) := dk_128 (by decide +kernel)
theorem dX2_enter_35 : decode cX2_enter 35 = .ok (.putfield 55, 3) := dk_181 (x := 0) (y := 55) (by decide +kernel) rfl
theorem dX2_enter_38 : decode cX2_enter 38 = .ok (.aload_n 2, 1) := dk_44 (by decide +kernel)
theorem dX2_enter_39 : decode cX2_enter 39 = .ok (.aload_n 0, 1) := dk_42 (by decide +kernel)
theorem dX2_enter_40 : decode cX2_enter 40 = .ok (.getfield 12, 3) := dk_180 (x := 0) (y := 12) (by decide +kernel) rfl
theorem dX2_enter_43 : decode cX2_enter 43 = .ok (.getfield 265, 3) := dk_180 (x := 1) (y := 9) (by decide +kernel) rfl
theorem dX2_enter_46 : decode cX2_enter 46 = .ok (.putfield 268, 3) := dk_181 (x := 1) (y := 12) (by decide +kernel) rfl
theorem dX2_enter_49 : decode cX2_enter 49 = .ok (.aload_n 2, 1) := dk_44 (by decide +kernel)
theorem dX2_enter_50 : decode cX2_enter 50 = .ok (.dup, 1) := dk_89 (by decide +kernel)
theorem dX2_enter_51 : decode cX2_enter 51 = .ok (.getfield 271, 3) := dk_180 (x := 1) (y := 15) (by decide +kernel) rfl
theorem dX2_enter_54 : decode cX2_enter 54 = .ok (.iconst 1, 1) := dk_4 (by decide +kernel)
theorem dX2_enter_55 : decode cX2_enter 55 = .ok (.iadd, 1) := dk_96 (by decide +kernel)
theorem dX2_enter_56 : decode cX2_enter 56 = .ok (.putfield 271, 3) := dk_181 (x := 1) (y := 15) (by decide +kernel) rfl
theorem dX2_enter_59 : decode cX2_enter 59 = .ok (.aload_n 0, 1) := dk_42 (by decide +kernel)
theorem dX2_enter_60 : decode cX2_enter 60 = .ok (.dup, 1) := dk_89 (by decide +kernel)
theorem dX2_enter_61 : decode cX2_enter 61 = .ok (.getfield 68, 3) := dk_180 (x := 0) (y := 68) (by decide +kernel) rfl
theorem dX2_enter_64 : decode cX2_enter 64 = .ok (.iconst 1, 1) := dk_4 (by decide +kernel)
theorem dX2_enter_65 : decode cX2_enter 65 = .ok (.iadd, 1) := dk_96 (by decide +kernel)
theorem dX2_enter_66 : decode cX2_enter 66 = .ok (.putfield 68, 3) := dk_181 (x := 0) (y := 68) (by decide +kernel) rfl
theorem dX2_enter_69 : decode cX2_enter 69 = .ok (.aload_n 0, 1) := dk_42 (by decide +kernel)
theorem dX2_enter_70 : decode cX2_enter 70 = .ok (.getfield 55, 3) := dk_180 (x := 0) (y := 55) (by decide +kernel) rfl
theorem dX2_enter_73 : decode cX2_enter 73 = .ok (.invokestatic 272, 3) := dk_184 (x := 1) (y := 16) (by decide +kernel) rfl
theorem dX2_enter_76 : decode cX2_enter 76 = .ok (.iconst 2, 1) := dk_5 (by decide +kernel)
theorem dX2_enter_77 : decode cX2_enter 77 = .ok (.if_icmp .lt 13, 3) := dk_161 (x := 0) (y := 13) (by decide +kernel) rfl
theorem dX2_enter_80 : decode cX2_enter 80 = .ok (.aload_n 0, 1) := dk_42 (by decide +kernel)
theorem dX2_enter_81 : decode cX2_enter 81 = .ok (.dup, 1) := dk_89 (by decide +kernel)
theorem dX2_enter_82 : decode cX2_enter 82 = .ok (.getfield 71, 3) := dk_180 (x := 0) (y := 71) (by decide +kernel) rfl
theorem dX2_enter_85 : decode cX2_enter 85 = .ok (.iconst 1, 1) := dk_4 (by decide +kernel)
theorem dX2_enter_86 : decode cX2_enter 86 = .ok (.iadd, 1) := dk_96 (by decide +kernel)
theorem dX2_enter_87 : decode cX2_enter 87 = .ok (.putfield 71, 3) := dk_181 (x := 0) (y := 71) (by decide +kernel) rfl
theorem dX2_enter_90 : decode cX2_enter 90 = .ok (.aload_n 0, 1) := dk_42 (by decide +kernel)
theorem dX2_enter_91 : decode cX2_enter 91 = .ok (.iload_n 1, 1) := dk_27 (by decide +kernel)
theorem dX2_enter_92 : decode cX2_enter 92 = .ok (.invokevirtual 277, 3) := dk_182 (x := 1) (y := 21) (by decide +kernel) rfl
theorem dX2_enter_95 : decode cX2_enter 95 = .ok (.ifCond .eq 13, 3) := dk_153 (x := 0) (y := 13) (by decide +kernel) rfl
theorem dX2_enter_98 : decode cX2_enter 98 = .ok (.aload_n 0, 1) := dk_42 (by decide +kernel)
theorem dX2_enter_99 : decode cX2_enter 99 = .ok (.dup, 1) := dk_89 (by decide +kernel)
theorem dX2_enter_100 : decode cX2_enter 100 = .ok (.getfield 74, 3) := dk_180 (x := 0) (y := 74) (by decide +kernel) rfl
theorem dX2_enter_103 : decode cX2_enter 103 = .ok (.iconst 1, 1) := dk_4 (by decide +kernel)
theorem dX2_enter_104 : decode cX2_enter 104 = .ok (.iadd, 1) := dk_96 (by decide +kernel)
theorem dX2_enter_105 : decode cX2_enter 105 = .ok (.putfield 74, 3) := dk_181 (x := 0) (y := 74) (by decide +kernel) rfl
theorem dX2_enter_108 : decode cX2_enter 108 = .ok (.aload_n 0, 1) := dk_42 (by decide +kernel)
theorem dX2_enter_109 : decode cX2_enter 109 = .ok (.getfield 65, 3) := dk_180 (x := 0) (y := 65) (by decide +kernel) rfl
theorem dX2_enter_112 : decode cX2_enter 112 = .ok (.aload_n 2, 1) := dk_44 (by decide +kernel)
theorem dX2_enter_113 : decode cX2_enter 113 = .ok (.getfield 127, 3) := dk_180 (x := 0) (y := 127) (by decide +kernel) rfl
theorem dX2_enter_116 : decode cX2_enter 116 = .ok (.isub, 1) := dk_100 (by decide +kernel)
theorem dX2_enter_117 : decode cX2_enter 117 = .ok (.istore_n 3, 1) := dk_62 (by decide +kernel)
theorem dX2_enter_118 : decode cX2_enter 118 = .ok (.aload_n 0, 1) := dk_42 (by decide +kernel)
theorem dX2_enter_119 : decode cX2_enter 119 = .ok (.aload_n 0, 1) := dk_42 (by decide +kernel)
theorem dX2_enter_120 : decode cX2_enter 120 = .ok (.getfield 80, 3) := dk_180 (x := 0) (y := 80) (by decide +kernel) rfl
theorem dX2_enter_123 : decode cX2_enter 123 = .ok (.iload_n 3, 1) := dk_29 (by decide +kernel)
theorem dX2_enter_124 : decode cX2_enter 124 = .ok (.invokestatic 195, 3) := dk_184 (x := 0) (y := 195) (by decide +kernel) rfl
theorem dX2_enter_127 : decode cX2_enter 127 = .ok (.putfield 80, 3) := dk_181 (x := 0) (y := 80) (by decide +kernel) rfl
theorem dX2_enter_130 : decode cX2_enter 130 = .ok (.aload_n 0, 1) := dk_42 (by decide +kernel)
theorem dX2_enter_131 : decode cX2_enter 131 = .ok (.aload_n 0, 1) := dk_42 (by decide +kernel)
theorem dX2_enter_132 : decode cX2_enter 132 = .ok (.getfield 77, 3) := dk_180 (x := 0) (y := 77) (by decide +kernel) rfl
theorem dX2_enter_135 : decode cX2_enter 135 = .ok (.aload_n 2, 1) := dk_44 (by decide +kernel)
theorem dX2_enter_136 : decode cX2_enter 136 = .ok (.getfield 130, 3) := dk_180 (x := 0) (y := 130) (by decide +kernel) rfl
theorem dX2_enter_139 : decode cX2_enter 139 = .ok (.invokestatic 195, 3) := dk_184 (x := 0) (y := 195) (by decide +kernel) rfl
theorem dX2_enter_142 : decode cX2_enter 142 = .ok (.putfield 77, 3) := dk_181 (x := 0) (y := 77) (by decide +kernel) rfl
theorem dX2_enter_145 : decode cX2_enter 145 = .ok (.aload_n 0, 1) := dk_42 (by decide +kernel)
theorem dX2_enter_146 : decode cX2_enter 146 = .ok (.getfield 29, 3) := dk_180 (x := 0) (y := 29) (by decide +kernel) rfl
theorem dX2_enter_149 : decode cX2_enter 149 = .ok (.iload_n 1, 1) := dk_27 (by decide +kernel)
theorem dX2_enter_150 : decode cX2_enter 150 = .ok (.aload_n 2, 1) := dk_44 (by decide +kernel)
theorem dX2_enter_151 : decode cX2_enter 151 = .ok (.getfield 118, 3) := dk_180 (x := 0) (y := 118) (by decide +kernel) rfl
theorem dX2_enter_154 : decode cX2_enter 154 = .ok (.iload_n 3, 1) := dk_29 (by decide +kernel)
theorem dX2_enter_155 : decode cX2_enter 155 = .ok (.aload_n 2, 1) := dk_44 (by decide +kernel)
theorem dX2_enter_156 : decode cX2_enter 156 = .ok (.getfield 130, 3) := dk_180 (x := 0) (y := 130) (by decide +kernel) rfl
theorem dX2_enter_159 : decode cX2_enter 159 = .ok (.invokevirtual 218, 3) := dk_182 (x := 0) (y := 218) (by decide +kernel) rfl
theorem dX2_enter_162 : decode cX2_enter 162 = .ok (.return_, 1) := dk_177 (by decide +kernel)
def f_X2_enter_108 (n : Nat) (v0 : Nat) (v1 : Int32) (v2 : Nat) (M : Mem) : Option Mem :=
    chk (isO M 2 v0) <|
    chk (isO M 4 v2) <|
    bnd ((mI M v0 10) - (mI M v2 13)) fun x3 =>
    bnd (sI M v0 15 (if (mI M v0 15) < x3 then x3 else (mI M v0 15))) fun M5 =>
    bnd (sI M5 v0 14 (if (mI M5 v0 14) < (mI M5 v2 14) then (mI M5 v2 14) else (mI M5 v0 14))) fun M9 =>
    bnd (mR M9 v0 3) fun o13 =>
    chk (isO M9 3 o13) <|
    obd (f_X3_add o13 v1 (mI M9 v2 1) x3 (mI M9 v2 14) M9) fun M17 =>
    some M17
def f_X2_enter_90 (n : Nat) (v0 : Nat) (v1 : Int32) (v2 : Nat) (M : Mem) : Option Mem :=
    chk (isO M 2 v0) <|
    obd (f_X2_isSomeoneAheadOf n v0 v1 M) fun r3 =>
    if r3 = 0 then (
      f_X2_enter_108 n v0 v1 v2 M
      ) else (
      bnd (sI M v0 13 ((mI M v0 13) + (1 : Int32))) fun M6 =>
      f_X2_enter_108 n v0 v1 v2 M6
      )
def f_X2_enter (n : Nat) (o : Nat) (a1 : Int32) (M : Mem) : Option Mem :=
  chk (isO M 2 o) <|
  bnd (mR M o 2) fun o2 =>
  chk (isO M 102 o2) <|
  chk (inB a1 (mLn M o2)) <|
  bnd (mR M o2 (a1).toNatClampNeg) fun o6 =>
  chk (isO M 4 o6) <|
  bnd (sI M o6 4 (0 : Int32)) fun M9 =>
  bnd (sI M9 o 8 ((mI M9 o 8) &&& (((1 : Int32) <<< (a1 &&& 31)) ^^^ (-1 : Int32)))) fun M14 =>
  bnd (sI M14 o 7 ((mI M14 o 7) ||| ((1 : Int32) <<< (a1 &&& 31)))) fun M19 =>
  bnd (mR M19 o 1) fun o24 =>
  chk (isO M19 5 o24) <|
  bnd (sI M19 o6 15 (mI M19 o24 11)) fun M27 =>
  bnd (sI M27 o6 11 ((mI M27 o6 11) + (1 : Int32))) fun M33 =>
  bnd (sI M33 o 11 ((mI M33 o 11) + (1 : Int32))) fun M39 =>
  obd (f_J6_bitCount_0f7a4 (mI M39 o 7) M39) fun r46 =>
  if r46 < (2 : Int32) then (
    f_X2_enter_90 n o a1 o6 M39
    ) else (
    bnd (sI M39 o 12 ((mI M39 o 12) + (1 : Int32))) fun M49 =>
    f_X2_enter_90 n o a1 o6 M49
    )
theorem cd_X2_enter : (yX2_enter.cls ≠ "java/lang/invoke/MethodHandle" ∧ yX2_enter.cls ≠ "java/lang/invoke/VarHandle") ∧ (parseMethodDescriptor yX2_enter.desc).map (fun d => d.parameters.length) = some 1 := ⟨⟨by decide +kernel, by decide +kernel⟩, by decide +kernel⟩
section
variable {p : Program} {l : Launch} {e : Env} {R : Room} {s : State} {m : MethodId} {args : Array Value} {below : List Frame} {meth : Method} {c : Code} {G : Gam} {M0 : Mem}
theorem l_X2_enter_108 {rv : Mem} {n : Nat} {v0 : Nat} {v1 : Int32} {v2 : Nat} {M : Mem} (X : Cx p R s m args c G M0 cX2_enter yX2_enter.cls 4 2 45) (hr : meth.sig.returnType = none) (hlk : meth.locks = false) (hnm : meth.name = "enter") (hf : f_X2_enter_108 n v0 v1 v2 M = some rv) : Sg p l e R s m args below meth c (Qm below G args s none M0 rv) G M0 4 108 [(0, .ref (gB G + v0)), (1, .int v1), (2, .ref (gB G + v2))] [] M := by
  rw [f_X2_enter_108] at hf
  refine s_aload_n X 0 dX2_enter_108 rfl rfl ?_
  obtain ⟨h1, hf⟩ := pk_chk hf
  refine s_getI X (ci := 2) (k := 10) rfl (Nat.le_of_ble_eq_true rfl) h1 wd443 (fun _ _ _ => rfl) dX2_enter_109 ?_
  refine s_aload_n X 2 dX2_enter_112 rfl rfl ?_
  obtain ⟨h2, hf⟩ := pk_chk hf
  refine s_getI X (ci := 4) (k := 13) rfl (Nat.le_of_ble_eq_true rfl) h2 wd376 (fun _ _ _ => rfl) dX2_enter_113 ?_
  refine s_isub X dX2_enter_116 ?_
  obtain ⟨x3, e4, hf⟩ := pk_bnd hf
  refine s_nmI e4 ?_
  refine s_istore_n X (vs' := [(0, .ref (gB G + v0)), (1, .int v1), (2, .ref (gB G + v2)), (3, .int x3)]) dX2_enter_117 rfl (Nat.le_of_ble_eq_true rfl) [1, 2, 3, 0] rfl ?_
  refine s_aload_n X 0 dX2_enter_118 rfl rfl ?_
  refine s_aload_n X 0 dX2_enter_119 rfl rfl ?_
  refine s_getI X (ci := 2) (k := 15) rfl (Nat.le_of_ble_eq_true rfl) h1 wd454 (fun _ _ _ => rfl) dX2_enter_120 ?_
  refine s_iload_n X 3 dX2_enter_123 rfl rfl ?_
  refine s_mmax X wd1002 wd896 wd142 wd897 ⟨Nat.le_of_ble_eq_true rfl, Nat.le_of_ble_eq_true rfl⟩ dX2_enter_124 ?_
  obtain ⟨M5, e6, hf⟩ := pk_bnd hf
  refine s_putI X (ci := 2) (k := 15) rfl (Nat.le_of_ble_eq_true rfl) h1 wd454 (fun _ _ _ => rfl) rfl rfl e6 dX2_enter_127 ?_
  have h7 := io_sI e6 h1
  have h8 := io_sI e6 h2
  refine s_aload_n X 0 dX2_enter_130 rfl rfl ?_
  refine s_aload_n X 0 dX2_enter_131 rfl rfl ?_
  refine s_getI X (ci := 2) (k := 14) rfl (Nat.le_of_ble_eq_true rfl) h7 wd452 (fun _ _ _ => rfl) dX2_enter_132 ?_
  refine s_aload_n X 2 dX2_enter_135 rfl rfl ?_
  refine s_getI X (ci := 4) (k := 14) rfl (Nat.le_of_ble_eq_true rfl) h8 wd378 (fun _ _ _ => rfl) dX2_enter_136 ?_
  refine s_mmax X wd1002 wd896 wd142 wd897 ⟨Nat.le_of_ble_eq_true rfl, Nat.le_of_ble_eq_true rfl⟩ dX2_enter_139 ?_
  obtain ⟨M9, e10, hf⟩ := pk_bnd hf
  refine s_putI X (ci := 2) (k := 14) rfl (Nat.le_of_ble_eq_true rfl) h7 wd452 (fun _ _ _ => rfl) rfl rfl e10 dX2_enter_142 ?_
  have h11 := io_sI e10 h7
  have h12 := io_sI e10 h8
  refine s_aload_n X 0 dX2_enter_145 rfl rfl ?_
  obtain ⟨o13, e14, hf⟩ := pk_bnd hf
  obtain ⟨h15, hf⟩ := pk_chk hf
  refine s_getR X (ci := 2) (k := 3) rfl (Nat.le_of_ble_eq_true rfl) h11 wd427 (fun _ _ _ => rfl) (e14 ▸ h15) dX2_enter_146 (e14 ▸ ?_)
  refine s_iload_n X 1 dX2_enter_149 rfl rfl ?_
  refine s_aload_n X 2 dX2_enter_150 rfl rfl ?_
  refine s_getI X (ci := 4) (k := 1) rfl (Nat.le_of_ble_eq_true rfl) h12 wd331 (fun _ _ _ => rfl) dX2_enter_151 ?_
  refine s_iload_n X 3 dX2_enter_154 rfl rfl ?_
  refine s_aload_n X 2 dX2_enter_155 rfl rfl ?_
  refine s_getI X (ci := 4) (k := 14) rfl (Nat.le_of_ble_eq_true rfl) h12 wd378 (fun _ _ _ => rfl) dX2_enter_156 ?_
  obtain ⟨M17, hc16, hf⟩ := pk_obd hf
  refine s_callV X (ci := 3) (k_X3_add G hc16) rfl h15 wd998 wd999 wd1000 wd1001 wd132 cd_X3_add ⟨Nat.le_of_ble_eq_true rfl, Nat.le_of_ble_eq_true rfl⟩ (Nat.le_of_ble_eq_true rfl) dX2_enter_159 ?_
  cases hf
  exact s_vret X hr hlk dX2_enter_162
theorem l_X2_enter_90 {rv : Mem} {n : Nat} {v0 : Nat} {v1 : Int32} {v2 : Nat} {M : Mem} (X : Cx p R s m args c G M0 cX2_enter yX2_enter.cls 4 2 45) (hr : meth.sig.returnType = none) (hlk : meth.locks = false) (hnm : meth.name = "enter") (hf : f_X2_enter_90 n v0 v1 v2 M = some rv) : Sg p l e R s m args below meth c (Qm below G args s none M0 rv) G M0 4 90 [(0, .ref (gB G + v0)), (1, .int v1), (2, .ref (gB G + v2))] [] M := by
  rw [f_X2_enter_90] at hf
  refine s_aload_n X 0 dX2_enter_90 rfl rfl ?_
  refine s_iload_n X 1 dX2_enter_91 rfl rfl ?_
  obtain ⟨h1, hf⟩ := pk_chk hf
  obtain ⟨r3, hc2, hf⟩ := pk_obd hf
  refine s_callV X (ci := 2) (k_X2_isSomeoneAheadOf G hc2) rfl h1 wd1040 wd1042 wd20 wd1043 wd130 cd_X2_isSomeoneAheadOf ⟨Nat.le_of_ble_eq_true rfl, Nat.le_of_ble_eq_true rfl⟩ (Nat.le_of_ble_eq_true rfl) dX2_enter_92 ?_
  have hs4 := pk_ite hf
  clear hf
  refine s_if_eq X (tgt := 108) dX2_enter_95 rfl (fun c5 => ?_) (fun c5 => ?_)
  · have hf := hs4.1 c5
    exact l_X2_enter_108 X hr hlk hnm hf
  · have hf := hs4.2 c5
    refine s_aload_n X 0 dX2_enter_98 rfl rfl ?_
    refine s_dup X dX2_enter_99 rfl ?_
    refine s_getI X (ci := 2) (k := 13) rfl (Nat.le_of_ble_eq_true rfl) h1 wd450 (fun _ _ _ => rfl) dX2_enter_100 ?_
    refine s_iconst X (v := (1 : Int32)) dX2_enter_103 rfl ?_
    refine s_iadd X dX2_enter_104 ?_
    obtain ⟨M6, e7, hf⟩ := pk_bnd hf
    refine s_putI X (ci := 2) (k := 13) rfl (Nat.le_of_ble_eq_true rfl) h1 wd450 (fun _ _ _ => rfl) rfl rfl e7 dX2_enter_105 ?_
    have h8 := io_sI e7 h1
    exact l_X2_enter_108 X hr hlk hnm hf
end
theorem k_X2_enter (G : Gam) {n : Nat} {o : Nat} {a1 : Int32} {M : Mem} {rv : Mem} (hf : f_X2_enter n o a1 M = some rv) : Kt yX2_enter cX2_enter 4 none 2 45 G [.ref (gB G + o), .int a1] M rv none := by
  refine Kt.of (by decide) (Nat.le_of_ble_eq_true rfl) ?_
  intro p l e R s m args below meth c X hr hlk hnm
  refine s_drop [0, 1] (vs' := [(0, .ref (gB G + o)), (1, .int a1)]) rfl ?_
  rw [f_X2_enter] at hf
  refine s_aload_n X 0 dX2_enter_0 rfl rfl ?_
  obtain ⟨h1, hf⟩ := pk_chk hf
  obtain ⟨o2, e3, hf⟩ := pk_bnd hf
  obtain ⟨h4, hf⟩ := pk_chk hf
  refine s_getR X (ci := 2) (k := 2) rfl (Nat.le_of_ble_eq_true rfl) h1 wd423 (fun _ _ _ => rfl) (e3 ▸ h4) dX2_enter_1 (e3 ▸ ?_)
  refine s_iload_n X 1 dX2_enter_4 rfl rfl ?_
  obtain ⟨h5, hf⟩ := pk_chk hf
  obtain ⟨o6, e7, hf⟩ := pk_bnd hf
  obtain ⟨h8, hf⟩ := pk_chk hf
  refine s_aald X h4 h5 (e7 ▸ h8) dX2_enter_5 (e7 ▸ ?_)
  refine s_astore_n X (vs' := [(0, .ref (gB G + o)), (1, .int a1), (2, .ref (gB G + o6))]) dX2_enter_6 rfl (Nat.le_of_ble_eq_true rfl) [1, 2, 0] rfl ?_
  refine s_aload_n X 2 dX2_enter_7 rfl rfl ?_
  refine s_iconst X (v := (0 : Int32)) dX2_enter_8 rfl ?_
  obtain ⟨M9, e10, hf⟩ := pk_bnd hf
  refine s_putI X (ci := 4) (k := 4) rfl (Nat.le_of_ble_eq_true rfl) h8 wd343 (fun _ _ _ => rfl) rfl rfl e10 dX2_enter_9 ?_
  have h11 := io_sI e10 h1
  have h12 := io_sI e10 h4
  have h13 := io_sI e10 h8
  refine s_aload_n X 0 dX2_enter_12 rfl rfl ?_
  refine s_dup X dX2_enter_13 rfl ?_
  refine s_getI X (ci := 2) (k := 8) rfl (Nat.le_of_ble_eq_true rfl) h11 wd438 (fun _ _ _ => rfl) dX2_enter_14 ?_
  refine s_iconst X (v := (1 : Int32)) dX2_enter_17 rfl ?_
  refine s_iload_n X 1 dX2_enter_18 rfl rfl ?_
  refine s_ishl X dX2_enter_19 ?_
  refine s_iconst X (v := (-1 : Int32)) dX2_enter_20 rfl ?_
  refine s_ixor X dX2_enter_21 ?_
  refine s_iand X dX2_enter_22 ?_
  obtain ⟨M14, e15, hf⟩ := pk_bnd hf
  refine s_putI X (ci := 2) (k := 8) rfl (Nat.le_of_ble_eq_true rfl) h11 wd438 (fun _ _ _ => rfl) rfl rfl e15 dX2_enter_23 ?_
  have h16 := io_sI e15 h11
  have h17 := io_sI e15 h12
  have h18 := io_sI e15 h13
  refine s_aload_n X 0 dX2_enter_26 rfl rfl ?_
  refine s_dup X dX2_enter_27 rfl ?_
  refine s_getI X (ci := 2) (k := 7) rfl (Nat.le_of_ble_eq_true rfl) h16 wd434 (fun _ _ _ => rfl) dX2_enter_28 ?_
  refine s_iconst X (v := (1 : Int32)) dX2_enter_31 rfl ?_
  refine s_iload_n X 1 dX2_enter_32 rfl rfl ?_
  refine s_ishl X dX2_enter_33 ?_
  refine s_ior X dX2_enter_34 ?_
  obtain ⟨M19, e20, hf⟩ := pk_bnd hf
  refine s_putI X (ci := 2) (k := 7) rfl (Nat.le_of_ble_eq_true rfl) h16 wd434 (fun _ _ _ => rfl) rfl rfl e20 dX2_enter_35 ?_
  have h21 := io_sI e20 h16
  have h22 := io_sI e20 h17
  have h23 := io_sI e20 h18
  refine s_aload_n X 2 dX2_enter_38 rfl rfl ?_
  refine s_aload_n X 0 dX2_enter_39 rfl rfl ?_
  obtain ⟨o24, e25, hf⟩ := pk_bnd hf
  obtain ⟨h26, hf⟩ := pk_chk hf
  refine s_getR X (ci := 2) (k := 1) rfl (Nat.le_of_ble_eq_true rfl) h21 wd419 (fun _ _ _ => rfl) (e25 ▸ h26) dX2_enter_40 (e25 ▸ ?_)
  refine s_getI X (ci := 5) (k := 11) rfl (Nat.le_of_ble_eq_true rfl) h26 wd273 (fun _ _ _ => rfl) dX2_enter_43 ?_
  obtain ⟨M27, e28, hf⟩ := pk_bnd hf
  refine s_putI X (ci := 4) (k := 15) rfl (Nat.le_of_ble_eq_true rfl) h23 wd381 (fun _ _ _ => rfl) rfl rfl e28 dX2_enter_46 ?_
  have h29 := io_sI e28 h21
  have h30 := io_sI e28 h22
  have h31 := io_sI e28 h23
  have h32 := io_sI e28 h26
  refine s_aload_n X 2 dX2_enter_49 rfl rfl ?_
  refine s_dup X dX2_enter_50 rfl ?_
  refine s_getI X (ci := 4) (k := 11) rfl (Nat.le_of_ble_eq_true rfl) h31 wd370 (fun _ _ _ => rfl) dX2_enter_51 ?_
  refine s_iconst X (v := (1 : Int32)) dX2_enter_54 rfl ?_
  refine s_iadd X dX2_enter_55 ?_
  obtain ⟨M33, e34, hf⟩ := pk_bnd hf
  refine s_putI X (ci := 4) (k := 11) rfl (Nat.le_of_ble_eq_true rfl) h31 wd370 (fun _ _ _ => rfl) rfl rfl e34 dX2_enter_56 ?_
  have h35 := io_sI e34 h29
  have h36 := io_sI e34 h30
  have h37 := io_sI e34 h31
  have h38 := io_sI e34 h32
  refine s_aload_n X 0 dX2_enter_59 rfl rfl ?_
  refine s_dup X dX2_enter_60 rfl ?_
  refine s_getI X (ci := 2) (k := 11) rfl (Nat.le_of_ble_eq_true rfl) h35 wd445 (fun _ _ _ => rfl) dX2_enter_61 ?_
  refine s_iconst X (v := (1 : Int32)) dX2_enter_64 rfl ?_
  refine s_iadd X dX2_enter_65 ?_
  obtain ⟨M39, e40, hf⟩ := pk_bnd hf
  refine s_putI X (ci := 2) (k := 11) rfl (Nat.le_of_ble_eq_true rfl) h35 wd445 (fun _ _ _ => rfl) rfl rfl e40 dX2_enter_66 ?_
  have h41 := io_sI e40 h35
  have h42 := io_sI e40 h36
  have h43 := io_sI e40 h37
  have h44 := io_sI e40 h38
  refine s_aload_n X 0 dX2_enter_69 rfl rfl ?_
  refine s_getI X (ci := 2) (k := 7) rfl (Nat.le_of_ble_eq_true rfl) h41 wd434 (fun _ _ _ => rfl) dX2_enter_70 ?_
  obtain ⟨r46, hc45, hf⟩ := pk_obd hf
  refine s_callS X (k_J6_bitCount_0f7a4 G hc45) wd1039 wd831 wd832 wd141 cd_J6_bitCount_0f7a4 ⟨Nat.le_of_ble_eq_true rfl, Nat.le_of_ble_eq_true rfl⟩ (Nat.le_of_ble_eq_true rfl) dX2_enter_73 ?_
  refine s_iconst X (v := (2 : Int32)) dX2_enter_76 rfl ?_
  have hs47 := pk_ite hf
  clear hf
  refine s_icmp_lt X (tgt := 90) dX2_enter_77 rfl (fun c48 => ?_) (fun c48 => ?_)
  · have hf := hs47.1 c48
    exact l_X2_enter_90 X hr hlk hnm hf
  · have hf := hs47.2 c48
    refine s_aload_n X 0 dX2_enter_80 rfl rfl ?_
    refine s_dup X dX2_enter_81 rfl ?_
    refine s_getI X (ci := 2) (k := 12) rfl (Nat.le_of_ble_eq_true rfl) h41 wd448 (fun _ _ _ => rfl) dX2_enter_82 ?_
    refine s_iconst X (v := (1 : Int32)) dX2_enter_85 rfl ?_
    refine s_iadd X dX2_enter_86 ?_
    obtain ⟨M49, e50, hf⟩ := pk_bnd hf
    refine s_putI X (ci := 2) (k := 12) rfl (Nat.le_of_ble_eq_true rfl) h41 wd448 (fun _ _ _ => rfl) rfl rfl e50 dX2_enter_87 ?_
    have h51 := io_sI e50 h41
    have h52 := io_sI e50 h42
    have h53 := io_sI e50 h43
    have h54 := io_sI e50 h44
    exact l_X2_enter_90 X hr hlk hnm hf
theorem dX2_hearGrant_0 : decode cX2_hearGrant 0 = .ok (.aload_n 0, 1) := dk_42 (by decide +kernel)
theorem dX2_hearGrant_1 : decode cX2_hearGrant 1 = .ok (.getfield 20, 3) := dk_180 (x := 0) (y := 20) (by decide +kernel) rfl
theorem dX2_hearGrant_4 : decode cX2_hearGrant 4 = .ok (.iload_n 2, 1) := dk_28 (by decide +kernel)
theorem dX2_hearGrant_5 : decode cX2_hearGrant 5 = .ok (.aaload, 1) := dk_50 (by decide +kernel)
theorem dX2_hearGrant_6 : decode cX2_hearGrant 6 = .ok (.astore 4, 2) := dk_58 (x := 4) (by decide +kernel)
theorem dX2_hearGrant_8 : decode cX2_hearGrant 8 = .ok (.aload_n 0, 1) := dk_42 (by decide +kernel)
theorem dX2_hearGrant_9 : decode cX2_hearGrant 9 = .ok (.iload_n 2, 1) := dk_28 (by decide +kernel)
theorem dX2_hearGrant_10 : decode cX2_hearGrant 10 = .ok (.iload_n 3, 1) := dk_29 (by decide +kernel)
theorem dX2_hearGrant_11 : decode cX2_hearGrant 11 = .ok (.invokevirtual 244, 3) := dk_182 (x := 0) (y := 244) (by decide +kernel) rfl
theorem dX2_hearGrant_14 : decode cX2_hearGrant 14 = .ok (.ifCond .ne 4, 3) := dk_154 (x := 0) (y := 4) (by decide +kernel) rfl
theorem dX2_hearGrant_17 : decode cX2_hearGrant 17 = .ok (.return_, 1) := dk_177 (by decide +kernel)
theorem dX2_hearGrant_18 : decode cX2_hearGrant 18 = .ok (.aload 4, 2) := dk_25 (x := 4) (by decide +kernel)
theorem dX2_hearGrant_20 : decode cX2_hearGrant 20 = .ok (.dup, 1) := dk_89 (by decide +kernel)
theorem dX2_hearGrant_21 : decode cX2_hearGrant 21 = .ok (.getfield 247, 3) := dk_180 (x := 0) (y := 247) (by decide +kernel) rfl
theorem dX2_hearGrant_24 : decode cX2_hearGrant 24 = .ok (.iconst 1, 1) := dk_4 (by decide +kernel)
theorem dX2_hearGrant_25 : decode cX2_hearGrant 25 = .ok (.iload_n 1, 1) := dk_27 (by decide +kernel)
theorem dX2_hearGrant_26 : decode cX2_hearGrant 26 = .ok (.ishl, 1) := dk_120 (by decide +kernel)
theorem dX2_hearGrant_27 : decode cX2_hearGrant 27 = .ok (.ior, 1) := dk_128 (by decide +kernel)
theorem dX2_hearGrant_28 : decode cX2_hearGrant 28 = .ok (.putfield 247, 3) := dk_181 (x := 0) (y := 247) (by decide +kernel) rfl
theorem dX2_hearGrant_31 : decode cX2_hearGrant 31 = .ok (.aload 4, 2) := dk_25 (x := 4) (by decide +kernel)
theorem dX2_hearGrant_33 : decode cX2_hearGrant 33 = .ok (.dup, 1) := dk_89 (by decide +kernel)
theorem dX2_hearGrant_34 : decode cX2_hearGrant 34 = .ok (.getfield 250, 3) := dk_180 (x := 0) (y := 250) (by decide +kernel) rfl
theorem dX2_hearGrant_37 : decode cX2_hearGrant 37 = .ok (.iconst 1, 1) := dk_4 (by decide +kernel)
theorem dX2_hearGrant_38 : decode cX2_hearGrant 38 = .ok (.iload_n 1, 1) := dk_27 (by decide +kernel)
theorem dX2_hearGrant_39 : decode cX2_hearGrant 39 = .ok (.ishl, 1) := dk_120 (by decide +kernel)
theorem dX2_hearGrant_40 : decode cX2_hearGrant 40 = .ok (.iconst (-1), 1) := dk_2 (by decide +kernel)
theorem dX2_hearGrant_41 : decode cX2_hearGrant 41 = .ok (.ixor, 1) := dk_130 (by decide +kernel)
theorem dX2_hearGrant_42 : decode cX2_hearGrant 42 = .ok (.iand, 1) := dk_126 (by decide +kernel)
theorem dX2_hearGrant_43 : decode cX2_hearGrant 43 = .ok (.putfield 250, 3) := dk_181 (x := 0) (y := 250) (by decide +kernel) rfl
theorem dX2_hearGrant_46 : decode cX2_hearGrant 46 = .ok (.aload 4, 2) := dk_25 (x := 4) (by decide +kernel)
theorem dX2_hearGrant_48 : decode cX2_hearGrant 48 = .ok (.dup, 1) := dk_89 (by decide +kernel)
theorem dX2_hearGrant_49 : decode cX2_hearGrant 49 = .ok (.getfield 253, 3) := dk_180 (x := 0) (y := 253) (by decide +kernel) rfl
theorem dX2_hearGrant_52 : decode cX2_hearGrant 52 = .ok (.iconst 1, 1) := dk_4 (by decide +kernel)
theorem dX2_hearGrant_53 : decode cX2_hearGrant 53 = .ok (.iload_n 1, 1) := dk_27 (by decide +kernel)
theorem dX2_hearGrant_54 : decode cX2_hearGrant 54 = .ok (.ishl, 1) := dk_120 (by decide +kernel)
theorem dX2_hearGrant_55 : decode cX2_hearGrant 55 = .ok (.iconst (-1), 1) := dk_2 (by decide +kernel)
theorem dX2_hearGrant_56 : decode cX2_hearGrant 56 = .ok (.ixor, 1) := dk_130 (by decide +kernel)
theorem dX2_hearGrant_57 : decode cX2_hearGrant 57 = .ok (.iand, 1) := dk_126 (by decide +kernel)
theorem dX2_hearGrant_58 : decode cX2_hearGrant 58 = .ok (.putfield 253, 3) := dk_181 (x := 0) (y := 253) (by decide +kernel) rfl
theorem dX2_hearGrant_61 : decode cX2_hearGrant 61 = .ok (.aload 4, 2) := dk_25 (x := 4) (by decide +kernel)
theorem dX2_hearGrant_63 : decode cX2_hearGrant 63 = .ok (.getfield 247, 3) := dk_180 (x := 0) (y := 247) (by decide +kernel) rfl
theorem dX2_hearGrant_66 : decode cX2_hearGrant 66 = .ok (.aload 4, 2) := dk_25 (x := 4) (by decide +kernel)
theorem dX2_hearGrant_68 : decode cX2_hearGrant 68 = .ok (.getfield 124, 3) := dk_180 (x := 0) (y := 124) (by decide +kernel) rfl
theorem dX2_hearGrant_71 : decode cX2_hearGrant 71 = .ok (.if_icmp .ne 8, 3) := dk_160 (x := 0) (y := 8) (by decide +kernel) rfl
theorem dX2_hearGrant_74 : decode cX2_hearGrant 74 = .ok (.aload_n 0, 1) := dk_42 (by decide +kernel)
theorem dX2_hearGrant_75 : decode cX2_hearGrant 75 = .ok (.iload_n 2, 1) := dk_28 (by decide +kernel)
theorem dX2_hearGrant_76 : decode cX2_hearGrant 76 = .ok (.invokevirtual 256, 3) := dk_182 (x := 1) (y := 0) (by decide +kernel) rfl
theorem dX2_hearGrant_79 : decode cX2_hearGrant 79 = .ok (.return_, 1) := dk_177 (by decide +kernel)
def f_X2_hearGrant (n : Nat) (o : Nat) (a1 : Int32) (a2 : Int32) (a3 : Int32) (M : Mem) : Option Mem :=
  chk (isO M 2 o) <|
  bnd (mR M o 2) fun o2 =>
  chk (isO M 102 o2) <|
  chk (inB a2 (mLn M o2)) <|
  bnd (mR M o2 (a2).toNatClampNeg) fun o6 =>
  chk (isO M 4 o6) <|
  obd (f_X2_isAskingBy o a2 a3 M) fun r10 =>
  if r10 = 0 then (
    some M
    ) else (
    bnd (sI M o6 3 ((mI M o6 3) ||| ((1 : Int32) <<< (a1 &&& 31)))) fun M13 =>
    bnd (sI M13 o6 4 ((mI M13 o6 4) &&& (((1 : Int32) <<< (a1 &&& 31)) ^^^ (-1 : Int32)))) fun M18 =>
    bnd (sI M18 o6 5 ((mI M18 o6 5) &&& (((1 : Int32) <<< (a1 &&& 31)) ^^^ (-1 : Int32)))) fun M23 =>
    if (mI M23 o6 3) = (mI M23 o6 2) then (
      obd (f_X2_enter n o a2 M23) fun M31 =>
      some M31
      ) else (
      some M23
      )
    )
theorem cd_X2_hearGrant : (yX2_hearGrant.cls ≠ "java/lang/invoke/MethodHandle" ∧ yX2_hearGrant.cls ≠ "java/lang/invoke/VarHandle") ∧ (parseMethodDescriptor yX2_hearGrant.desc).map (fun d => d.parameters.length) = some 3 := ⟨⟨by decide +kernel, by decide +kernel⟩, by decide +kernel⟩
theorem k_X2_hearGrant (G : Gam) {n : Nat} {o : Nat} {a1 : Int32} {a2 : Int32} {a3 : Int32} {M : Mem} {rv : Mem} (hf : f_X2_hearGrant n o a1 a2 a3 M = some rv) : Kt yX2_hearGrant cX2_hearGrant 5 none 3 68 G [.ref (gB G + o), .int a1, .int a2, .int a3] M rv none := by
  refine Kt.of (by decide) (Nat.le_of_ble_eq_true rfl) ?_
  intro p l e R s m args below meth c X hr hlk hnm
  refine s_drop [0, 1, 2, 3] (vs' := [(0, .ref (gB G + o)), (1, .int a1), (2, .int a2), (3, .int a3)]) rfl ?_
  rw [f_X2_hearGrant] at hf
  refine s_aload_n X 0 dX2_hearGrant_0 rfl rfl ?_
  obtain ⟨h1, hf⟩ := pk_chk hf
  obtain ⟨o2, e3, hf⟩ := pk_bnd hf
  obtain ⟨h4, hf⟩ := pk_chk hf
  refine s_getR X (ci := 2) (k := 2) rfl (Nat.le_of_ble_eq_true rfl) h1 wd423 (fun _ _ _ => rfl) (e3 ▸ h4) dX2_hearGrant_1 (e3 ▸ ?_)
  refine s_iload_n X 2 dX2_hearGrant_4 rfl rfl ?_
  obtain ⟨h5, hf⟩ := pk_chk hf
  obtain ⟨o6, e7, hf⟩ := pk_bnd hf
  obtain ⟨h8, hf⟩ := pk_chk hf
  refine s_aald X h4 h5 (e7 ▸ h8) dX2_hearGrant_5 (e7 ▸ ?_)
  refine s_astore X (vs' := [(0, .ref (gB G + o)), (1, .int a1), (2, .int a2), (3, .int a3), (4, .ref (gB G + o6))]) dX2_hearGrant_6 (Nat.le_of_ble_eq_true rfl) [1, 2, 3, 4, 0] rfl ?_
  refine s_aload_n X 0 dX2_hearGrant_8 rfl rfl ?_
  refine s_iload_n X 2 dX2_hearGrant_9 rfl rfl ?_
  refine s_iload_n X 3 dX2_hearGrant_10 rfl rfl ?_
  obtain ⟨r10, hc9, hf⟩ := pk_obd hf
  refine s_callV X (ci := 2) (k_X2_isAskingBy G hc9) rfl h1 wd1031 wd1033 wd18 wd1034 wd130 cd_X2_isAskingBy ⟨Nat.le_of_ble_eq_true rfl, Nat.le_of_ble_eq_true rfl⟩ (Nat.le_of_ble_eq_true rfl) dX2_hearGrant_11 ?_
  have hs11 := pk_ite hf
  clear hf
  refine s_if_ne X (tgt := 18) dX2_hearGrant_14 rfl (fun c12 => ?_) (fun c12 => ?_)
  · have hf := hs11.2 c12
    refine s_aload X 4 dX2_hearGrant_18 rfl ?_
    refine s_dup X dX2_hearGrant_20 rfl ?_
    refine s_getI X (ci := 4) (k := 3) rfl (Nat.le_of_ble_eq_true rfl) h8 wd339 (fun _ _ _ => rfl) dX2_hearGrant_21 ?_
    refine s_iconst X (v := (1 : Int32)) dX2_hearGrant_24 rfl ?_
    refine s_iload_n X 1 dX2_hearGrant_25 rfl rfl ?_
    refine s_ishl X dX2_hearGrant_26 ?_
    refine s_ior X dX2_hearGrant_27 ?_
    obtain ⟨M13, e14, hf⟩ := pk_bnd hf
    refine s_putI X (ci := 4) (k := 3) rfl (Nat.le_of_ble_eq_true rfl) h8 wd339 (fun _ _ _ => rfl) rfl rfl e14 dX2_hearGrant_28 ?_
    have h15 := io_sI e14 h1
    have h16 := io_sI e14 h4
    have h17 := io_sI e14 h8
    refine s_aload X 4 dX2_hearGrant_31 rfl ?_
    refine s_dup X dX2_hearGrant_33 rfl ?_
    refine s_getI X (ci := 4) (k := 4) rfl (Nat.le_of_ble_eq_true rfl) h17 wd343 (fun _ _ _ => rfl) dX2_hearGrant_34 ?_
    refine s_iconst X (v := (1 : Int32)) dX2_hearGrant_37 rfl ?_
    refine s_iload_n X 1 dX2_hearGrant_38 rfl rfl ?_
    refine s_ishl X dX2_hearGrant_39 ?_
    refine s_iconst X (v := (-1 : Int32)) dX2_hearGrant_40 rfl ?_
    refine s_ixor X dX2_hearGrant_41 ?_
    refine s_iand X dX2_hearGrant_42 ?_
    obtain ⟨M18, e19, hf⟩ := pk_bnd hf
    refine s_putI X (ci := 4) (k := 4) rfl (Nat.le_of_ble_eq_true rfl) h17 wd343 (fun _ _ _ => rfl) rfl rfl e19 dX2_hearGrant_43 ?_
    have h20 := io_sI e19 h15
    have h21 := io_sI e19 h16
    have h22 := io_sI e19 h17
    refine s_aload X 4 dX2_hearGrant_46 rfl ?_
    refine s_dup X dX2_hearGrant_48 rfl ?_
    refine s_getI X (ci := 4) (k := 5) rfl (Nat.le_of_ble_eq_true rfl) h22 wd347 (fun _ _ _ => rfl) dX2_hearGrant_49 ?_
    refine s_iconst X (v := (1 : Int32)) dX2_hearGrant_52 rfl ?_
    refine s_iload_n X 1 dX2_hearGrant_53 rfl rfl ?_
    refine s_ishl X dX2_hearGrant_54 ?_
    refine s_iconst X (v := (-1 : Int32)) dX2_hearGrant_55 rfl ?_
    refine s_ixor X dX2_hearGrant_56 ?_
    refine s_iand X dX2_hearGrant_57 ?_
    obtain ⟨M23, e24, hf⟩ := pk_bnd hf
    refine s_putI X (ci := 4) (k := 5) rfl (Nat.le_of_ble_eq_true rfl) h22 wd347 (fun _ _ _ => rfl) rfl rfl e24 dX2_hearGrant_58 ?_
    have h25 := io_sI e24 h20
    have h26 := io_sI e24 h21
    have h27 := io_sI e24 h22
    refine s_aload X 4 dX2_hearGrant_61 rfl ?_
    refine s_getI X (ci := 4) (k := 3) rfl (Nat.le_of_ble_eq_true rfl) h27 wd339 (fun _ _ _ => rfl) dX2_hearGrant_63 ?_
    refine s_aload X 4 dX2_hearGrant_66 rfl ?_
    refine s_getI X (ci := 4) (k := 2) rfl (Nat.le_of_ble_eq_true rfl) h27 wd334 (fun _ _ _ => rfl) dX2_hearGrant_68 ?_
    have hs28 := pk_ite hf
    clear hf
    refine s_icmp_ne X (tgt := 79) dX2_hearGrant_71 rfl (fun c29 => ?_) (fun c29 => ?_)
    · have hf := hs28.2 c29
      cases hf
      exact s_vret X hr hlk dX2_hearGrant_79
    · have hf := hs28.1 c29
      refine s_aload_n X 0 dX2_hearGrant_74 rfl rfl ?_
      refine s_iload_n X 2 dX2_hearGrant_75 rfl rfl ?_
      obtain ⟨M31, hc30, hf⟩ := pk_obd hf
      refine s_callV X (ci := 2) (k_X2_enter G hc30) rfl h25 wd1035 wd1037 wd19 wd1038 wd130 cd_X2_enter ⟨Nat.le_of_ble_eq_true rfl, Nat.le_of_ble_eq_true rfl⟩ (Nat.le_of_ble_eq_true rfl) dX2_hearGrant_76 ?_
      cases hf
      exact s_vret X hr hlk dX2_hearGrant_79
  · have hf := hs11.1 c12
    cases hf
    exact s_vret X hr hlk dX2_hearGrant_17
theorem dX2_hearFail_0 : decode cX2_hearFail 0 = .ok (.aload_n 0, 1) := dk_42 (by decide +kernel)
theorem dX2_hearFail_1 : decode cX2_hearFail 1 = .ok (.getfield 20, 3) := dk_180 (x := 0) (y := 20) (by decide +kernel) rfl
theorem dX2_hearFail_4 : decode cX2_hearFail 4 = .ok (.iload_n 2, 1) := dk_28 (by decide +kernel)
theorem dX2_hearFail_5 : decode cX2_hearFail 5 = .ok (.aaload, 1) := dk_50 (by decide +kernel)
theorem dX2_hearFail_6 : decode cX2_hearFail 6 = .ok (.astore 4, 2) := dk_58 (x := 4) (by decide +kernel)
theorem dX2_hearFail_8 : decode cX2_hearFail 8 = .ok (.aload_n 0, 1) := dk_42 (by decide +kernel)
theorem dX2_hearFail_9 : decode cX2_hearFail 9 = .ok (.iload_n 2, 1) := dk_28 (by decide +kernel)
theorem dX2_hearFail_10 : decode cX2_hearFail 10 = .ok (.iload_n 3, 1) := dk_29 (by decide +kernel)
theorem dX2_hearFail_11 : decode cX2_hearFail 11 = .ok (.invokevirtual 244, 3) := dk_182 (x := 0) (y := 244) (by decide +kernel) rfl
theorem dX2_hearFail_14 : decode cX2_hearFail 14 = .ok (.ifCond .ne 4, 3) := dk_154 (x := 0) (y := 4) (by decide +kernel) rfl
theorem dX2_hearFail_17 : decode cX2_hearFail 17 = .ok (.return_, 1) := dk_177 (by decide +kernel)
theorem dX2_hearFail_18 : decode cX2_hearFail 18 = .ok (.aload 4, 2) := dk_25 (x := 4) (by decide +kernel)
theorem dX2_hearFail_20 : decode cX2_hearFail 20 = .ok (.dup, 1) := dk_89 (by decide +kernel)
theorem dX2_hearFail_21 : decode cX2_hearFail 21 = .ok (.getfield 253, 3) := dk_180 (x := 0) (y := 253) (by decide +kernel) rfl
theorem dX2_hearFail_24 : decode cX2_hearFail 24 = .ok (.iconst 1, 1) := dk_4 (by decide +kernel)
theorem dX2_hearFail_25 : decode cX2_hearFail 25 = .ok (.iload_n 1, 1) := dk_27 (by decide +kernel)
theorem dX2_hearFail_26 : decode cX2_hearFail 26 = .ok (.ishl, 1) := dk_120 (by decide +kernel)
theorem dX2_hearFail_27 : decode cX2_hearFail 27 = .ok (.ior, 1) := dk_128 (by decide +kernel)
theorem dX2_hearFail_28 : decode cX2_hearFail 28 = .ok (.putfield 253, 3) := dk_181 (x := 0) (y := 253) (by decide +kernel) rfl
theorem dX2_hearFail_31 : decode cX2_hearFail 31 = .ok (.aload_n 0, 1) := dk_42 (by decide +kernel)
theorem dX2_hearFail_32 : decode cX2_hearFail 32 = .ok (.iconst 4, 1) := dk_7 (by decide +kernel)
theorem dX2_hearFail_33 : decode cX2_hearFail 33 = .ok (.iload_n 2, 1) := dk_28 (by decide +kernel)
theorem dX2_hearFail_34 : decode cX2_hearFail 34 = .ok (.aload 4, 2) := dk_25 (x := 4) (by decide +kernel)
theorem dX2_hearFail_36 : decode cX2_hearFail 36 = .ok (.getfield 250, 3) := dk_180 (x := 0) (y := 250) (by decide +kernel) rfl
theorem dX2_hearFail_39 : decode cX2_hearFail 39 = .ok (.invokevirtual 133, 3) := dk_182 (x := 0) (y := 133) (by decide +kernel) rfl
theorem dX2_hearFail_42 : decode cX2_hearFail 42 = .ok (.aload 4, 2) := dk_25 (x := 4) (by decide +kernel)
theorem dX2_hearFail_44 : decode cX2_hearFail 44 = .ok (.dup, 1) := dk_89 (by decide +kernel)
theorem dX2_hearFail_45 : decode cX2_hearFail 45 = .ok (.getfield 247, 3) := dk_180 (x := 0) (y := 247) (by decide +kernel) rfl
theorem dX2_hearFail_48 : decode cX2_hearFail 48 = .ok (.aload 4, 2) := dk_25 (x := 4) (by decide +kernel)
theorem dX2_hearFail_50 : decode cX2_hearFail 50 = .ok (.getfield 250, 3) := dk_180 (x := 0) (y := 250) (by decide +kernel) rfl
theorem dX2_hearFail_53 : decode cX2_hearFail 53 = .ok (.iconst (-1), 1) := dk_2 (by decide +kernel)
theorem dX2_hearFail_54 : decode cX2_hearFail 54 = .ok (.ixor, 1) := dk_130 (by decide +kernel)
theorem dX2_hearFail_55 : decode cX2_hearFail 55 = .ok (.iand, 1) := dk_126 (by decide +kernel)
theorem dX2_hearFail_56 : decode cX2_hearFail 56 = .ok (.putfield 247, 3) := dk_181 (x := 0) (y := 247) (by decide +kernel) rfl
theorem dX2_hearFail_59 : decode cX2_hearFail 59 = .ok (.aload 4, 2) := dk_25 (x := 4) (by decide +kernel)
theorem dX2_hearFail_61 : decode cX2_hearFail 61 = .ok (.dup, 1) := dk_89 (by decide +kernel)
theorem dX2_hearFail_62 : decode cX2_hearFail 62 = .ok (.getfield 253, 3) := dk_180 (x := 0) (y := 253) (by decide +kernel) rfl
theorem dX2_hearFail_65 : decode cX2_hearFail 65 = .ok (.aload 4, 2) := dk_25 (x := 4) (by decide +kernel)
theorem dX2_hearFail_67 : decode cX2_hearFail 67 = .ok (.getfield 250, 3) := dk_180 (x := 0) (y := 250) (by decide +kernel) rfl
theorem dX2_hearFail_70 : decode cX2_hearFail 70 = .ok (.ior, 1) := dk_128 (by decide +kernel)
theorem dX2_hearFail_71 : decode cX2_hearFail 71 = .ok (.putfield 253, 3) := dk_181 (x := 0) (y := 253) (by decide +kernel) rfl
theorem dX2_hearFail_74 : decode cX2_hearFail 74 = .ok (.aload 4, 2) := dk_25 (x := 4) (by decide +kernel)
theorem dX2_hearFail_76 : decode cX2_hearFail 76 = .ok (.iconst 0, 1) := dk_3 (by decide +kernel)
theorem dX2_hearFail_77 : decode cX2_hearFail 77 = .ok (.putfield 250, 3) := dk_181 (x := 0) (y := 250) (by decide +kernel) rfl
theorem dX2_hearFail_80 : decode cX2_hearFail 80 = .ok (.return_, 1) := dk_177 (by decide +kernel)
def f_X2_hearFail (n : Nat) (o : Nat) (a1 : Int32) (a2 : Int32) (a3 : Int32) (M : Mem) : Option Mem :=
  chk (isO M 2 o) <|
  bnd (mR M o 2) fun o2 =>
  chk (isO M 102 o2) <|
  chk (inB a2 (mLn M o2)) <|
  bnd (mR M o2 (a2).toNatClampNeg) fun o6 =>
  chk (isO M 4 o6) <|
  obd (f_X2_isAskingBy o a2 a3 M) fun r10 =>
  if r10 = 0 then (
    some M
    ) else (
    bnd (sI M o6 5 ((mI M o6 5) ||| ((1 : Int32) <<< (a1 &&& 31)))) fun M13 =>
    obd (f_X2_sendToAll n o (4 : Int32) a2 (mI M13 o6 4) M13) fun M19 =>
    chk (isO M19 4 o6) <|
    bnd (sI M19 o6 3 ((mI M19 o6 3) &&& ((mI M19 o6 4) ^^^ (-1 : Int32)))) fun M21 =>
    bnd (sI M21 o6 5 ((mI M21 o6 5) ||| (mI M21 o6 4))) fun M24 =>
    bnd (sI M24 o6 4 (0 : Int32)) fun M27 =>
    some M27
    )
theorem cd_X2_hearFail : (yX2_hearFail.cls ≠ "java/lang/invoke/MethodHandle" ∧ yX2_hearFail.cls ≠ "java/lang/invoke/VarHandle") ∧ (parseMethodDescriptor yX2_hearFail.desc).map (fun d => d.parameters.length) = some 3 := ⟨⟨by decide +kernel, by decide +kernel⟩, by decide +kernel⟩
theorem k_X2_hearFail (G : Gam) {n : Nat} {o : Nat} {a1 : Int32} {a2 : Int32} {a3 : Int32} {M : Mem} {rv : Mem} (hf : f_X2_hearFail n o a1 a2 a3 M = some rv) : Kt yX2_hearFail cX2_hearFail 5 none 4 100 G [.ref (gB G + o), .int a1, .int a2, .int a3] M rv none := by
  refine Kt.of (by decide) (Nat.le_of_ble_eq_true rfl) ?_
  intro p l e R s m args below meth c X hr hlk hnm
  refine s_drop [0, 1, 2, 3] (vs' := [(0, .ref (gB G + o)), (1, .int a1), (2, .int a2), (3, .int a3)]) rfl ?_
  rw [f_X2_hearFail] at hf
  refine s_aload_n X 0 dX2_hearFail_0 rfl rfl ?_
  obtain ⟨h1, hf⟩ := pk_chk hf
  obtain ⟨o2, e3, hf⟩ := pk_bnd hf
  obtain ⟨h4, hf⟩ := pk_chk hf
  refine s_getR X (ci := 2) (k := 2) rfl (Nat.le_of_ble_eq_true rfl) h1 wd423 (fun _ _ _ => rfl) (e3 ▸ h4) dX2_hearFail_1 (e3 ▸ ?_)
  refine s_iload_n X 2 dX2_hearFail_4 rfl rfl ?_
  obtain ⟨h5, hf⟩ := pk_chk hf
  obtain ⟨o6, e7, hf⟩ := pk_bnd hf
  obtain ⟨h8, hf⟩ := pk_chk hf
  refine s_aald X h4 h5 (e7 ▸ h8) dX2_hearFail_5 (e7 ▸ ?_)
  refine s_astore X (vs' := [(0, .ref (gB G + o)), (1, .int a1), (2, .int a2), (3, .int a3), (4, .ref (gB G + o6))]) dX2_hearFail_6 (Nat.le_of_ble_eq_true rfl) [1, 2, 3, 4, 0] rfl ?_
  refine s_aload_n X 0 dX2_hearFail_8 rfl rfl ?_
  refine s_iload_n X 2 dX2_hearFail_9 rfl rfl ?_
  refine s_iload_n X 3 dX2_hearFail_10 rfl rfl ?_
  obtain ⟨r10, hc9, hf⟩ := pk_obd hf
  refine s_callV X (ci := 2) (k_X2_isAskingBy G hc9) rfl h1 wd1031 wd1033 wd18 wd1034 wd130 cd_X2_isAskingBy ⟨Nat.le_of_ble_eq_true rfl, Nat.le_of_ble_eq_true rfl⟩ (Nat.le_of_ble_eq_true rfl) dX2_hearFail_11 ?_
  have hs11 := pk_ite hf
  clear hf
  refine s_if_ne X (tgt := 18) dX2_hearFail_14 rfl (fun c12 => ?_) (fun c12 => ?_)
  · have hf := hs11.2 c12
    refine s_aload X 4 dX2_hearFail_18 rfl ?_
    refine s_dup X dX2_hearFail_20 rfl ?_
    refine s_getI X (ci := 4) (k := 5) rfl (Nat.le_of_ble_eq_true rfl) h8 wd347 (fun _ _ _ => rfl) dX2_hearFail_21 ?_
    refine s_iconst X (v := (1 : Int32)) dX2_hearFail_24 rfl ?_
    refine s_iload_n X 1 dX2_hearFail_25 rfl rfl ?_
    refine s_ishl X dX2_hearFail_26 ?_
    refine s_ior X dX2_hearFail_27 ?_
    obtain ⟨M13, e14, hf⟩ := pk_bnd hf
    refine s_putI X (ci := 4) (k := 5) rfl (Nat.le_of_ble_eq_true rfl) h8 wd347 (fun _ _ _ => rfl) rfl rfl e14 dX2_hearFail_28 ?_
    have h15 := io_sI e14 h1
    have h16 := io_sI e14 h4
    have h17 := io_sI e14 h8
    refine s_aload_n X 0 dX2_hearFail_31 rfl rfl ?_
    refine s_iconst X (v := (4 : Int32)) dX2_hearFail_32 rfl ?_
    refine s_iload_n X 2 dX2_hearFail_33 rfl rfl ?_
    refine s_aload X 4 dX2_hearFail_34 rfl ?_
    refine s_getI X (ci := 4) (k := 4) rfl (Nat.le_of_ble_eq_true rfl) h17 wd343 (fun _ _ _ => rfl) dX2_hearFail_36 ?_
    obtain ⟨M19, hc18, hf⟩ := pk_obd hf
    refine s_callV X (ci := 2) (k_X2_sendToAll G hc18) rfl h15 wd941 wd943 wd12 wd944 wd130 cd_X2_sendToAll ⟨Nat.le_of_ble_eq_true rfl, Nat.le_of_ble_eq_true rfl⟩ (Nat.le_of_ble_eq_true rfl) dX2_hearFail_39 ?_
    refine s_aload X 4 dX2_hearFail_42 rfl ?_
    refine s_dup X dX2_hearFail_44 rfl ?_
    obtain ⟨h20, hf⟩ := pk_chk hf
    refine s_getI X (ci := 4) (k := 3) rfl (Nat.le_of_ble_eq_true rfl) h20 wd339 (fun _ _ _ => rfl) dX2_hearFail_45 ?_
    refine s_aload X 4 dX2_hearFail_48 rfl ?_
    refine s_getI X (ci := 4) (k := 4) rfl (Nat.le_of_ble_eq_true rfl) h20 wd343 (fun _ _ _ => rfl) dX2_hearFail_50 ?_
    refine s_iconst X (v := (-1 : Int32)) dX2_hearFail_53 rfl ?_
    refine s_ixor X dX2_hearFail_54 ?_
    refine s_iand X dX2_hearFail_55 ?_
    obtain ⟨M21, e22, hf⟩ := pk_bnd hf
    refine s_putI X (ci := 4) (k := 3) rfl (Nat.le_of_ble_eq_true rfl) h20 wd339 (fun _ _ _ => rfl) rfl rfl e22 dX2_hearFail_56 ?_
    have h23 := io_sI e22 h20
    refine s_aload X 4 dX2_hearFail_59 rfl ?_
    refine s_dup X dX2_hearFail_61 rfl ?_
    refine s_getI X (ci := 4) (k := 5) rfl (Nat.le_of_ble_eq_true rfl) h23 wd347 (fun _ _ _ => rfl) dX2_hearFail_62 ?_
    refine s_aload X 4 dX2_hearFail_65 rfl ?_
    refine s_getI X (ci := 4) (k := 4) rfl (Nat.le_of_ble_eq_true rfl) h23 wd343 (fun _ _ _ => rfl) dX2_hearFail_67 ?_
    refine s_ior X dX2_hearFail_70 ?_
    obtain ⟨M24, e25, hf⟩ := pk_bnd hf
    refine s_putI X (ci := 4) (k := 5) rfl (Nat.le_of_ble_eq_true rfl) h23 wd347 (fun _ _ _ => rfl) rfl rfl e25 dX2_hearFail_71 ?_
    have h26 := io_sI e25 h23
    refine s_aload X 4 dX2_hearFail_74 rfl ?_
    refine s_iconst X (v := (0 : Int32)) dX2_hearFail_76 rfl ?_
    obtain ⟨M27, e28, hf⟩ := pk_bnd hf
    refine s_putI X (ci := 4) (k := 4) rfl (Nat.le_of_ble_eq_true rfl) h26 wd343 (fun _ _ _ => rfl) rfl rfl e28 dX2_hearFail_77 ?_
    have h29 := io_sI e28 h26
    cases hf
    exact s_vret X hr hlk dX2_hearFail_80
  · have hf := hs11.1 c12
    cases hf
    exact s_vret X hr hlk dX2_hearFail_17
theorem dX2_hearInquire_0 : decode cX2_hearInquire 0 = .ok (.aload_n 0, 1) := dk_42 (by decide +kernel)
theorem dX2_hearInquire_1 : decode cX2_hearInquire 1 = .ok (.getfield 20, 3) := dk_180 (x := 0) (y := 20) (by decide +kernel) rfl
theorem dX2_hearInquire_4 : decode cX2_hearInquire 4 = .ok (.iload_n 2, 1) := dk_28 (by decide +kernel)
theorem dX2_hearInquire_5 : decode cX2_hearInquire 5 = .ok (.aaload, 1) := dk_50 (by decide +kernel)
theorem dX2_hearInquire_6 : decode cX2_hearInquire 6 = .ok (.astore 4, 2) := dk_58 (x := 4) (by decide +kernel)
theorem dX2_hearInquire_8 : decode cX2_hearInquire 8 = .ok (.aload_n 0, 1) := dk_42 (by decide +kernel)
theorem dX2_hearInquire_9 : decode cX2_hearInquire 9 = .ok (.iload_n 2, 1) := dk_28 (by decide +kernel)
theorem dX2_hearInquire_10 : decode cX2_hearInquire 10 = .ok (.iload_n 3, 1) := dk_29 (by decide +kernel)
theorem dX2_hearInquire_11 : decode cX2_hearInquire 11 = .ok (.invokevirtual 244, 3) := dk_182 (x := 0) (y := 244) (by decide +kernel) rfl
theorem dX2_hearInquire_14 : decode cX2_hearInquire 14 = .ok (.ifCond .eq 15, 3) := dk_153 (x := 0) (y := 15) (by decide +kernel) rfl
theorem dX2_hearInquire_17 : decode cX2_hearInquire 17 = .ok (.aload 4, 2) := dk_25 (x := 4) (by decide +kernel)
theorem dX2_hearInquire_19 : decode cX2_hearInquire 19 = .ok (.getfield 247, 3) := dk_180 (x := 0) (y := 247) (by decide +kernel) rfl
theorem dX2_hearInquire_22 : decode cX2_hearInquire 22 = .ok (.iload_n 1, 1) := dk_27 (by decide +kernel)
theorem dX2_hearInquire_23 : decode cX2_hearInquire 23 = .ok (.invokestatic 108, 3) := dk_184 (x := 0) (y := 108) (by decide +kernel) rfl
theorem dX2_hearInquire_26 : decode cX2_hearInquire 26 = .ok (.ifCond .ne 4, 3) := dk_154 (x := 0) (y := 4) (by decide +kernel) rfl
theorem dX2_hearInquire_29 : decode cX2_hearInquire 29 = .ok (.return_, 1) := dk_177 (by decide +kernel)
theorem dX2_hearInquire_30 : decode cX2_hearInquire 30 = .ok (.aload 4, 2) := dk_25 (x := 4) (by decide +kernel)
theorem dX2_hearInquire_32 : decode cX2_hearInquire 32 = .ok (.getfield 253, 3) := dk_180 (x := 0) (y := 253) (by decide +kernel) rfl
theorem dX2_hearInquire_35 : decode cX2_hearInquire 35 = .ok (.ifCond .ne 17, 3) := dk_154 (x := 0) (y := 17) (by decide +kernel) rfl
theorem dX2_hearInquire_38 : decode cX2_hearInquire 38 = .ok (.aload 4, 2) := dk_25 (x := 4) (by decide +kernel)
theorem dX2_hearInquire_40 : decode cX2_hearInquire 40 = .ok (.dup, 1) := dk_89 (by decide +kernel)
theorem dX2_hearInquire_41 : decode cX2_hearInquire 41 = .ok (.getfield 250, 3) := dk_180 (x := 0) (y := 250) (by decide +kernel) rfl
theorem dX2_hearInquire_44 : decode cX2_hearInquire 44 = .ok (.iconst 1, 1) := dk_4 (by decide +kernel)
theorem dX2_hearInquire_45 : decode cX2_hearInquire 45 = .ok (.iload_n 1, 1) := dk_27 (by decide +kernel)
theorem dX2_hearInquire_46 : decode cX2_hearInquire 46 = .ok (.ishl, 1) := dk_120 (by decide +kernel)
theorem dX2_hearInquire_47 : decode cX2_hearInquire 47 = .ok (.ior, 1) := dk_128 (by decide +kernel)
theorem dX2_hearInquire_48 : decode cX2_hearInquire 48 = .ok (.putfield 250, 3) := dk_181 (x := 0) (y := 250) (by decide +kernel) rfl
theorem dX2_hearInquire_51 : decode cX2_hearInquire 51 = .ok (.return_, 1) := dk_177 (by decide +kernel)
theorem dX2_hearInquire_52 : decode cX2_hearInquire 52 = .ok (.aload_n 0, 1) := dk_42 (by decide +kernel)
theorem dX2_hearInquire_53 : decode cX2_hearInquire 53 = .ok (.getfield 12, 3) := dk_180 (x := 0) (y := 12) (by decide +kernel) rfl
theorem dX2_hearInquire_56 : decode cX2_hearInquire 56 = .ok (.iconst 4, 1) := dk_7 (by decide +kernel)
theorem dX2_hearInquire_57 : decode cX2_hearInquire 57 = .ok (.iload_n 2, 1) := dk_28 (by decide +kernel)
theorem dX2_hearInquire_58 : decode cX2_hearInquire 58 = .ok (.iload_n 1, 1) := dk_27 (by decide +kernel)
theorem dX2_hearInquire_59 : decode cX2_hearInquire 59 = .ok (.iload_n 3, 1) := dk_29 (by decide +kernel)
theorem dX2_hearInquire_60 : decode cX2_hearInquire 60 = .ok (.invokevirtual 147, 3) := dk_182 (x := 0) (y := 147) (by decide +kernel) rfl
theorem dX2_hearInquire_63 : decode cX2_hearInquire 63 = .ok (.aload 4, 2) := dk_25 (x := 4) (by decide +kernel)
theorem dX2_hearInquire_65 : decode cX2_hearInquire 65 = .ok (.dup, 1) := dk_89 (by decide +kernel)
theorem dX2_hearInquire_66 : decode cX2_hearInquire 66 = .ok (.getfield 247, 3) := dk_180 (x := 0) (y := 247) (by decide +kernel) rfl
theorem dX2_hearInquire_69 : decode cX2_hearInquire 69 = .ok (.iconst 1, 1) := dk_4 (by decide +kernel)
theorem dX2_hearInquire_70 : decode cX2_hearInquire 70 = .ok (.iload_n 1, 1) := dk_27 (by decide +kernel)
theorem dX2_hearInquire_71 : decode cX2_hearInquire 71 = .ok (.ishl, 1) := dk_120 (by decide +kernel)
theorem dX2_hearInquire_72 : decode cX2_hearInquire 72 = .ok (.iconst (-1), 1) := dk_2 (by decide +kernel)
theorem dX2_hearInquire_73 : decode cX2_hearInquire 73 = .ok (.ixor, 1) := dk_130 (by decide +kernel)
theorem dX2_hearInquire_74 : decode cX2_hearInquire 74 = .ok (.iand, 1) := dk_126 (by decide +kernel)
theorem dX2_hearInquire_75 : decode cX2_hearInquire 75 = .ok (.putfield 247, 3) := dk_181 (x := 0) (y := 247) (by decide +kernel) rfl
theorem dX2_hearInquire_78 : decode cX2_hearInquire 78 = .ok (.aload 4, 2) := dk_25 (x := 4) (by decide +kernel)
theorem dX2_hearInquire_80 : decode cX2_hearInquire 80 = .ok (.dup, 1) := dk_89 (by decide +kernel)
theorem dX2_hearInquire_81 : decode cX2_hearInquire 81 = .ok (.getfield 253, 3) := dk_180 (x := 0) (y := 253) (by decide +kernel) rfl
theorem dX2_hearInquire_84 : decode cX2_hearInquire 84 = .ok (.iconst 1, 1) := dk_4 (by decide +kernel)
theorem dX2_hearInquire_85 : decode cX2_hearInquire 85 = .ok (.iload_n 1, 1) := dk_27 (by decide +kernel)
theorem dX2_hearInquire_86 : decode cX2_hearInquire 86 = .ok (.ishl, 1) := dk_120 (by decide +kernel)
theorem dX2_hearInquire_87 : decode cX2_hearInquire 87 = .ok (.ior, 1) := dk_128 (by decide +kernel)
theorem dX2_hearInquire_88 : decode cX2_hearInquire 88 = .ok (.putfield 253, 3) := dk_181 (x := 0) (y := 253) (by decide +kernel) rfl
theorem dX2_hearInquire_91 : decode cX2_hearInquire 91 = .ok (.return_, 1) := dk_177 (by decide +kernel)
def f_X2_hearInquire (o : Nat) (a1 : Int32) (a2 : Int32) (a3 : Int32) (M : Mem) : Option Mem :=
  chk (isO M 2 o) <|
  bnd (mR M o 2) fun o2 =>
  chk (isO M 102 o2) <|
  chk (inB a2 (mLn M o2)) <|
  bnd (mR M o2 (a2).toNatClampNeg) fun o6 =>
  chk (isO M 4 o6) <|
  obd (f_X2_isAskingBy o a2 a3 M) fun r10 =>
  if r10 = 0 then (
    some M
    ) else (
    obd (f_X9_has (mI M o6 3) a1 M) fun r14 =>
    if r14 = 0 then (
      some M
      ) else (
      if (mI M o6 5) = 0 then (
        bnd (sI M o6 4 ((mI M o6 4) ||| ((1 : Int32) <<< (a1 &&& 31)))) fun M31 =>
        some M31
        ) else (
        bnd (mR M o 1) fun o19 =>
        chk (isO M 5 o19) <|
        obd (f_X5_put o19 (4 : Int32) a2 a1 a3 M) fun M23 =>
        chk (isO M23 4 o6) <|
        bnd (sI M23 o6 3 ((mI M23 o6 3) &&& (((1 : Int32) <<< (a1 &&& 31)) ^^^ (-1 : Int32)))) fun M25 =>
        bnd (sI M25 o6 5 ((mI M25 o6 5) ||| ((1 : Int32) <<< (a1 &&& 31)))) fun M28 =>
        some M28
        )
      )
    )
theorem cd_X2_hearInquire : (yX2_hearInquire.cls ≠ "java/lang/invoke/MethodHandle" ∧ yX2_hearInquire.cls ≠ "java/lang/invoke/VarHandle") ∧ (parseMethodDescriptor yX2_hearInquire.desc).map (fun d => d.parameters.length) = some 3 := ⟨⟨by decide +kernel, by decide +kernel⟩, by decide +kernel⟩
theorem k_X2_hearInquire (G : Gam) {o : Nat} {a1 : Int32} {a2 : Int32} {a3 : Int32} {M : Mem} {rv : Mem} (hf : f_X2_hearInquire o a1 a2 a3 M = some rv) : Kt yX2_hearInquire cX2_hearInquire 5 none 3 76 G [.ref (gB G + o), .int a1, .int a2, .int a3] M rv none := by
  refine Kt.of (by decide) (Nat.le_of_ble_eq_true rfl) ?_
  intro p l e R s m args below meth c X hr hlk hnm
  refine s_drop [0, 1, 2, 3] (vs' := [(0, .ref (gB G + o)), (1, .int a1), (2, .int a2), (3, .int a3)]) rfl ?_
  rw [f_X2_hearInquire] at hf
  refine s_aload_n X 0 dX2_hearInquire_0 rfl rfl ?_
  obtain ⟨h1, hf⟩ := pk_chk hf
  obtain ⟨o2, e3, hf⟩ := pk_bnd hf
  obtain ⟨h4, hf⟩ := pk_chk hf
  refine s_getR X (ci := 2) (k := 2) rfl (Nat.le_of_ble_eq_true rfl) h1 wd423 (fun _ _ _ => rfl) (e3 ▸ h4) dX2_hearInquire_1 (e3 ▸ ?_)
  refine s_iload_n X 2 dX2_hearInquire_4 rfl rfl ?_
  obtain ⟨h5, hf⟩ := pk_chk hf
  obtain ⟨o6, e7, hf⟩ := pk_bnd hf
  obtain ⟨h8, hf⟩ := pk_chk hf
  refine s_aald X h4 h5 (e7 ▸ h8) dX2_hearInquire_5 (e7 ▸ ?_)
  refine s_astore X (vs' := [(0, .ref (gB G + o)), (1, .int a1), (2, .int a2), (3, .int a3), (4, .ref (gB G + o6))]) dX2_hearInquire_6 (Nat.le_of_ble_eq_true rfl) [1, 2, 3, 4, 0] rfl ?_
  refine s_aload_n X 0 dX2_hearInquire_8 rfl rfl ?_
  refine s_iload_n X 2 dX2_hearInquire_9 rfl rfl ?_
  refine s_iload_n X 3 dX2_hearInquire_10 rfl rfl ?_
  obtain ⟨r10, hc9, hf⟩ := pk_obd hf
  refine s_callV X (ci := 2) (k_X2_isAskingBy G hc9) rfl h1 wd1031 wd1033 wd18 wd1034 wd130 cd_X2_isAskingBy ⟨Nat.le_of_ble_eq_true rfl, Nat.le_of_ble_eq_true rfl⟩ (Nat.le_of_ble_eq_true rfl) dX2_hearInquire_11 ?_
  have hs11 := pk_ite hf
  clear hf
  refine s_if_eq X (tgt := 29) dX2_hearInquire_14 rfl (fun c12 => ?_) (fun c12 => ?_)
  · have hf := hs11.1 c12
    cases hf
    exact s_vret X hr hlk dX2_hearInquire_29
  · have hf := hs11.2 c12
    refine s_aload X 4 dX2_hearInquire_17 rfl ?_
    refine s_getI X (ci := 4) (k := 3) rfl (Nat.le_of_ble_eq_true rfl) h8 wd339 (fun _ _ _ => rfl) dX2_hearInquire_19 ?_
    refine s_iload_n X 1 dX2_hearInquire_22 rfl rfl ?_
    obtain ⟨r14, hc13, hf⟩ := pk_obd hf
    refine s_callSN X (k_X9_has G hc13) (host := "QuorumGate") ns_8 wd712 wd713 wd126 cd_X9_has ⟨Nat.le_of_ble_eq_true rfl, Nat.le_of_ble_eq_true rfl⟩ (Nat.le_of_ble_eq_true rfl) dX2_hearInquire_23 ?_
    have hs15 := pk_ite hf
    clear hf
    refine s_if_ne X (tgt := 30) dX2_hearInquire_26 rfl (fun c16 => ?_) (fun c16 => ?_)
    · have hf := hs15.2 c16
      refine s_aload X 4 dX2_hearInquire_30 rfl ?_
      refine s_getI X (ci := 4) (k := 5) rfl (Nat.le_of_ble_eq_true rfl) h8 wd347 (fun _ _ _ => rfl) dX2_hearInquire_32 ?_
      have hs17 := pk_ite hf
      clear hf
      refine s_if_ne X (tgt := 52) dX2_hearInquire_35 rfl (fun c18 => ?_) (fun c18 => ?_)
      · have hf := hs17.2 c18
        refine s_aload_n X 0 dX2_hearInquire_52 rfl rfl ?_
        obtain ⟨o19, e20, hf⟩ := pk_bnd hf
        obtain ⟨h21, hf⟩ := pk_chk hf
        refine s_getR X (ci := 2) (k := 1) rfl (Nat.le_of_ble_eq_true rfl) h1 wd419 (fun _ _ _ => rfl) (e20 ▸ h21) dX2_hearInquire_53 (e20 ▸ ?_)
        refine s_iconst X (v := (4 : Int32)) dX2_hearInquire_56 rfl ?_
        refine s_iload_n X 2 dX2_hearInquire_57 rfl rfl ?_
        refine s_iload_n X 1 dX2_hearInquire_58 rfl rfl ?_
        refine s_iload_n X 3 dX2_hearInquire_59 rfl rfl ?_
        obtain ⟨M23, hc22, hf⟩ := pk_obd hf
        refine s_callV X (ci := 5) (k_X5_put G hc22) rfl h21 wd945 wd946 wd947 wd948 wd131 cd_X5_put ⟨Nat.le_of_ble_eq_true rfl, Nat.le_of_ble_eq_true rfl⟩ (Nat.le_of_ble_eq_true rfl) dX2_hearInquire_60 ?_
        refine s_aload X 4 dX2_hearInquire_63 rfl ?_
        refine s_dup X dX2_hearInquire_65 rfl ?_
        obtain ⟨h24, hf⟩ := pk_chk hf
        refine s_getI X (ci := 4) (k := 3) rfl (Nat.le_of_ble_eq_true rfl) h24 wd339 (fun _ _ _ => rfl) dX2_hearInquire_66 ?_
        refine s_iconst X (v := (1 : Int32)) dX2_hearInquire_69 rfl ?_
        refine s_iload_n X 1 dX2_hearInquire_70 rfl rfl ?_
        refine s_ishl X dX2_hearInquire_71 ?_
        refine s_iconst X (v := (-1 : Int32)) dX2_hearInquire_72 rfl ?_
        refine s_ixor X dX2_hearInquire_73 ?_
        refine s_iand X dX2_hearInquire_74 ?_
        obtain ⟨M25, e26, hf⟩ := pk_bnd hf
        refine s_putI X (ci := 4) (k := 3) rfl (Nat.le_of_ble_eq_true rfl) h24 wd339 (fun _ _ _ => rfl) rfl rfl e26 dX2_hearInquire_75 ?_
        have h27 := io_sI e26 h24
        refine s_aload X 4 dX2_hearInquire_78 rfl ?_
        refine s_dup X dX2_hearInquire_80 rfl ?_
        refine s_getI X (ci := 4) (k := 5) rfl (Nat.le_of_ble_eq_true rfl) h27 wd347 (fun _ _ _ => rfl) dX2_hearInquire_81 ?_
        refine s_iconst X (v := (1 : Int32)) dX2_hearInquire_84 rfl ?_
        refine s_iload_n X 1 dX2_hearInquire_85 rfl rfl ?_
        refine s_ishl X dX2_hearInquire_86 ?_
        refine s_ior X dX2_hearInquire_87 ?_
        obtain ⟨M28, e29, hf⟩ := pk_bnd hf
        refine s_putI X (ci := 4) (k := 5) rfl (Nat.le_of_ble_eq_true rfl) h27 wd347 (fun _ _ _ => rfl) rfl rfl e29 dX2_hearInquire_88 ?_
        have h30 := io_sI e29 h27
        cases hf
        exact s_vret X hr hlk dX2_hearInquire_91
      · have hf := hs17.1 c18
        refine s_aload X 4 dX2_hearInquire_38 rfl ?_
        refine s_dup X dX2_hearInquire_40 rfl ?_
        refine s_getI X (ci := 4) (k := 4) rfl (Nat.le_of_ble_eq_true rfl) h8 wd343 (fun _ _ _ => rfl) dX2_hearInquire_41 ?_
        refine s_iconst X (v := (1 : Int32)) dX2_hearInquire_44 rfl ?_
        refine s_iload_n X 1 dX2_hearInquire_45 rfl rfl ?_
        refine s_ishl X dX2_hearInquire_46 ?_
        refine s_ior X dX2_hearInquire_47 ?_
        obtain ⟨M31, e32, hf⟩ := pk_bnd hf
        refine s_putI X (ci := 4) (k := 4) rfl (Nat.le_of_ble_eq_true rfl) h8 wd343 (fun _ _ _ => rfl) rfl rfl e32 dX2_hearInquire_48 ?_
        have h33 := io_sI e32 h1
        have h34 := io_sI e32 h4
        have h35 := io_sI e32 h8
        cases hf
        exact s_vret X hr hlk dX2_hearInquire_51
    · have hf := hs15.1 c16
      cases hf
      exact s_vret X hr hlk dX2_hearInquire_29
theorem dX4_isGrantedBy_0 : decode cX4_isGrantedBy 0 = .ok (.aload_n 0, 1) := dk_42 (by decide +kernel)
theorem dX4_isGrantedBy_1 : decode cX4_isGrantedBy 1 = .ok (.getfield 9, 3) := dk_180 (x := 0) (y := 9) (by decide +kernel) rfl
theorem dX4_isGrantedBy_4 : decode cX4_isGrantedBy 4 = .ok (.iload_n 1, 1) := dk_27 (by decide +kernel)
theorem dX4_isGrantedBy_5 : decode cX4_isGrantedBy 5 = .ok (.if_icmp .ne 15, 3) := dk_160 (x := 0) (y := 15) (by decide +kernel) rfl
theorem dX4_isGrantedBy_8 : decode cX4_isGrantedBy 8 = .ok (.aload_n 0, 1) := dk_42 (by decide +kernel)
theorem dX4_isGrantedBy_9 : decode cX4_isGrantedBy 9 = .ok (.getfield 15, 3) := dk_180 (x := 0) (y := 15) (by decide +kernel) rfl
theorem dX4_isGrantedBy_12 : decode cX4_isGrantedBy 12 = .ok (.iload_n 2, 1) := dk_28 (by decide +kernel)
theorem dX4_isGrantedBy_13 : decode cX4_isGrantedBy 13 = .ok (.if_icmp .ne 7, 3) := dk_160 (x := 0) (y := 7) (by decide +kernel) rfl
theorem dX4_isGrantedBy_16 : decode cX4_isGrantedBy 16 = .ok (.iconst 1, 1) := dk_4 (by decide +kernel)
theorem dX4_isGrantedBy_17 : decode cX4_isGrantedBy 17 = .ok (.goto 4, 3) := dk_167 (x := 0) (y := 4) (by decide +kernel) rfl
theorem dX4_isGrantedBy_20 : decode cX4_isGrantedBy 20 = .ok (.iconst 0, 1) := dk_3 (by decide +kernel)
theorem dX4_isGrantedBy_21 : decode cX4_isGrantedBy 21 = .ok (.ireturn, 1) := dk_172 (by decide +kernel)
def f_X4_isGrantedBy (o : Nat) (a1 : Int32) (a2 : Int32) (M : Mem) : Option Int32 :=
  chk (isO M 4 o) <|
  if (mI M o 6) = a1 then (
    if (mI M o 7) = a2 then (
      some (1 : Int32)
      ) else (
      some (0 : Int32)
      )
    ) else (
    some (0 : Int32)
    )
theorem cd_X4_isGrantedBy : (yX4_isGrantedBy.cls ≠ "java/lang/invoke/MethodHandle" ∧ yX4_isGrantedBy.cls ≠ "java/lang/invoke/VarHandle") ∧ (parseMethodDescriptor yX4_isGrantedBy.desc).map (fun d => d.parameters.length) = some 2 := ⟨⟨by decide +kernel, by decide +kernel⟩, by decide +kernel⟩
theorem k_X4_isGrantedBy (G : Gam) {o : Nat} {a1 : Int32} {a2 : Int32} {M : Mem} {rv : Int32} (hf : f_X4_isGrantedBy o a1 a2 M = some rv) : Kt yX4_isGrantedBy cX4_isGrantedBy 3 (some .boolean) 0 0 G [.ref (gB G + o), .int a1, .int a2] M M (some (.int rv)) := by
  refine Kt.of (by decide) (Nat.le_of_ble_eq_true rfl) ?_
  intro p l e R s m args below meth c X hr hlk hnm
  refine s_drop [0, 1, 2] (vs' := [(0, .ref (gB G + o)), (1, .int a1), (2, .int a2)]) rfl ?_
  rw [f_X4_isGrantedBy] at hf
  refine s_aload_n X 0 dX4_isGrantedBy_0 rfl rfl ?_
  obtain ⟨h1, hf⟩ := pk_chk hf
  refine s_getI X (ci := 4) (k := 6) rfl (Nat.le_of_ble_eq_true rfl) h1 wd349 (fun _ _ _ => rfl) dX4_isGrantedBy_1 ?_
  refine s_iload_n X 1 dX4_isGrantedBy_4 rfl rfl ?_
  have hs2 := pk_ite hf
  clear hf
  refine s_icmp_ne X (tgt := 20) dX4_isGrantedBy_5 rfl (fun c3 => ?_) (fun c3 => ?_)
  · have hf := hs2.2 c3
    refine s_iconst X (v := (0 : Int32)) dX4_isGrantedBy_20 rfl ?_
    cases hf
    exact s_zret X hr (bz_n (Or.inl rfl)) hlk dX4_isGrantedBy_21
  · have hf := hs2.1 c3
    refine s_aload_n X 0 dX4_isGrantedBy_8 rfl rfl ?_
    refine s_getI X (ci := 4) (k := 7) rfl (Nat.le_of_ble_eq_true rfl) h1 wd353 (fun _ _ _ => rfl) dX4_isGrantedBy_9 ?_
    refine s_iload_n X 2 dX4_isGrantedBy_12 rfl rfl ?_
    have hs4 := pk_ite hf
    clear hf
    refine s_icmp_ne X (tgt := 20) dX4_isGrantedBy_13 rfl (fun c5 => ?_) (fun c5 => ?_)
    · have hf := hs4.2 c5
      refine s_iconst X (v := (0 : Int32)) dX4_isGrantedBy_20 rfl ?_
      cases hf
      exact s_zret X hr (bz_n (Or.inl rfl)) hlk dX4_isGrantedBy_21
    · have hf := hs4.1 c5
      refine s_iconst X (v := (1 : Int32)) dX4_isGrantedBy_16 rfl ?_
      refine s_goto X (tgt := 21) dX4_isGrantedBy_17 rfl ?_
      cases hf
      exact s_zret X hr (bz_n (Or.inr rfl)) hlk dX4_isGrantedBy_21
theorem dX2_hearYield_0 : decode cX2_hearYield 0 = .ok (.aload_n 0, 1) := dk_42 (by decide +kernel)
theorem dX2_hearYield_1 : decode cX2_hearYield 1 = .ok (.getfield 20, 3) := dk_180 (x := 0) (y := 20) (by decide +kernel) rfl
theorem dX2_hearYield_4 : decode cX2_hearYield 4 = .ok (.iload_n 2, 1) := dk_28 (by decide +kernel)
theorem dX2_hearYield_5 : decode cX2_hearYield 5 = .ok (.aaload, 1) := dk_50 (by decide +kernel)
theorem dX2_hearYield_6 : decode cX2_hearYield 6 = .ok (.astore 4, 2) := dk_58 (x := 4) (by decide +kernel)
theorem dX2_hearYield_8 : decode cX2_hearYield 8 = .ok (.aload 4, 2) := dk_25 (x := 4) (by decide +kernel)
theorem dX2_hearYield_10 : decode cX2_hearYield 10 = .ok (.iload_n 1, 1) := dk_27 (by decide +kernel)
theorem dX2_hearYield_11 : decode cX2_hearYield 11 = .ok (.iload_n 3, 1) := dk_29 (by decide +kernel)
theorem dX2_hearYield_12 : decode cX2_hearYield 12 = .ok (.invokevirtual 259, 3) := dk_182 (x := 1) (y := 3) (by decide +kernel) rfl
theorem dX2_hearYield_15 : decode cX2_hearYield 15 = .ok (.ifCond .eq 15, 3) := dk_153 (x := 0) (y := 15) (by decide +kernel) rfl
theorem dX2_hearYield_18 : decode cX2_hearYield 18 = .ok (.aload 4, 2) := dk_25 (x := 4) (by decide +kernel)
theorem dX2_hearYield_20 : decode cX2_hearYield 20 = .ok (.iload_n 1, 1) := dk_27 (by decide +kernel)
theorem dX2_hearYield_21 : decode cX2_hearYield 21 = .ok (.iload_n 3, 1) := dk_29 (by decide +kernel)
theorem dX2_hearYield_22 : decode cX2_hearYield 22 = .ok (.invokevirtual 228, 3) := dk_182 (x := 0) (y := 228) (by decide +kernel) rfl
theorem dX2_hearYield_25 : decode cX2_hearYield 25 = .ok (.aload_n 0, 1) := dk_42 (by decide +kernel)
theorem dX2_hearYield_26 : decode cX2_hearYield 26 = .ok (.iload_n 2, 1) := dk_28 (by decide +kernel)
theorem dX2_hearYield_27 : decode cX2_hearYield 27 = .ok (.invokevirtual 176, 3) := dk_182 (x := 0) (y := 176) (by decide +kernel) rfl
theorem dX2_hearYield_30 : decode cX2_hearYield 30 = .ok (.return_, 1) := dk_177 (by decide +kernel)
def f_X2_hearYield (n : Nat) (o : Nat) (a1 : Int32) (a2 : Int32) (a3 : Int32) (M : Mem) : Option Mem :=
  chk (isO M 2 o) <|
  bnd (mR M o 2) fun o2 =>
  chk (isO M 102 o2) <|
  chk (inB a2 (mLn M o2)) <|
  bnd (mR M o2 (a2).toNatClampNeg) fun o6 =>
  chk (isO M 4 o6) <|
  obd (f_X4_isGrantedBy o6 a1 a3 M) fun r10 =>
  if r10 = 0 then (
    some M
    ) else (
    obd (f_X4_letWait o6 a1 a3 M) fun M14 =>
    chk (isO M14 2 o) <|
    obd (f_X2_grantFirst n o a2 M14) fun M17 =>
    some M17
    )
theorem cd_X2_hearYield : (yX2_hearYield.cls ≠ "java/lang/invoke/MethodHandle" ∧ yX2_hearYield.cls ≠ "java/lang/invoke/VarHandle") ∧ (parseMethodDescriptor yX2_hearYield.desc).map (fun d => d.parameters.length) = some 3 := ⟨⟨by decide +kernel, by decide +kernel⟩, by decide +kernel⟩
theorem k_X2_hearYield (G : Gam) {n : Nat} {o : Nat} {a1 : Int32} {a2 : Int32} {a3 : Int32} {M : Mem} {rv : Mem} (hf : f_X2_hearYield n o a1 a2 a3 M = some rv) : Kt yX2_hearYield cX2_hearYield 5 none 4 99 G [.ref (gB G + o), .int a1, .int a2, .int a3] M rv none := by
  refine Kt.of (by decide) (Nat.le_of_ble_eq_true rfl) ?_
  intro p l e R s m args below meth c X hr hlk hnm
  refine s_drop [0, 1, 2, 3] (vs' := [(0, .ref (gB G + o)), (1, .int a1), (2, .int a2), (3, .int a3)]) rfl ?_
  rw [f_X2_hearYield] at hf
  refine s_aload_n X 0 dX2_hearYield_0 rfl rfl ?_
  obtain ⟨h1, hf⟩ := pk_chk hf
  obtain ⟨o2, e3, hf⟩ := pk_bnd hf
  obtain ⟨h4, hf⟩ := pk_chk hf
  refine s_getR X (ci := 2) (k := 2) rfl (Nat.le_of_ble_eq_true rfl) h1 wd423 (fun _ _ _ => rfl) (e3 ▸ h4) dX2_hearYield_1 (e3 ▸ ?_)
  refine s_iload_n X 2 dX2_hearYield_4 rfl rfl ?_
  obtain ⟨h5, hf⟩ := pk_chk hf
  obtain ⟨o6, e7, hf⟩ := pk_bnd hf
  obtain ⟨h8, hf⟩ := pk_chk hf
  refine s_aald X h4 h5 (e7 ▸ h8) dX2_hearYield_5 (e7 ▸ ?_)
  refine s_astore X (vs' := [(0, .ref (gB G + o)), (1, .int a1), (2, .int a2), (3, .int a3), (4, .ref (gB G + o6))]) dX2_hearYield_6 (Nat.le_of_ble_eq_true rfl) [1, 2, 3, 4, 0] rfl ?_
  refine s_aload X 4 dX2_hearYield_8 rfl ?_
  refine s_iload_n X 1 dX2_hearYield_10 rfl rfl ?_
  refine s_iload_n X 3 dX2_hearYield_11 rfl rfl ?_
  obtain ⟨r10, hc9, hf⟩ := pk_obd hf
  refine s_callV X (ci := 4) (k_X4_isGrantedBy G hc9) rfl h8 wd1057 wd1058 wd1059 wd1060 wd133 cd_X4_isGrantedBy ⟨Nat.le_of_ble_eq_true rfl, Nat.le_of_ble_eq_true rfl⟩ (Nat.le_of_ble_eq_true rfl) dX2_hearYield_12 ?_
  have hs11 := pk_ite hf
  clear hf
  refine s_if_eq X (tgt := 30) dX2_hearYield_15 rfl (fun c12 => ?_) (fun c12 => ?_)
  · have hf := hs11.1 c12
    cases hf
    exact s_vret X hr hlk dX2_hearYield_30
  · have hf := hs11.2 c12
    refine s_aload X 4 dX2_hearYield_18 rfl ?_
    refine s_iload_n X 1 dX2_hearYield_20 rfl rfl ?_
    refine s_iload_n X 3 dX2_hearYield_21 rfl rfl ?_
    obtain ⟨M14, hc13, hf⟩ := pk_obd hf
    refine s_callV X (ci := 4) (k_X4_letWait G hc13) rfl h8 wd1012 wd1013 wd1014 wd1015 wd133 cd_X4_letWait ⟨Nat.le_of_ble_eq_true rfl, Nat.le_of_ble_eq_true rfl⟩ (Nat.le_of_ble_eq_true rfl) dX2_hearYield_22 ?_
    refine s_aload_n X 0 dX2_hearYield_25 rfl rfl ?_
    refine s_iload_n X 2 dX2_hearYield_26 rfl rfl ?_
    obtain ⟨h15, hf⟩ := pk_chk hf
    obtain ⟨M17, hc16, hf⟩ := pk_obd hf
    refine s_callV X (ci := 2) (k_X2_grantFirst G hc16) rfl h15 wd1016 wd1018 wd16 wd1019 wd130 cd_X2_grantFirst ⟨Nat.le_of_ble_eq_true rfl, Nat.le_of_ble_eq_true rfl⟩ (Nat.le_of_ble_eq_true rfl) dX2_hearYield_27 ?_
    cases hf
    exact s_vret X hr hlk dX2_hearYield_30
theorem dX4_isWaitingBy_0 : decode cX4_isWaitingBy 0 = .ok (.aload_n 0, 1) := dk_42 (by decide +kernel)
theorem dX4_isWaitingBy_1 : decode cX4_isWaitingBy 1 = .ok (.getfield 64, 3) := dk_180 (x := 0) (y := 64) (by decide +kernel) rfl
theorem dX4_isWaitingBy_4 : decode cX4_isWaitingBy 4 = .ok (.iload_n 1, 1) := dk_27 (by decide +kernel)
theorem dX4_isWaitingBy_5 : decode cX4_isWaitingBy 5 = .ok (.invokestatic 77, 3) := dk_184 (x := 0) (y := 77) (by decide +kernel) rfl
theorem dX4_isWaitingBy_8 : decode cX4_isWaitingBy 8 = .ok (.ifCond .eq 17, 3) := dk_153 (x := 0) (y := 17) (by decide +kernel) rfl
theorem dX4_isWaitingBy_11 : decode cX4_isWaitingBy 11 = .ok (.aload_n 0, 1) := dk_42 (by decide +kernel)
theorem dX4_isWaitingBy_12 : decode cX4_isWaitingBy 12 = .ok (.getfield 18, 3) := dk_180 (x := 0) (y := 18) (by decide +kernel) rfl
theorem dX4_isWaitingBy_15 : decode cX4_isWaitingBy 15 = .ok (.iload_n 1, 1) := dk_27 (by decide +kernel)
theorem dX4_isWaitingBy_16 : decode cX4_isWaitingBy 16 = .ok (.iaload, 1) := dk_46 (by decide +kernel)
theorem dX4_isWaitingBy_17 : decode cX4_isWaitingBy 17 = .ok (.iload_n 2, 1) := dk_28 (by decide +kernel)
theorem dX4_isWaitingBy_18 : decode cX4_isWaitingBy 18 = .ok (.if_icmp .ne 7, 3) := dk_160 (x := 0) (y := 7) (by decide +kernel) rfl
theorem dX4_isWaitingBy_21 : decode cX4_isWaitingBy 21 = .ok (.iconst 1, 1) := dk_4 (by decide +kernel)
theorem dX4_isWaitingBy_22 : decode cX4_isWaitingBy 22 = .ok (.goto 4, 3) := dk_167 (x := 0) (y := 4) (by decide +kernel) rfl
theorem dX4_isWaitingBy_25 : decode cX4_isWaitingBy 25 = .ok (.iconst 0, 1) := dk_3 (by decide +kernel)
theorem dX4_isWaitingBy_26 : decode cX4_isWaitingBy 26 = .ok (.ireturn, 1) := dk_172 (by decide +kernel)
def f_X4_isWaitingBy (o : Nat) (a1 : Int32) (a2 : Int32) (M : Mem) : Option Int32 :=
  chk (isO M 4 o) <|
  obd (f_X9_has (mI M o 9) a1 M) fun r3 =>
  if r3 = 0 then (
    some (0 : Int32)
    ) else (
    bnd (mR M o 10) fun o6 =>
    chk (isO M 100 o6) <|
    chk (inB a1 (mLn M o6)) <|
    if (mI M o6 (a1).toNatClampNeg) = a2 then (
      some (1 : Int32)
      ) else (
      some (0 : Int32)
      )
    )
theorem cd_X4_isWaitingBy : (yX4_isWaitingBy.cls ≠ "java/lang/invoke/MethodHandle" ∧ yX4_isWaitingBy.cls ≠ "java/lang/invoke/VarHandle") ∧ (parseMethodDescriptor yX4_isWaitingBy.desc).map (fun d => d.parameters.length) = some 2 := ⟨⟨by decide +kernel, by decide +kernel⟩, by decide +kernel⟩
theorem k_X4_isWaitingBy (G : Gam) {o : Nat} {a1 : Int32} {a2 : Int32} {M : Mem} {rv : Int32} (hf : f_X4_isWaitingBy o a1 a2 M = some rv) : Kt yX4_isWaitingBy cX4_isWaitingBy 3 (some .boolean) 1 21 G [.ref (gB G + o), .int a1, .int a2] M M (some (.int rv)) := by
  refine Kt.of (by decide) (Nat.le_of_ble_eq_true rfl) ?_
  intro p l e R s m args below meth c X hr hlk hnm
  refine s_drop [0, 1, 2] (vs' := [(0, .ref (gB G + o)), (1, .int a1), (2, .int a2)]) rfl ?_
  rw [f_X4_isWaitingBy] at hf
  refine s_aload_n X 0 dX4_isWaitingBy_0 rfl rfl ?_
  obtain ⟨h1, hf⟩ := pk_chk hf
  refine s_getI X (ci := 4) (k := 9) rfl (Nat.le_of_ble_eq_true rfl) h1 wd361 (fun _ _ _ => rfl) dX4_isWaitingBy_1 ?_
  refine s_iload_n X 1 dX4_isWaitingBy_4 rfl rfl ?_
  obtain ⟨r3, hc2, hf⟩ := pk_obd hf
  refine s_callSN X (k_X9_has G hc2) (host := "QuorumGate") ns_9 wd712 wd713 wd126 cd_X9_has ⟨Nat.le_of_ble_eq_true rfl, Nat.le_of_ble_eq_true rfl⟩ (Nat.le_of_ble_eq_true rfl) dX4_isWaitingBy_5 ?_
  have hs4 := pk_ite hf
  clear hf
  refine s_if_eq X (tgt := 25) dX4_isWaitingBy_8 rfl (fun c5 => ?_) (fun c5 => ?_)
  · have hf := hs4.1 c5
    refine s_iconst X (v := (0 : Int32)) dX4_isWaitingBy_25 rfl ?_
    cases hf
    exact s_zret X hr (bz_n (Or.inl rfl)) hlk dX4_isWaitingBy_26
  · have hf := hs4.2 c5
    refine s_aload_n X 0 dX4_isWaitingBy_11 rfl rfl ?_
    obtain ⟨o6, e7, hf⟩ := pk_bnd hf
    obtain ⟨h8, hf⟩ := pk_chk hf
    refine s_getR X (ci := 4) (k := 10) rfl (Nat.le_of_ble_eq_true rfl) h1 wd365 (fun _ _ _ => rfl) (e7 ▸ h8) dX4_isWaitingBy_12 (e7 ▸ ?_)
    refine s_iload_n X 1 dX4_isWaitingBy_15 rfl rfl ?_
    obtain ⟨h9, hf⟩ := pk_chk hf
    refine s_iald X h8 h9 dX4_isWaitingBy_16 ?_
    refine s_iload_n X 2 dX4_isWaitingBy_17 rfl rfl ?_
    have hs10 := pk_ite hf
    clear hf
    refine s_icmp_ne X (tgt := 25) dX4_isWaitingBy_18 rfl (fun c11 => ?_) (fun c11 => ?_)
    · have hf := hs10.2 c11
      refine s_iconst X (v := (0 : Int32)) dX4_isWaitingBy_25 rfl ?_
      cases hf
      exact s_zret X hr (bz_n (Or.inl rfl)) hlk dX4_isWaitingBy_26
    · have hf := hs10.1 c11
      refine s_iconst X (v := (1 : Int32)) dX4_isWaitingBy_21 rfl ?_
      refine s_goto X (tgt := 26) dX4_isWaitingBy_22 rfl ?_
      cases hf
      exact s_zret X hr (bz_n (Or.inr rfl)) hlk dX4_isWaitingBy_26
theorem dX2_hearRelease_0 : decode cX2_hearRelease 0 = .ok (.aload_n 0, 1) := dk_42 (by decide +kernel)
theorem dX2_hearRelease_1 : decode cX2_hearRelease 1 = .ok (.getfield 20, 3) := dk_180 (x := 0) (y := 20) (by decide +kernel) rfl
theorem dX2_hearRelease_4 : decode cX2_hearRelease 4 = .ok (.iload_n 2, 1) := dk_28 (by decide +kernel)
theorem dX2_hearRelease_5 : decode cX2_hearRelease 5 = .ok (.aaload, 1) := dk_50 (by decide +kernel)
theorem dX2_hearRelease_6 : decode cX2_hearRelease 6 = .ok (.astore 4, 2) := dk_58 (x := 4) (by decide +kernel)
theorem dX2_hearRelease_8 : decode cX2_hearRelease 8 = .ok (.aload 4, 2) := dk_25 (x := 4) (by decide +kernel)
theorem dX2_hearRelease_10 : decode cX2_hearRelease 10 = .ok (.iload_n 1, 1) := dk_27 (by decide +kernel)
theorem dX2_hearRelease_11 : decode cX2_hearRelease 11 = .ok (.iload_n 3, 1) := dk_29 (by decide +kernel)
theorem dX2_hearRelease_12 : decode cX2_hearRelease 12 = .ok (.invokevirtual 259, 3) := dk_182 (x := 1) (y := 3) (by decide +kernel) rfl
theorem dX2_hearRelease_15 : decode cX2_hearRelease 15 = .ok (.ifCond .eq 16, 3) := dk_153 (x := 0) (y := 16) (by decide +kernel) rfl
theorem dX2_hearRelease_18 : decode cX2_hearRelease 18 = .ok (.aload 4, 2) := dk_25 (x := 4) (by decide +kernel)
theorem dX2_hearRelease_20 : decode cX2_hearRelease 20 = .ok (.invokevirtual 173, 3) := dk_182 (x := 0) (y := 173) (by decide +kernel) rfl
theorem dX2_hearRelease_23 : decode cX2_hearRelease 23 = .ok (.aload_n 0, 1) := dk_42 (by decide +kernel)
theorem dX2_hearRelease_24 : decode cX2_hearRelease 24 = .ok (.iload_n 2, 1) := dk_28 (by decide +kernel)
theorem dX2_hearRelease_25 : decode cX2_hearRelease 25 = .ok (.invokevirtual 176, 3) := dk_182 (x := 0) (y := 176) (by decide +kernel) rfl
theorem dX2_hearRelease_28 : decode cX2_hearRelease 28 = .ok (.goto 28, 3) := dk_167 (x := 0) (y := 28) (by decide +kernel) rfl
theorem dX2_hearRelease_31 : decode cX2_hearRelease 31 = .ok (.aload 4, 2) := dk_25 (x := 4) (by decide +kernel)
theorem dX2_hearRelease_33 : decode cX2_hearRelease 33 = .ok (.iload_n 1, 1) := dk_27 (by decide +kernel)
theorem dX2_hearRelease_34 : decode cX2_hearRelease 34 = .ok (.iload_n 3, 1) := dk_29 (by decide +kernel)
theorem dX2_hearRelease_35 : decode cX2_hearRelease 35 = .ok (.invokevirtual 262, 3) := dk_182 (x := 1) (y := 6) (by decide +kernel) rfl
theorem dX2_hearRelease_38 : decode cX2_hearRelease 38 = .ok (.ifCond .eq 18, 3) := dk_153 (x := 0) (y := 18) (by decide +kernel) rfl
theorem dX2_hearRelease_41 : decode cX2_hearRelease 41 = .ok (.aload 4, 2) := dk_25 (x := 4) (by decide +kernel)
theorem dX2_hearRelease_43 : decode cX2_hearRelease 43 = .ok (.dup, 1) := dk_89 (by decide +kernel)
theorem dX2_hearRelease_44 : decode cX2_hearRelease 44 = .ok (.getfield 167, 3) := dk_180 (x := 0) (y := 167) (by decide +kernel) rfl
theorem dX2_hearRelease_47 : decode cX2_hearRelease 47 = .ok (.iconst 1, 1) := dk_4 (by decide +kernel)
theorem dX2_hearRelease_48 : decode cX2_hearRelease 48 = .ok (.iload_n 1, 1) := dk_27 (by decide +kernel)
theorem dX2_hearRelease_49 : decode cX2_hearRelease 49 = .ok (.ishl, 1) := dk_120 (by decide +kernel)
theorem dX2_hearRelease_50 : decode cX2_hearRelease 50 = .ok (.iconst (-1), 1) := dk_2 (by decide +kernel)
theorem dX2_hearRelease_51 : decode cX2_hearRelease 51 = .ok (.ixor, 1) := dk_130 (by decide +kernel)
theorem dX2_hearRelease_52 : decode cX2_hearRelease 52 = .ok (.iand, 1) := dk_126 (by decide +kernel)
theorem dX2_hearRelease_53 : decode cX2_hearRelease 53 = .ok (.putfield 167, 3) := dk_181 (x := 0) (y := 167) (by decide +kernel) rfl
theorem dX2_hearRelease_56 : decode cX2_hearRelease 56 = .ok (.return_, 1) := dk_177 (by decide +kernel)
def f_X2_hearRelease (n : Nat) (o : Nat) (a1 : Int32) (a2 : Int32) (a3 : Int32) (M : Mem) : Option Mem :=
  chk (isO M 2 o) <|
  bnd (mR M o 2) fun o2 =>
  chk (isO M 102 o2) <|
  chk (inB a2 (mLn M o2)) <|
  bnd (mR M o2 (a2).toNatClampNeg) fun o6 =>
  chk (isO M 4 o6) <|
  obd (f_X4_isGrantedBy o6 a1 a3 M) fun r10 =>
  if r10 = 0 then (
    obd (f_X4_isWaitingBy o6 a1 a3 M) fun r14 =>
    if r14 = 0 then (
      some M
      ) else (
      bnd (sI M o6 9 ((mI M o6 9) &&& (((1 : Int32) <<< (a1 &&& 31)) ^^^ (-1 : Int32)))) fun M17 =>
      some M17
      )
    ) else (
    obd (f_X4_forgetGranted o6 M) fun M23 =>
    chk (isO M23 2 o) <|
    obd (f_X2_grantFirst n o a2 M23) fun M26 =>
    some M26
    )
theorem cd_X2_hearRelease : (yX2_hearRelease.cls ≠ "java/lang/invoke/MethodHandle" ∧ yX2_hearRelease.cls ≠ "java/lang/invoke/VarHandle") ∧ (parseMethodDescriptor yX2_hearRelease.desc).map (fun d => d.parameters.length) = some 3 := ⟨⟨by decide +kernel, by decide +kernel⟩, by decide +kernel⟩
theorem k_X2_hearRelease (G : Gam) {n : Nat} {o : Nat} {a1 : Int32} {a2 : Int32} {a3 : Int32} {M : Mem} {rv : Mem} (hf : f_X2_hearRelease n o a1 a2 a3 M = some rv) : Kt yX2_hearRelease cX2_hearRelease 5 none 4 99 G [.ref (gB G + o), .int a1, .int a2, .int a3] M rv none := by
  refine Kt.of (by decide) (Nat.le_of_ble_eq_true rfl) ?_
  intro p l e R s m args below meth c X hr hlk hnm
  refine s_drop [0, 1, 2, 3] (vs' := [(0, .ref (gB G + o)), (1, .int a1), (2, .int a2), (3, .int a3)]) rfl ?_
  rw [f_X2_hearRelease] at hf
  refine s_aload_n X 0 dX2_hearRelease_0 rfl rfl ?_
  obtain ⟨h1, hf⟩ := pk_chk hf
  obtain ⟨o2, e3, hf⟩ := pk_bnd hf
  obtain ⟨h4, hf⟩ := pk_chk hf
  refine s_getR X (ci := 2) (k := 2) rfl (Nat.le_of_ble_eq_true rfl) h1 wd423 (fun _ _ _ => rfl) (e3 ▸ h4) dX2_hearRelease_1 (e3 ▸ ?_)
  refine s_iload_n X 2 dX2_hearRelease_4 rfl rfl ?_
  obtain ⟨h5, hf⟩ := pk_chk hf
  obtain ⟨o6, e7, hf⟩ := pk_bnd hf
  obtain ⟨h8, hf⟩ := pk_chk hf
  refine s_aald X h4 h5 (e7 ▸ h8) dX2_hearRelease_5 (e7 ▸ ?_)
  refine s_astore X (vs' := [(0, .ref (gB G + o)), (1, .int a1), (2, .int a2), (3, .int a3), (4, .ref (gB G + o6))]) dX2_hearRelease_6 (Nat.le_of_ble_eq_true rfl) [1, 2, 3, 4, 0] rfl ?_
  refine s_aload X 4 dX2_hearRelease_8 rfl ?_
  refine s_iload_n X 1 dX2_hearRelease_10 rfl rfl ?_
  refine s_iload_n X 3 dX2_hearRelease_11 rfl rfl ?_
  obtain ⟨r10, hc9, hf⟩ := pk_obd hf
  refine s_callV X (ci := 4) (k_X4_isGrantedBy G hc9) rfl h8 wd1057 wd1058 wd1059 wd1060 wd133 cd_X4_isGrantedBy ⟨Nat.le_of_ble_eq_true rfl, Nat.le_of_ble_eq_true rfl⟩ (Nat.le_of_ble_eq_true rfl) dX2_hearRelease_12 ?_
  have hs11 := pk_ite hf
  clear hf
  refine s_if_eq X (tgt := 31) dX2_hearRelease_15 rfl (fun c12 => ?_) (fun c12 => ?_)
  · have hf := hs11.1 c12
    refine s_aload X 4 dX2_hearRelease_31 rfl ?_
    refine s_iload_n X 1 dX2_hearRelease_33 rfl rfl ?_
    refine s_iload_n X 3 dX2_hearRelease_34 rfl rfl ?_
    obtain ⟨r14, hc13, hf⟩ := pk_obd hf
    refine s_callV X (ci := 4) (k_X4_isWaitingBy G hc13) rfl h8 wd1066 wd1067 wd1068 wd1069 wd133 cd_X4_isWaitingBy ⟨Nat.le_of_ble_eq_true rfl, Nat.le_of_ble_eq_true rfl⟩ (Nat.le_of_ble_eq_true rfl) dX2_hearRelease_35 ?_
    have hs15 := pk_ite hf
    clear hf
    refine s_if_eq X (tgt := 56) dX2_hearRelease_38 rfl (fun c16 => ?_) (fun c16 => ?_)
    · have hf := hs15.1 c16
      cases hf
      exact s_vret X hr hlk dX2_hearRelease_56
    · have hf := hs15.2 c16
      refine s_aload X 4 dX2_hearRelease_41 rfl ?_
      refine s_dup X dX2_hearRelease_43 rfl ?_
      refine s_getI X (ci := 4) (k := 9) rfl (Nat.le_of_ble_eq_true rfl) h8 wd363 (fun _ _ _ => rfl) dX2_hearRelease_44 ?_
      refine s_iconst X (v := (1 : Int32)) dX2_hearRelease_47 rfl ?_
      refine s_iload_n X 1 dX2_hearRelease_48 rfl rfl ?_
      refine s_ishl X dX2_hearRelease_49 ?_
      refine s_iconst X (v := (-1 : Int32)) dX2_hearRelease_50 rfl ?_
      refine s_ixor X dX2_hearRelease_51 ?_
      refine s_iand X dX2_hearRelease_52 ?_
      obtain ⟨M17, e18, hf⟩ := pk_bnd hf
      refine s_putI X (ci := 4) (k := 9) rfl (Nat.le_of_ble_eq_true rfl) h8 wd363 (fun _ _ _ => rfl) rfl rfl e18 dX2_hearRelease_53 ?_
      have h19 := io_sI e18 h1
      have h20 := io_sI e18 h4
      have h21 := io_sI e18 h8
      cases hf
      exact s_vret X hr hlk dX2_hearRelease_56
  · have hf := hs11.2 c12
    refine s_aload X 4 dX2_hearRelease_18 rfl ?_
    obtain ⟨M23, hc22, hf⟩ := pk_obd hf
    refine s_callV X (ci := 4) (k_X4_forgetGranted G hc22) rfl h8 wd1065 wd612 wd613 wd614 wd133 cd_X4_forgetGranted ⟨Nat.le_of_ble_eq_true rfl, Nat.le_of_ble_eq_true rfl⟩ (Nat.le_of_ble_eq_true rfl) dX2_hearRelease_20 ?_
    refine s_aload_n X 0 dX2_hearRelease_23 rfl rfl ?_
    refine s_iload_n X 2 dX2_hearRelease_24 rfl rfl ?_
    obtain ⟨h24, hf⟩ := pk_chk hf
    obtain ⟨M26, hc25, hf⟩ := pk_obd hf
    refine s_callV X (ci := 2) (k_X2_grantFirst G hc25) rfl h24 wd1016 wd1018 wd16 wd1019 wd130 cd_X2_grantFirst ⟨Nat.le_of_ble_eq_true rfl, Nat.le_of_ble_eq_true rfl⟩ (Nat.le_of_ble_eq_true rfl) dX2_hearRelease_25 ?_
    refine s_goto X (tgt := 56) dX2_hearRelease_28 rfl ?_
    cases hf
    exact s_vret X hr hlk dX2_hearRelease_56
theorem dX2_bringFirst_0 : decode cX2_bringFirst 0 = .ok (.aload_n 0, 1) := dk_42 (by decide +kernel)
theorem dX2_bringFirst_1 : decode cX2_bringFirst 1 = .ok (.getfield 43, 3) := dk_180 (x := 0) (y := 43) (by decide +kernel) rfl
theorem dX2_bringFirst_4 : decode cX2_bringFirst 4 = .ok (.iload_n 1, 1) := dk_27 (by decide +kernel)
theorem dX2_bringFirst_5 : decode cX2_bringFirst 5 = .ok (.invokevirtual 179, 3) := dk_182 (x := 0) (y := 179) (by decide +kernel) rfl
theorem dX2_bringFirst_8 : decode cX2_bringFirst 8 = .ok (.ifCond .eq 26, 3) := dk_153 (x := 0) (y := 26) (by decide +kernel) rfl
theorem dX2_bringFirst_11 : decode cX2_bringFirst 11 = .ok (.aload_n 0, 1) := dk_42 (by decide +kernel)
theorem dX2_bringFirst_12 : decode cX2_bringFirst 12 = .ok (.getfield 43, 3) := dk_180 (x := 0) (y := 43) (by decide +kernel) rfl
theorem dX2_bringFirst_15 : decode cX2_bringFirst 15 = .ok (.iload_n 2, 1) := dk_28 (by decide +kernel)
theorem dX2_bringFirst_16 : decode cX2_bringFirst 16 = .ok (.invokevirtual 179, 3) := dk_182 (x := 0) (y := 179) (by decide +kernel) rfl
theorem dX2_bringFirst_19 : decode cX2_bringFirst 19 = .ok (.ifCond .eq 15, 3) := dk_153 (x := 0) (y := 15) (by decide +kernel) rfl
theorem dX2_bringFirst_22 : decode cX2_bringFirst 22 = .ok (.aload_n 0, 1) := dk_42 (by decide +kernel)
theorem dX2_bringFirst_23 : decode cX2_bringFirst 23 = .ok (.getfield 12, 3) := dk_180 (x := 0) (y := 12) (by decide +kernel) rfl
theorem dX2_bringFirst_26 : decode cX2_bringFirst 26 = .ok (.iload_n 1, 1) := dk_27 (by decide +kernel)
theorem dX2_bringFirst_27 : decode cX2_bringFirst 27 = .ok (.iload_n 2, 1) := dk_28 (by decide +kernel)
theorem dX2_bringFirst_28 : decode cX2_bringFirst 28 = .ok (.invokevirtual 182, 3) := dk_182 (x := 0) (y := 182) (by decide +kernel) rfl
theorem dX2_bringFirst_31 : decode cX2_bringFirst 31 = .ok (.goto 4, 3) := dk_167 (x := 0) (y := 4) (by decide +kernel) rfl
theorem dX2_bringFirst_34 : decode cX2_bringFirst 34 = .ok (.iconst (-1), 1) := dk_2 (by decide +kernel)
theorem dX2_bringFirst_35 : decode cX2_bringFirst 35 = .ok (.istore_n 3, 1) := dk_62 (by decide +kernel)
theorem dX2_bringFirst_36 : decode cX2_bringFirst 36 = .ok (.iload_n 3, 1) := dk_29 (by decide +kernel)
theorem dX2_bringFirst_37 : decode cX2_bringFirst 37 = .ok (.iconst (-1), 1) := dk_2 (by decide +kernel)
theorem dX2_bringFirst_38 : decode cX2_bringFirst 38 = .ok (.if_icmp .ne 5, 3) := dk_160 (x := 0) (y := 5) (by decide +kernel) rfl
theorem dX2_bringFirst_41 : decode cX2_bringFirst 41 = .ok (.iconst (-1), 1) := dk_2 (by decide +kernel)
theorem dX2_bringFirst_42 : decode cX2_bringFirst 42 = .ok (.ireturn, 1) := dk_172 (by decide +kernel)
theorem dX2_bringFirst_43 : decode cX2_bringFirst 43 = .ok (.iload_n 3, 1) := dk_29 (by decide +kernel)
theorem dX2_bringFirst_44 : decode cX2_bringFirst 44 = .ok (.invokestatic 185, 3) := dk_184 (x := 0) (y := 185) (by decide +kernel) rfl
theorem dX2_bringFirst_47 : decode cX2_bringFirst 47 = .ok (.istore 4, 2) := dk_54 (x := 4) (by decide +kernel)
theorem dX2_bringFirst_49 : decode cX2_bringFirst 49 = .ok (.iload_n 3, 1) := dk_29 (by decide +kernel)
theorem dX2_bringFirst_50 : decode cX2_bringFirst 50 = .ok (.invokestatic 189, 3) := dk_184 (x := 0) (y := 189) (by decide +kernel) rfl
theorem dX2_bringFirst_53 : decode cX2_bringFirst 53 = .ok (.istore 5, 2) := dk_54 (x := 5) (by decide +kernel)
theorem dX2_bringFirst_55 : decode cX2_bringFirst 55 = .ok (.aload_n 0, 1) := dk_42 (by decide +kernel)
theorem dX2_bringFirst_56 : decode cX2_bringFirst 56 = .ok (.iload 4, 2) := dk_21 (x := 4) (by decide +kernel)
theorem dX2_bringFirst_58 : decode cX2_bringFirst 58 = .ok (.iload_n 1, 1) := dk_27 (by decide +kernel)
theorem dX2_bringFirst_59 : decode cX2_bringFirst 59 = .ok (.iload_n 2, 1) := dk_28 (by decide +kernel)
theorem dX2_bringFirst_60 : decode cX2_bringFirst 60 = .ok (.iload 5, 2) := dk_21 (x := 5) (by decide +kernel)
theorem dX2_bringFirst_62 : decode cX2_bringFirst 62 = .ok (.invokevirtual 192, 3) := dk_182 (x := 0) (y := 192) (by decide +kernel) rfl
theorem dX2_bringFirst_65 : decode cX2_bringFirst 65 = .ok (.aload_n 0, 1) := dk_42 (by decide +kernel)
theorem dX2_bringFirst_66 : decode cX2_bringFirst 66 = .ok (.getfield 20, 3) := dk_180 (x := 0) (y := 20) (by decide +kernel) rfl
theorem dX2_bringFirst_69 : decode cX2_bringFirst 69 = .ok (.iload_n 2, 1) := dk_28 (by decide +kernel)
theorem dX2_bringFirst_70 : decode cX2_bringFirst 70 = .ok (.aaload, 1) := dk_50 (by decide +kernel)
theorem dX2_bringFirst_71 : decode cX2_bringFirst 71 = .ok (.aload_n 0, 1) := dk_42 (by decide +kernel)
theorem dX2_bringFirst_72 : decode cX2_bringFirst 72 = .ok (.getfield 20, 3) := dk_180 (x := 0) (y := 20) (by decide +kernel) rfl
theorem dX2_bringFirst_75 : decode cX2_bringFirst 75 = .ok (.iload_n 2, 1) := dk_28 (by decide +kernel)
theorem dX2_bringFirst_76 : decode cX2_bringFirst 76 = .ok (.aaload, 1) := dk_50 (by decide +kernel)
theorem dX2_bringFirst_77 : decode cX2_bringFirst 77 = .ok (.getfield 115, 3) := dk_180 (x := 0) (y := 115) (by decide +kernel) rfl
theorem dX2_bringFirst_80 : decode cX2_bringFirst 80 = .ok (.iload 5, 2) := dk_21 (x := 5) (by decide +kernel)
theorem dX2_bringFirst_82 : decode cX2_bringFirst 82 = .ok (.invokestatic 195, 3) := dk_184 (x := 0) (y := 195) (by decide +kernel) rfl
theorem dX2_bringFirst_85 : decode cX2_bringFirst 85 = .ok (.putfield 115, 3) := dk_181 (x := 0) (y := 115) (by decide +kernel) rfl
theorem dX2_bringFirst_88 : decode cX2_bringFirst 88 = .ok (.iload 4, 2) := dk_21 (x := 4) (by decide +kernel)
theorem dX2_bringFirst_90 : decode cX2_bringFirst 90 = .ok (.tableswitch 89 0 4 #[34, 45, 56, 67, 78], 34) := by decide +kernel
theorem dX2_bringFirst_124 : decode cX2_bringFirst 124 = .ok (.aload_n 0, 1) := dk_42 (by decide +kernel)
theorem dX2_bringFirst_125 : decode cX2_bringFirst 125 = .ok (.iload_n 1, 1) := dk_27 (by decide +kernel)
theorem dX2_bringFirst_126 : decode cX2_bringFirst 126 = .ok (.iload_n 2, 1) := dk_28 (by decide +kernel)
theorem dX2_bringFirst_127 : decode cX2_bringFirst 127 = .ok (.iload 5, 2) := dk_21 (x := 5) (by decide +kernel)
theorem dX2_bringFirst_129 : decode cX2_bringFirst 129 = .ok (.invokevirtual 200, 3) := dk_182 (x := 0) (y := 200) (by decide +kernel) rfl
theorem dX2_bringFirst_132 : decode cX2_bringFirst 132 = .ok (.goto 55, 3) := dk_167 (x := 0) (y := 55) (by decide +kernel) rfl
theorem dX2_bringFirst_135 : decode cX2_bringFirst 135 = .ok (.aload_n 0, 1) := dk_42 (by decide +kernel)
theorem dX2_bringFirst_136 : decode cX2_bringFirst 136 = .ok (.iload_n 1, 1) := dk_27 (by decide +kernel)
theorem dX2_bringFirst_137 : decode cX2_bringFirst 137 = .ok (.iload_n 2, 1) := dk_28 (by decide +kernel)
theorem dX2_bringFirst_138 : decode cX2_bringFirst 138 = .ok (.iload 5, 2) := dk_21 (x := 5) (by decide +kernel)
theorem dX2_bringFirst_140 : decode cX2_bringFirst 140 = .ok (.invokevirtual 203, 3) := dk_182 (x := 0) (y := 203) (by decide +kernel) rfl
theorem dX2_bringFirst_143 : decode cX2_bringFirst 143 = .ok (.goto 44, 3) := dk_167 (x := 0) (y := 44) (by decide +kernel) rfl
theorem dX2_bringFirst_146 : decode cX2_bringFirst 146 = .ok (.aload_n 0, 1) := dk_42 (by decide +kernel)
theorem dX2_bringFirst_147 : decode cX2_bringFirst 147 = .ok (.iload_n 1, 1) := dk_27 (by decide +kernel)
theorem dX2_bringFirst_148 : decode cX2_bringFirst 148 = .ok (.iload_n 2, 1) := dk_28 (by decide +kernel)
theorem dX2_bringFirst_149 : decode cX2_bringFirst 149 = .ok (.iload 5, 2) := dk_21 (x := 5) (by decide +kernel)
theorem dX2_bringFirst_151 : decode cX2_bringFirst 151 = .ok (.invokevirtual 206, 3) := dk_182 (x := 0) (y := 206) (by decide +kernel) rfl
theorem dX2_bringFirst_154 : decode cX2_bringFirst 154 = .ok (.goto 33, 3) := dk_167 (x := 0) (y := 33) (by decide +kernel) rfl
theorem dX2_bringFirst_157 : decode cX2_bringFirst 157 = .ok (.aload_n 0, 1) := dk_42 (by decide +kernel)
theorem dX2_bringFirst_158 : decode cX2_bringFirst 158 = .ok (.iload_n 1, 1) := dk_27 (by decide +kernel)
theorem dX2_bringFirst_159 : decode cX2_bringFirst 159 = .ok (.iload_n 2, 1) := dk_28 (by decide +kernel)
theorem dX2_bringFirst_160 : decode cX2_bringFirst 160 = .ok (.iload 5, 2) := dk_21 (x := 5) (by decide +kernel)
theorem dX2_bringFirst_162 : decode cX2_bringFirst 162 = .ok (.invokevirtual 209, 3) := dk_182 (x := 0) (y := 209) (by decide +kernel) rfl
theorem dX2_bringFirst_165 : decode cX2_bringFirst 165 = .ok (.goto 22, 3) := dk_167 (x := 0) (y := 22) (by decide +kernel) rfl
theorem dX2_bringFirst_168 : decode cX2_bringFirst 168 = .ok (.aload_n 0, 1) := dk_42 (by decide +kernel)
theorem dX2_bringFirst_169 : decode cX2_bringFirst 169 = .ok (.iload_n 1, 1) := dk_27 (by decide +kernel)
theorem dX2_bringFirst_170 : decode cX2_bringFirst 170 = .ok (.iload_n 2, 1) := dk_28 (by decide +kernel)
theorem dX2_bringFirst_171 : decode cX2_bringFirst 171 = .ok (.iload 5, 2) := dk_21 (x := 5) (by decide +kernel)
theorem dX2_bringFirst_173 : decode cX2_bringFirst 173 = .ok (.invokevirtual 212, 3) := dk_182 (x := 0) (y := 212) (by decide +kernel) rfl
theorem dX2_bringFirst_176 : decode cX2_bringFirst 176 = .ok (.goto 11, 3) := dk_167 (x := 0) (y := 11) (by decide +kernel) rfl
theorem dX2_bringFirst_179 : decode cX2_bringFirst 179 = .ok (.aload_n 0, 1) := dk_42 (by decide +kernel)
theorem dX2_bringFirst_180 : decode cX2_bringFirst 180 = .ok (.iload_n 1, 1) := dk_27 (by decide +kernel)
theorem dX2_bringFirst_181 : decode cX2_bringFirst 181 = .ok (.iload_n 2, 1) := dk_28 (by decide +kernel)
theorem dX2_bringFirst_182 : decode cX2_bringFirst 182 = .ok (.iload 5, 2) := dk_21 (x := 5) (by decide +kernel)
theorem dX2_bringFirst_184 : decode cX2_bringFirst 184 = .ok (.invokevirtual 215, 3) := dk_182 (x := 0) (y := 215) (by decide +kernel) rfl
theorem dX2_bringFirst_187 : decode cX2_bringFirst 187 = .ok (.iload 4, 2) := dk_21 (x := 4) (by decide +kernel)
theorem dX2_bringFirst_189 : decode cX2_bringFirst 189 = .ok (.ireturn, 1) := dk_172 (by decide +kernel)
def f_X2_bringFirst_35 (n : Nat) (v0 : Nat) (v1 : Int32) (v2 : Int32) (u0 : Int32) (M : Mem) : Option (Int32 × Mem) :=
    if u0 = (-1 : Int32) then (
      some ((-1 : Int32), M)
      ) else (
      obd (f_X5_kindOf u0 M) fun r4 =>
      obd (f_X5_stampOf u0 M) fun r6 =>
      chk (isO M 2 v0) <|
      obd (f_X2_noteBringing v0 r4 v1 v2 r6 M) fun M9 =>
      chk (isO M9 2 v0) <|
      bnd (mR M9 v0 2) fun o11 =>
      chk (isO M9 102 o11) <|
      chk (inB v2 (mLn M9 o11)) <|
      bnd (mR M9 o11 (v2).toNatClampNeg) fun o15 =>
      chk (isO M9 4 o15) <|
      bnd (mR M9 v0 2) fun o18 =>
      chk (isO M9 102 o18) <|
      chk (inB v2 (mLn M9 o18)) <|
      bnd (mR M9 o18 (v2).toNatClampNeg) fun o22 =>
      chk (isO M9 4 o22) <|
      bnd (sI M9 o15 0 (if (mI M9 o22 0) < r6 then r6 else (mI M9 o22 0))) fun M25 =>
      if r4 = (0 : Int32) then (
        obd (f_X2_hearRequest n v0 v1 v2 r6 M25) fun M35 =>
        some (r4, M35)
        ) else (
      if r4 = (1 : Int32) then (
        obd (f_X2_hearGrant n v0 v1 v2 r6 M25) fun M39 =>
        some (r4, M39)
        ) else (
      if r4 = (2 : Int32) then (
        obd (f_X2_hearFail n v0 v1 v2 r6 M25) fun M43 =>
        some (r4, M43)
        ) else (
      if r4 = (3 : Int32) then (
        obd (f_X2_hearInquire v0 v1 v2 r6 M25) fun M47 =>
        some (r4, M47)
        ) else (
      if r4 = (4 : Int32) then (
        obd (f_X2_hearYield n v0 v1 v2 r6 M25) fun M51 =>
        some (r4, M51)
        ) else (
      obd (f_X2_hearRelease n v0 v1 v2 r6 M25) fun M53 =>
      some (r4, M53)
      )
      )
      )
      )
      )
      )
def f_X2_bringFirst (n : Nat) (o : Nat) (a1 : Int32) (a2 : Int32) (M : Mem) : Option (Int32 × Mem) :=
  chk (isO M 2 o) <|
  bnd (mR M o 0) fun o2 =>
  chk (isO M 7 o2) <|
  obd (f_X7_isNode o2 a1 M) fun r6 =>
  if r6 = 0 then (
    f_X2_bringFirst_35 n o a1 a2 (-1 : Int32) M
    ) else (
    bnd (mR M o 0) fun o9 =>
    chk (isO M 7 o9) <|
    obd (f_X7_isNode o9 a2 M) fun r13 =>
    if r13 = 0 then (
      f_X2_bringFirst_35 n o a1 a2 (-1 : Int32) M
      ) else (
      bnd (mR M o 1) fun o16 =>
      chk (isO M 5 o16) <|
      obd2 (f_X5_takeFirst o16 a1 a2 M) fun r20 M21 =>
      f_X2_bringFirst_35 n o a1 a2 r20 M21
      )
    )
theorem cd_X2_bringFirst : (yX2_bringFirst.cls ≠ "java/lang/invoke/MethodHandle" ∧ yX2_bringFirst.cls ≠ "java/lang/invoke/VarHandle") ∧ (parseMethodDescriptor yX2_bringFirst.desc).map (fun d => d.parameters.length) = some 2 := ⟨⟨by decide +kernel, by decide +kernel⟩, by decide +kernel⟩
section
variable {p : Program} {l : Launch} {e : Env} {R : Room} {s : State} {m : MethodId} {args : Array Value} {below : List Frame} {meth : Method} {c : Code} {G : Gam} {M0 : Mem}
theorem l_X2_bringFirst_35 {rv : (Int32 × Mem)} {n : Nat} {v0 : Nat} {v1 : Int32} {v2 : Int32} {u0 : Int32} {M : Mem} (X : Cx p R s m args c G M0 cX2_bringFirst yX2_bringFirst.cls 6 5 124) (hr : meth.sig.returnType = (some .int)) (hlk : meth.locks = false) (hnm : meth.name = "bringFirst") (hf : f_X2_bringFirst_35 n v0 v1 v2 u0 M = some rv) : Sg p l e R s m args below meth c (Qm below G args s (some (.int rv.1)) M0 rv.2) G M0 6 35 [(0, .ref (gB G + v0)), (1, .int v1), (2, .int v2)] [.int u0] M := by
  rw [f_X2_bringFirst_35] at hf
  refine s_istore_n X (vs' := [(0, .ref (gB G + v0)), (1, .int v1), (2, .int v2), (3, .int u0)]) dX2_bringFirst_35 rfl (Nat.le_of_ble_eq_true rfl) [1, 2, 3, 0] rfl ?_
  refine s_iload_n X 3 dX2_bringFirst_36 rfl rfl ?_
  refine s_iconst X (v := (-1 : Int32)) dX2_bringFirst_37 rfl ?_
  have hs1 := pk_ite hf
  clear hf
  refine s_icmp_ne X (tgt := 43) dX2_bringFirst_38 rfl (fun c2 => ?_) (fun c2 => ?_)
  · have hf := hs1.2 c2
    refine s_iload_n X 3 dX2_bringFirst_43 rfl rfl ?_
    obtain ⟨r4, hc3, hf⟩ := pk_obd hf
    refine s_callS X (k_X5_kindOf G hc3) wd988 wd989 wd990 wd131 cd_X5_kindOf ⟨Nat.le_of_ble_eq_true rfl, Nat.le_of_ble_eq_true rfl⟩ (Nat.le_of_ble_eq_true rfl) dX2_bringFirst_44 ?_
    refine s_istore X (vs' := [(0, .ref (gB G + v0)), (1, .int v1), (2, .int v2), (3, .int u0), (4, .int r4)]) dX2_bringFirst_47 (Nat.le_of_ble_eq_true rfl) [1, 2, 3, 4, 0] rfl ?_
    refine s_iload_n X 3 dX2_bringFirst_49 rfl rfl ?_
    obtain ⟨r6, hc5, hf⟩ := pk_obd hf
    refine s_callS X (k_X5_stampOf G hc5) wd991 wd992 wd993 wd131 cd_X5_stampOf ⟨Nat.le_of_ble_eq_true rfl, Nat.le_of_ble_eq_true rfl⟩ (Nat.le_of_ble_eq_true rfl) dX2_bringFirst_50 ?_
    refine s_istore X (vs' := [(0, .ref (gB G + v0)), (1, .int v1), (2, .int v2), (3, .int u0), (4, .int r4), (5, .int r6)]) dX2_bringFirst_53 (Nat.le_of_ble_eq_true rfl) [1, 2, 3, 4, 5, 0] rfl ?_
    refine s_aload_n X 0 dX2_bringFirst_55 rfl rfl ?_
    refine s_iload X 4 dX2_bringFirst_56 rfl ?_
    refine s_iload_n X 1 dX2_bringFirst_58 rfl rfl ?_
    refine s_iload_n X 2 dX2_bringFirst_59 rfl rfl ?_
    refine s_iload X 5 dX2_bringFirst_60 rfl ?_
    obtain ⟨h7, hf⟩ := pk_chk hf
    obtain ⟨M9, hc8, hf⟩ := pk_obd hf
    refine s_callV X (ci := 2) (k_X2_noteBringing G hc8) rfl h7 wd994 wd996 wd14 wd997 wd130 cd_X2_noteBringing ⟨Nat.le_of_ble_eq_true rfl, Nat.le_of_ble_eq_true rfl⟩ (Nat.le_of_ble_eq_true rfl) dX2_bringFirst_62 ?_
    refine s_aload_n X 0 dX2_bringFirst_65 rfl rfl ?_
    obtain ⟨h10, hf⟩ := pk_chk hf
    obtain ⟨o11, e12, hf⟩ := pk_bnd hf
    obtain ⟨h13, hf⟩ := pk_chk hf
    refine s_getR X (ci := 2) (k := 2) rfl (Nat.le_of_ble_eq_true rfl) h10 wd423 (fun _ _ _ => rfl) (e12 ▸ h13) dX2_bringFirst_66 (e12 ▸ ?_)
    refine s_iload_n X 2 dX2_bringFirst_69 rfl rfl ?_
    obtain ⟨h14, hf⟩ := pk_chk hf
    obtain ⟨o15, e16, hf⟩ := pk_bnd hf
    obtain ⟨h17, hf⟩ := pk_chk hf
    refine s_aald X h13 h14 (e16 ▸ h17) dX2_bringFirst_70 (e16 ▸ ?_)
    refine s_aload_n X 0 dX2_bringFirst_71 rfl rfl ?_
    obtain ⟨o18, e19, hf⟩ := pk_bnd hf
    obtain ⟨h20, hf⟩ := pk_chk hf
    refine s_getR X (ci := 2) (k := 2) rfl (Nat.le_of_ble_eq_true rfl) h10 wd423 (fun _ _ _ => rfl) (e19 ▸ h20) dX2_bringFirst_72 (e19 ▸ ?_)
    refine s_iload_n X 2 dX2_bringFirst_75 rfl rfl ?_
    obtain ⟨h21, hf⟩ := pk_chk hf
    obtain ⟨o22, e23, hf⟩ := pk_bnd hf
    obtain ⟨h24, hf⟩ := pk_chk hf
    refine s_aald X h20 h21 (e23 ▸ h24) dX2_bringFirst_76 (e23 ▸ ?_)
    refine s_getI X (ci := 4) (k := 0) rfl (Nat.le_of_ble_eq_true rfl) h24 wd326 (fun _ _ _ => rfl) dX2_bringFirst_77 ?_
    refine s_iload X 5 dX2_bringFirst_80 rfl ?_
    refine s_mmax X wd1002 wd896 wd142 wd897 ⟨Nat.le_of_ble_eq_true rfl, Nat.le_of_ble_eq_true rfl⟩ dX2_bringFirst_82 ?_
    obtain ⟨M25, e26, hf⟩ := pk_bnd hf
    refine s_putI X (ci := 4) (k := 0) rfl (Nat.le_of_ble_eq_true rfl) h17 wd326 (fun _ _ _ => rfl) rfl rfl e26 dX2_bringFirst_85 ?_
    have h27 := io_sI e26 h10
    have h28 := io_sI e26 h13
    have h29 := io_sI e26 h17
    have h30 := io_sI e26 h20
    have h31 := io_sI e26 h24
    refine s_iload X 4 dX2_bringFirst_88 rfl ?_
    have hs32 := pk_ite hf
    clear hf
    by_cases c33 : r4 = (0 : Int32)
    · have hf := hs32.1 c33
      refine s_swC X (v := (0 : Int32)) (tgt := 124) dX2_bringFirst_90 c33 (by decide) (by decide) rfl rfl ?_
      refine s_aload_n X 0 dX2_bringFirst_124 rfl rfl ?_
      refine s_iload_n X 1 dX2_bringFirst_125 rfl rfl ?_
      refine s_iload_n X 2 dX2_bringFirst_126 rfl rfl ?_
      refine s_iload X 5 dX2_bringFirst_127 rfl ?_
      obtain ⟨M35, hc34, hf⟩ := pk_obd hf
      refine s_callV X (ci := 2) (k_X2_hearRequest G hc34) rfl h27 wd1003 wd1005 wd15 wd1006 wd130 cd_X2_hearRequest ⟨Nat.le_of_ble_eq_true rfl, Nat.le_of_ble_eq_true rfl⟩ (Nat.le_of_ble_eq_true rfl) dX2_bringFirst_129 ?_
      refine s_goto X (tgt := 187) dX2_bringFirst_132 rfl ?_
      refine s_iload X 4 dX2_bringFirst_187 rfl ?_
      cases hf
      exact s_iret X hr hlk dX2_bringFirst_189
    have hf := hs32.2 c33
    have hs36 := pk_ite hf
    clear hf
    by_cases c37 : r4 = (1 : Int32)
    · have hf := hs36.1 c37
      refine s_swC X (v := (1 : Int32)) (tgt := 135) dX2_bringFirst_90 c37 (by decide) (by decide) rfl rfl ?_
      refine s_aload_n X 0 dX2_bringFirst_135 rfl rfl ?_
      refine s_iload_n X 1 dX2_bringFirst_136 rfl rfl ?_
      refine s_iload_n X 2 dX2_bringFirst_137 rfl rfl ?_
      refine s_iload X 5 dX2_bringFirst_138 rfl ?_
      obtain ⟨M39, hc38, hf⟩ := pk_obd hf
      refine s_callV X (ci := 2) (k_X2_hearGrant G hc38) rfl h27 wd1027 wd1029 wd17 wd1030 wd130 cd_X2_hearGrant ⟨Nat.le_of_ble_eq_true rfl, Nat.le_of_ble_eq_true rfl⟩ (Nat.le_of_ble_eq_true rfl) dX2_bringFirst_140 ?_
      refine s_goto X (tgt := 187) dX2_bringFirst_143 rfl ?_
      refine s_iload X 4 dX2_bringFirst_187 rfl ?_
      cases hf
      exact s_iret X hr hlk dX2_bringFirst_189
    have hf := hs36.2 c37
    have hs40 := pk_ite hf
    clear hf
    by_cases c41 : r4 = (2 : Int32)
    · have hf := hs40.1 c41
      refine s_swC X (v := (2 : Int32)) (tgt := 146) dX2_bringFirst_90 c41 (by decide) (by decide) rfl rfl ?_
      refine s_aload_n X 0 dX2_bringFirst_146 rfl rfl ?_
      refine s_iload_n X 1 dX2_bringFirst_147 rfl rfl ?_
      refine s_iload_n X 2 dX2_bringFirst_148 rfl rfl ?_
      refine s_iload X 5 dX2_bringFirst_149 rfl ?_
      obtain ⟨M43, hc42, hf⟩ := pk_obd hf
      refine s_callV X (ci := 2) (k_X2_hearFail G hc42) rfl h27 wd1045 wd1047 wd21 wd1048 wd130 cd_X2_hearFail ⟨Nat.le_of_ble_eq_true rfl, Nat.le_of_ble_eq_true rfl⟩ (Nat.le_of_ble_eq_true rfl) dX2_bringFirst_151 ?_
      refine s_goto X (tgt := 187) dX2_bringFirst_154 rfl ?_
      refine s_iload X 4 dX2_bringFirst_187 rfl ?_
      cases hf
      exact s_iret X hr hlk dX2_bringFirst_189
    have hf := hs40.2 c41
    have hs44 := pk_ite hf
    clear hf
    by_cases c45 : r4 = (3 : Int32)
    · have hf := hs44.1 c45
      refine s_swC X (v := (3 : Int32)) (tgt := 157) dX2_bringFirst_90 c45 (by decide) (by decide) rfl rfl ?_
      refine s_aload_n X 0 dX2_bringFirst_157 rfl rfl ?_
      refine s_iload_n X 1 dX2_bringFirst_158 rfl rfl ?_
      refine s_iload_n X 2 dX2_bringFirst_159 rfl rfl ?_
      refine s_iload X 5 dX2_bringFirst_160 rfl ?_
      obtain ⟨M47, hc46, hf⟩ := pk_obd hf
      refine s_callV X (ci := 2) (k_X2_hearInquire G hc46) rfl h27 wd1049 wd1051 wd22 wd1052 wd130 cd_X2_hearInquire ⟨Nat.le_of_ble_eq_true rfl, Nat.le_of_ble_eq_true rfl⟩ (Nat.le_of_ble_eq_true rfl) dX2_bringFirst_162 ?_
      refine s_goto X (tgt := 187) dX2_bringFirst_165 rfl ?_
      refine s_iload X 4 dX2_bringFirst_187 rfl ?_
      cases hf
      exact s_iret X hr hlk dX2_bringFirst_189
    have hf := hs44.2 c45
    have hs48 := pk_ite hf
    clear hf
    by_cases c49 : r4 = (4 : Int32)
    · have hf := hs48.1 c49
      refine s_swC X (v := (4 : Int32)) (tgt := 168) dX2_bringFirst_90 c49 (by decide) (by decide) rfl rfl ?_
      refine s_aload_n X 0 dX2_bringFirst_168 rfl rfl ?_
      refine s_iload_n X 1 dX2_bringFirst_169 rfl rfl ?_
      refine s_iload_n X 2 dX2_bringFirst_170 rfl rfl ?_
      refine s_iload X 5 dX2_bringFirst_171 rfl ?_
      obtain ⟨M51, hc50, hf⟩ := pk_obd hf
      refine s_callV X (ci := 2) (k_X2_hearYield G hc50) rfl h27 wd1053 wd1055 wd23 wd1056 wd130 cd_X2_hearYield ⟨Nat.le_of_ble_eq_true rfl, Nat.le_of_ble_eq_true rfl⟩ (Nat.le_of_ble_eq_true rfl) dX2_bringFirst_173 ?_
      refine s_goto X (tgt := 187) dX2_bringFirst_176 rfl ?_
      refine s_iload X 4 dX2_bringFirst_187 rfl ?_
      cases hf
      exact s_iret X hr hlk dX2_bringFirst_189
    have hf := hs48.2 c49
    refine s_swOut X (tgt := 179) dX2_bringFirst_90 (by have := sw_ne (v := (0 : Int32)) (z := 0) c33 (by decide); have := sw_ne (v := (1 : Int32)) (z := 1) c37 (by decide); have := sw_ne (v := (2 : Int32)) (z := 2) c41 (by decide); have := sw_ne (v := (3 : Int32)) (z := 3) c45 (by decide); have := sw_ne (v := (4 : Int32)) (z := 4) c49 (by decide); omega) rfl ?_
    refine s_aload_n X 0 dX2_bringFirst_179 rfl rfl ?_
    refine s_iload_n X 1 dX2_bringFirst_180 rfl rfl ?_
    refine s_iload_n X 2 dX2_bringFirst_181 rfl rfl ?_
    refine s_iload X 5 dX2_bringFirst_182 rfl ?_
    obtain ⟨M53, hc52, hf⟩ := pk_obd hf
    refine s_callV X (ci := 2) (k_X2_hearRelease G hc52) rfl h27 wd1061 wd1063 wd24 wd1064 wd130 cd_X2_hearRelease ⟨Nat.le_of_ble_eq_true rfl, Nat.le_of_ble_eq_true rfl⟩ (Nat.le_of_ble_eq_true rfl) dX2_bringFirst_184 ?_
    refine s_iload X 4 dX2_bringFirst_187 rfl ?_
    cases hf
    exact s_iret X hr hlk dX2_bringFirst_189
  · have hf := hs1.1 c2
    refine s_iconst X (v := (-1 : Int32)) dX2_bringFirst_41 rfl ?_
    cases hf
    exact s_iret X hr hlk dX2_bringFirst_42
end
theorem k_X2_bringFirst (G : Gam) {n : Nat} {o : Nat} {a1 : Int32} {a2 : Int32} {M : Mem} {rv : (Int32 × Mem)} (hf : f_X2_bringFirst n o a1 a2 M = some rv) : Kt yX2_bringFirst cX2_bringFirst 6 (some .int) 5 124 G [.ref (gB G + o), .int a1, .int a2] M rv.2 (some (.int rv.1)) := by
  refine Kt.of (by decide) (Nat.le_of_ble_eq_true rfl) ?_
  intro p l e R s m args below meth c X hr hlk hnm
  refine s_drop [0, 1, 2] (vs' := [(0, .ref (gB G + o)), (1, .int a1), (2, .int a2)]) rfl ?_
  rw [f_X2_bringFirst] at hf
  refine s_aload_n X 0 dX2_bringFirst_0 rfl rfl ?_
  obtain ⟨h1, hf⟩ := pk_chk hf
  obtain ⟨o2, e3, hf⟩ := pk_bnd hf
  obtain ⟨h4, hf⟩ := pk_chk hf
  refine s_getR X (ci := 2) (k := 0) rfl (Nat.le_of_ble_eq_true rfl) h1 wd416 (fun _ _ _ => rfl) (e3 ▸ h4) dX2_bringFirst_1 (e3 ▸ ?_)
  refine s_iload_n X 1 dX2_bringFirst_4 rfl rfl ?_
  obtain ⟨r6, hc5, hf⟩ := pk_obd hf
  refine s_callV X (ci := 7) (k_X7_isNode G hc5) rfl h4 wd983 wd700 wd701 wd702 wd127 cd_X7_isNode ⟨Nat.le_of_ble_eq_true rfl, Nat.le_of_ble_eq_true rfl⟩ (Nat.le_of_ble_eq_true rfl) dX2_bringFirst_5 ?_
  have hs7 := pk_ite hf
  clear hf
  refine s_if_eq X (tgt := 34) dX2_bringFirst_8 rfl (fun c8 => ?_) (fun c8 => ?_)
  · have hf := hs7.1 c8
    refine s_iconst X (v := (-1 : Int32)) dX2_bringFirst_34 rfl ?_
    exact l_X2_bringFirst_35 X hr hlk hnm hf
  · have hf := hs7.2 c8
    refine s_aload_n X 0 dX2_bringFirst_11 rfl rfl ?_
    obtain ⟨o9, e10, hf⟩ := pk_bnd hf
    obtain ⟨h11, hf⟩ := pk_chk hf
    refine s_getR X (ci := 2) (k := 0) rfl (Nat.le_of_ble_eq_true rfl) h1 wd416 (fun _ _ _ => rfl) (e10 ▸ h11) dX2_bringFirst_12 (e10 ▸ ?_)
    refine s_iload_n X 2 dX2_bringFirst_15 rfl rfl ?_
    obtain ⟨r13, hc12, hf⟩ := pk_obd hf
    refine s_callV X (ci := 7) (k_X7_isNode G hc12) rfl h11 wd983 wd700 wd701 wd702 wd127 cd_X7_isNode ⟨Nat.le_of_ble_eq_true rfl, Nat.le_of_ble_eq_true rfl⟩ (Nat.le_of_ble_eq_true rfl) dX2_bringFirst_16 ?_
    have hs14 := pk_ite hf
    clear hf
    refine s_if_eq X (tgt := 34) dX2_bringFirst_19 rfl (fun c15 => ?_) (fun c15 => ?_)
    · have hf := hs14.1 c15
      refine s_iconst X (v := (-1 : Int32)) dX2_bringFirst_34 rfl ?_
      exact l_X2_bringFirst_35 X hr hlk hnm hf
    · have hf := hs14.2 c15
      refine s_aload_n X 0 dX2_bringFirst_22 rfl rfl ?_
      obtain ⟨o16, e17, hf⟩ := pk_bnd hf
      obtain ⟨h18, hf⟩ := pk_chk hf
      refine s_getR X (ci := 2) (k := 1) rfl (Nat.le_of_ble_eq_true rfl) h1 wd419 (fun _ _ _ => rfl) (e17 ▸ h18) dX2_bringFirst_23 (e17 ▸ ?_)
      refine s_iload_n X 1 dX2_bringFirst_26 rfl rfl ?_
      refine s_iload_n X 2 dX2_bringFirst_27 rfl rfl ?_
      obtain ⟨r20, M21, hc19, hf⟩ := pk_obd2 hf
      refine s_callV X (ci := 5) (k_X5_takeFirst G hc19) rfl h18 wd984 wd985 wd986 wd987 wd131 cd_X5_takeFirst ⟨Nat.le_of_ble_eq_true rfl, Nat.le_of_ble_eq_true rfl⟩ (Nat.le_of_ble_eq_true rfl) dX2_bringFirst_28 ?_
      refine s_goto X (tgt := 35) dX2_bringFirst_31 rfl ?_
      exact l_X2_bringFirst_35 X hr hlk hnm hf
theorem dX9_bring_0 : decode cX9_bring 0 = .ok (.aload_n 0, 1) := dk_42 (by decide +kernel)
theorem dX9_bring_1 : decode cX9_bring 1 = .ok (.getfield 28, 3) := dk_180 (x := 0) (y := 28) (by decide +kernel) rfl
theorem dX9_bring_4 : decode cX9_bring 4 = .ok (.iload_n 1, 1) := dk_27 (by decide +kernel)
theorem dX9_bring_5 : decode cX9_bring 5 = .ok (.iload_n 2, 1) := dk_28 (by decide +kernel)
theorem dX9_bring_6 : decode cX9_bring 6 = .ok (.invokevirtual 187, 3) := dk_182 (x := 0) (y := 187) (by decide +kernel) rfl
theorem dX9_bring_9 : decode cX9_bring 9 = .ok (.ireturn, 1) := dk_172 (by decide +kernel)
def f_X9_bring (n : Nat) (o : Nat) (a1 : Int32) (a2 : Int32) (M : Mem) : Option (Int32 × Mem) :=
  chk (isO M 9 o) <|
  bnd (mR M o 2) fun o2 =>
  chk (isO M 2 o2) <|
  obd2 (f_X2_bringFirst n o2 a1 a2 M) fun r6 M7 =>
  some (r6, M7)
theorem cd_X9_bring : (yX9_bring.cls ≠ "java/lang/invoke/MethodHandle" ∧ yX9_bring.cls ≠ "java/lang/invoke/VarHandle") ∧ (parseMethodDescriptor yX9_bring.desc).map (fun d => d.parameters.length) = some 2 := ⟨⟨by decide +kernel, by decide +kernel⟩, by decide +kernel⟩
theorem k_X9_bring (G : Gam) {n : Nat} {o : Nat} {a1 : Int32} {a2 : Int32} {M : Mem} {rv : (Int32 × Mem)} (hf : f_X9_bring n o a1 a2 M = some rv) : Kt yX9_bring cX9_bring 3 (some .int) 6 149 G [.ref (gB G + o), .int a1, .int a2] M rv.2 (some (.int rv.1)) := by
  refine Kt.of (by decide) (Nat.le_of_ble_eq_true rfl) ?_
  intro p l e R s m args below meth c X hr hlk hnm
  refine s_drop [0, 1, 2] (vs' := [(0, .ref (gB G + o)), (1, .int a1), (2, .int a2)]) rfl ?_
  rw [f_X9_bring] at hf
  refine s_aload_n X 0 dX9_bring_0 rfl rfl ?_
  obtain ⟨h1, hf⟩ := pk_chk hf
  obtain ⟨o2, e3, hf⟩ := pk_bnd hf
  obtain ⟨h4, hf⟩ := pk_chk hf
  refine s_getR X (ci := 9) (k := 2) rfl (Nat.le_of_ble_eq_true rfl) h1 wd629 (fun _ _ _ => rfl) (e3 ▸ h4) dX9_bring_1 (e3 ▸ ?_)
  refine s_iload_n X 1 dX9_bring_4 rfl rfl ?_
  refine s_iload_n X 2 dX9_bring_5 rfl rfl ?_
  obtain ⟨r6, M7, hc5, hf⟩ := pk_obd2 hf
  refine s_callV X (ci := 2) (k_X2_bringFirst G hc5) rfl h4 wd979 wd980 wd981 wd982 wd130 cd_X2_bringFirst ⟨Nat.le_of_ble_eq_true rfl, Nat.le_of_ble_eq_true rfl⟩ (Nat.le_of_ble_eq_true rfl) dX9_bring_6 ?_
  cases hf
  exact s_iret X hr hlk dX9_bring_9
theorem dX10_letterAt_0 : decode cX10_letterAt 0 = .ok (.iconst 0, 1) := dk_3 (by decide +kernel)
theorem dX10_letterAt_1 : decode cX10_letterAt 1 = .ok (.istore_n 3, 1) := dk_62 (by decide +kernel)
theorem dX10_letterAt_2 : decode cX10_letterAt 2 = .ok (.iload_n 3, 1) := dk_29 (by decide +kernel)
theorem dX10_letterAt_3 : decode cX10_letterAt 3 = .ok (.aload_n 0, 1) := dk_42 (by decide +kernel)
theorem dX10_letterAt_4 : decode cX10_letterAt 4 = .ok (.getfield 7, 3) := dk_180 (x := 0) (y := 7) (by decide +kernel) rfl
theorem dX10_letterAt_7 : decode cX10_letterAt 7 = .ok (.sipush 850, 3) := dk_17 (x := 3) (y := 82) (by decide +kernel) rfl
theorem dX10_letterAt_10 : decode cX10_letterAt 10 = .ok (.iaload, 1) := dk_46 (by decide +kernel)
theorem dX10_letterAt_11 : decode cX10_letterAt 11 = .ok (.if_icmp .ge 33, 3) := dk_162 (x := 0) (y := 33) (by decide +kernel) rfl
theorem dX10_letterAt_14 : decode cX10_letterAt 14 = .ok (.aload_n 0, 1) := dk_42 (by decide +kernel)
theorem dX10_letterAt_15 : decode cX10_letterAt 15 = .ok (.getfield 7, 3) := dk_180 (x := 0) (y := 7) (by decide +kernel) rfl
theorem dX10_letterAt_18 : decode cX10_letterAt 18 = .ok (.sipush 851, 3) := dk_17 (x := 3) (y := 83) (by decide +kernel) rfl
theorem dX10_letterAt_21 : decode cX10_letterAt 21 = .ok (.iload_n 3, 1) := dk_29 (by decide +kernel)
theorem dX10_letterAt_22 : decode cX10_letterAt 22 = .ok (.iadd, 1) := dk_96 (by decide +kernel)
theorem dX10_letterAt_23 : decode cX10_letterAt 23 = .ok (.iaload, 1) := dk_46 (by decide +kernel)
theorem dX10_letterAt_24 : decode cX10_letterAt 24 = .ok (.invokestatic 140, 3) := dk_184 (x := 0) (y := 140) (by decide +kernel) rfl
theorem dX10_letterAt_27 : decode cX10_letterAt 27 = .ok (.bipush 16, 2) := dk_16 (x := 16) (by decide +kernel) rfl
theorem dX10_letterAt_29 : decode cX10_letterAt 29 = .ok (.iload_n 1, 1) := dk_27 (by decide +kernel)
theorem dX10_letterAt_30 : decode cX10_letterAt 30 = .ok (.imul, 1) := dk_104 (by decide +kernel)
theorem dX10_letterAt_31 : decode cX10_letterAt 31 = .ok (.iload_n 2, 1) := dk_28 (by decide +kernel)
theorem dX10_letterAt_32 : decode cX10_letterAt 32 = .ok (.iadd, 1) := dk_96 (by decide +kernel)
theorem dX10_letterAt_33 : decode cX10_letterAt 33 = .ok (.if_icmp .ne 5, 3) := dk_160 (x := 0) (y := 5) (by decide +kernel) rfl
theorem dX10_letterAt_36 : decode cX10_letterAt 36 = .ok (.iload_n 3, 1) := dk_29 (by decide +kernel)
theorem dX10_letterAt_37 : decode cX10_letterAt 37 = .ok (.ireturn, 1) := dk_172 (by decide +kernel)
theorem dX10_letterAt_38 : decode cX10_letterAt 38 = .ok (.iinc 3 1, 3) := dk_132 (x := 3) (y := 1) (by decide +kernel) rfl
theorem dX10_letterAt_41 : decode cX10_letterAt 41 = .ok (.goto (-39), 3) := dk_167 (x := 255) (y := 217) (by decide +kernel) rfl
theorem dX10_letterAt_44 : decode cX10_letterAt 44 = .ok (.iconst (-1), 1) := dk_2 (by decide +kernel)
theorem dX10_letterAt_45 : decode cX10_letterAt 45 = .ok (.ireturn, 1) := dk_172 (by decide +kernel)
def f_X10_letterAt_2 (M : Mem) : Nat → Nat → Int32 → Int32 → Int32 → Option Int32
  | 0, _, _, _, _ => none
  | n + 1, v0, v1, v2, v3 =>
    chk (isO M 10 v0) <|
    bnd (mR M v0 0) fun o2 =>
    chk (isO M 100 o2) <|
    chk (inB (850 : Int32) (mLn M o2)) <|
    if (mI M o2 ((850 : Int32)).toNatClampNeg) ≤ v3 then (
      some (-1 : Int32)
      ) else (
      bnd (mR M v0 0) fun o8 =>
      chk (isO M 100 o8) <|
      chk (inB ((851 : Int32) + v3) (mLn M o8)) <|
      obd (f_X10_pairOf (mI M o8 (((851 : Int32) + v3)).toNatClampNeg) M) fun r13 =>
      if r13 = (((16 : Int32) * v1) + v2) then (
        some v3
        ) else (
        bnd (v3 + (1 : Int32)) fun x16 =>
        f_X10_letterAt_2 M n v0 v1 v2 x16
        )
      )
def f_X10_letterAt (n : Nat) (o : Nat) (a1 : Int32) (a2 : Int32) (M : Mem) : Option Int32 :=
  f_X10_letterAt_2 M n o a1 a2 (0 : Int32)
theorem cd_X10_letterAt : (yX10_letterAt.cls ≠ "java/lang/invoke/MethodHandle" ∧ yX10_letterAt.cls ≠ "java/lang/invoke/VarHandle") ∧ (parseMethodDescriptor yX10_letterAt.desc).map (fun d => d.parameters.length) = some 2 := ⟨⟨by decide +kernel, by decide +kernel⟩, by decide +kernel⟩
section
variable {p : Program} {l : Launch} {e : Env} {R : Room} {s : State} {m : MethodId} {args : Array Value} {below : List Frame} {meth : Method} {c : Code} {G : Gam} {M0 : Mem}
theorem l_X10_letterAt_2 {M : Mem} {rv : Int32} (X : Cx p R s m args c G M0 cX10_letterAt yX10_letterAt.cls 4 1 20) (hr : meth.sig.returnType = (some .int)) (hlk : meth.locks = false) (hnm : meth.name = "letterAt") : ∀ {n : Nat} (v0 : Nat) (v1 : Int32) (v2 : Int32) (v3 : Int32), f_X10_letterAt_2 M n v0 v1 v2 v3 = some rv → Sg p l e R s m args below meth c (Qm below G args s (some (.int rv)) M0 M) G M0 4 2 [(0, .ref (gB G + v0)), (1, .int v1), (2, .int v2), (3, .int v3)] [] M := by
  intro n
  induction n with
  | zero => intro v0 v1 v2 v3 hf; exact (pk_none hf).elim
  | succ n ih =>
    intro v0 v1 v2 v3 hf
    rw [f_X10_letterAt_2] at hf
    refine s_iload_n X 3 dX10_letterAt_2 rfl rfl ?_
    refine s_aload_n X 0 dX10_letterAt_3 rfl rfl ?_
    obtain ⟨h1, hf⟩ := pk_chk hf
    obtain ⟨o2, e3, hf⟩ := pk_bnd hf
    obtain ⟨h4, hf⟩ := pk_chk hf
    refine s_getR X (ci := 10) (k := 0) rfl (Nat.le_of_ble_eq_true rfl) h1 wd1440 (fun _ _ _ => rfl) (e3 ▸ h4) dX10_letterAt_4 (e3 ▸ ?_)
    refine s_sipush X (v := (850 : Int32)) dX10_letterAt_7 rfl ?_
    obtain ⟨h5, hf⟩ := pk_chk hf
    refine s_iald X h4 h5 dX10_letterAt_10 ?_
    have hs6 := pk_ite hf
    clear hf
    refine s_icmp_ge X (tgt := 44) dX10_letterAt_11 rfl (fun c7 => ?_) (fun c7 => ?_)
    · have hf := hs6.1 c7
      refine s_iconst X (v := (-1 : Int32)) dX10_letterAt_44 rfl ?_
      cases hf
      exact s_iret X hr hlk dX10_letterAt_45
    · have hf := hs6.2 c7
      refine s_aload_n X 0 dX10_letterAt_14 rfl rfl ?_
      obtain ⟨o8, e9, hf⟩ := pk_bnd hf
      obtain ⟨h10, hf⟩ := pk_chk hf
      refine s_getR X (ci := 10) (k := 0) rfl (Nat.le_of_ble_eq_true rfl) h1 wd1440 (fun _ _ _ => rfl) (e9 ▸ h10) dX10_letterAt_15 (e9 ▸ ?_)
      refine s_sipush X (v := (851 : Int32)) dX10_letterAt_18 rfl ?_
      refine s_iload_n X 3 dX10_letterAt_21 rfl rfl ?_
      refine s_iadd X dX10_letterAt_22 ?_
      obtain ⟨h11, hf⟩ := pk_chk hf
      refine s_iald X h10 h11 dX10_letterAt_23 ?_
      obtain ⟨r13, hc12, hf⟩ := pk_obd hf
      refine s_callS X (k_X10_pairOf G hc12) wd1704 wd1705 wd1706 wd138 cd_X10_pairOf ⟨Nat.le_of_ble_eq_true rfl, Nat.le_of_ble_eq_true rfl⟩ (Nat.le_of_ble_eq_true rfl) dX10_letterAt_24 ?_
      refine s_bipush X (v := (16 : Int32)) dX10_letterAt_27 rfl ?_
      refine s_iload_n X 1 dX10_letterAt_29 rfl rfl ?_
      refine s_imul X dX10_letterAt_30 ?_
      refine s_iload_n X 2 dX10_letterAt_31 rfl rfl ?_
      refine s_iadd X dX10_letterAt_32 ?_
      have hs14 := pk_ite hf
      clear hf
      refine s_icmp_ne X (tgt := 38) dX10_letterAt_33 rfl (fun c15 => ?_) (fun c15 => ?_)
      · have hf := hs14.2 c15
        obtain ⟨x16, e17, hf⟩ := pk_bnd hf
        refine s_iinc X (vs' := [(0, .ref (gB G + v0)), (1, .int v1), (2, .int v2), (3, .int x16)]) 3 dX10_letterAt_38 rfl (v := x16) e17.symm (Nat.le_of_ble_eq_true rfl) [1, 2, 3, 0] rfl ?_
        refine s_goto X (tgt := 2) dX10_letterAt_41 rfl ?_
        exact ih _ _ _ _ hf
      · have hf := hs14.1 c15
        refine s_iload_n X 3 dX10_letterAt_36 rfl rfl ?_
        cases hf
        exact s_iret X hr hlk dX10_letterAt_37
end
theorem k_X10_letterAt (G : Gam) {n : Nat} {o : Nat} {a1 : Int32} {a2 : Int32} {M : Mem} {rv : Int32} (hf : f_X10_letterAt n o a1 a2 M = some rv) : Kt yX10_letterAt cX10_letterAt 4 (some .int) 1 20 G [.ref (gB G + o), .int a1, .int a2] M M (some (.int rv)) := by
  refine Kt.of (by decide) (Nat.le_of_ble_eq_true rfl) ?_
  intro p l e R s m args below meth c X hr hlk hnm
  refine s_drop [0, 1, 2] (vs' := [(0, .ref (gB G + o)), (1, .int a1), (2, .int a2)]) rfl ?_
  rw [f_X10_letterAt] at hf
  refine s_iconst X (v := (0 : Int32)) dX10_letterAt_0 rfl ?_
  refine s_istore_n X (vs' := [(0, .ref (gB G + o)), (1, .int a1), (2, .int a2), (3, .int (0 : Int32))]) dX10_letterAt_1 rfl (Nat.le_of_ble_eq_true rfl) [1, 2, 3, 0] rfl ?_
  exact l_X10_letterAt_2 X hr hlk hnm _ _ _ _ hf
theorem dX10_takeLetter_0 : decode cX10_takeLetter 0 = .ok (.iload_n 1, 1) := dk_27 (by decide +kernel)
theorem dX10_takeLetter_1 : decode cX10_takeLetter 1 = .ok (.istore_n 2, 1) := dk_61 (by decide +kernel)
theorem dX10_takeLetter_2 : decode cX10_takeLetter 2 = .ok (.iload_n 2, 1) := dk_28 (by decide +kernel)
theorem dX10_takeLetter_3 : decode cX10_takeLetter 3 = .ok (.iconst 1, 1) := dk_4 (by decide +kernel)
theorem dX10_takeLetter_4 : decode cX10_takeLetter 4 = .ok (.iadd, 1) := dk_96 (by decide +kernel)
theorem dX10_takeLetter_5 : decode cX10_takeLetter 5 = .ok (.aload_n 0, 1) := dk_42 (by decide +kernel)
theorem dX10_takeLetter_6 : decode cX10_takeLetter 6 = .ok (.getfield 7, 3) := dk_180 (x := 0) (y := 7) (by decide +kernel) rfl
theorem dX10_takeLetter_9 : decode cX10_takeLetter 9 = .ok (.sipush 850, 3) := dk_17 (x := 3) (y := 82) (by decide +kernel) rfl
theorem dX10_takeLetter_12 : decode cX10_takeLetter 12 = .ok (.iaload, 1) := dk_46 (by decide +kernel)
theorem dX10_takeLetter_13 : decode cX10_takeLetter 13 = .ok (.if_icmp .ge 45, 3) := dk_162 (x := 0) (y := 45) (by decide +kernel) rfl
theorem dX10_takeLetter_16 : decode cX10_takeLetter 16 = .ok (.aload_n 0, 1) := dk_42 (by decide +kernel)
theorem dX10_takeLetter_17 : decode cX10_takeLetter 17 = .ok (.getfield 7, 3) := dk_180 (x := 0) (y := 7) (by decide +kernel) rfl
theorem dX10_takeLetter_20 : decode cX10_takeLetter 20 = .ok (.sipush 851, 3) := dk_17 (x := 3) (y := 83) (by decide +kernel) rfl
theorem dX10_takeLetter_23 : decode cX10_takeLetter 23 = .ok (.iload_n 2, 1) := dk_28 (by decide +kernel)
theorem dX10_takeLetter_24 : decode cX10_takeLetter 24 = .ok (.iadd, 1) := dk_96 (by decide +kernel)
theorem dX10_takeLetter_25 : decode cX10_takeLetter 25 = .ok (.aload_n 0, 1) := dk_42 (by decide +kernel)
theorem dX10_takeLetter_26 : decode cX10_takeLetter 26 = .ok (.getfield 7, 3) := dk_180 (x := 0) (y := 7) (by decide +kernel) rfl
theorem dX10_takeLetter_29 : decode cX10_takeLetter 29 = .ok (.sipush 851, 3) := dk_17 (x := 3) (y := 83) (by decide +kernel) rfl
theorem dX10_takeLetter_32 : decode cX10_takeLetter 32 = .ok (.iload_n 2, 1) := dk_28 (by decide +kernel)
theorem dX10_takeLetter_33 : decode cX10_takeLetter 33 = .ok (.iadd, 1) := dk_96 (by decide +kernel)
theorem dX10_takeLetter_34 : decode cX10_takeLetter 34 = .ok (.iconst 1, 1) := dk_4 (by decide +kernel)
theorem dX10_takeLetter_35 : decode cX10_takeLetter 35 = .ok (.iadd, 1) := dk_96 (by decide +kernel)
theorem dX10_takeLetter_36 : decode cX10_takeLetter 36 = .ok (.iaload, 1) := dk_46 (by decide +kernel)
theorem dX10_takeLetter_37 : decode cX10_takeLetter 37 = .ok (.iastore, 1) := dk_79 (by decide +kernel)
theorem dX10_takeLetter_38 : decode cX10_takeLetter 38 = .ok (.aload_n 0, 1) := dk_42 (by decide +kernel)
theorem dX10_takeLetter_39 : decode cX10_takeLetter 39 = .ok (.getfield 16, 3) := dk_180 (x := 0) (y := 16) (by decide +kernel) rfl
theorem dX10_takeLetter_42 : decode cX10_takeLetter 42 = .ok (.iload_n 2, 1) := dk_28 (by decide +kernel)
theorem dX10_takeLetter_43 : decode cX10_takeLetter 43 = .ok (.aload_n 0, 1) := dk_42 (by decide +kernel)
theorem dX10_takeLetter_44 : decode cX10_takeLetter 44 = .ok (.getfield 16, 3) := dk_180 (x := 0) (y := 16) (by decide +kernel) rfl
theorem dX10_takeLetter_47 : decode cX10_takeLetter 47 = .ok (.iload_n 2, 1) := dk_28 (by decide +kernel)
theorem dX10_takeLetter_48 : decode cX10_takeLetter 48 = .ok (.iconst 1, 1) := dk_4 (by decide +kernel)
theorem dX10_takeLetter_49 : decode cX10_takeLetter 49 = .ok (.iadd, 1) := dk_96 (by decide +kernel)
theorem dX10_takeLetter_50 : decode cX10_takeLetter 50 = .ok (.iaload, 1) := dk_46 (by decide +kernel)
theorem dX10_takeLetter_51 : decode cX10_takeLetter 51 = .ok (.iastore, 1) := dk_79 (by decide +kernel)
theorem dX10_takeLetter_52 : decode cX10_takeLetter 52 = .ok (.iinc 2 1, 3) := dk_132 (x := 2) (y := 1) (by decide +kernel) rfl
theorem dX10_takeLetter_55 : decode cX10_takeLetter 55 = .ok (.goto (-53), 3) := dk_167 (x := 255) (y := 203) (by decide +kernel) rfl
theorem dX10_takeLetter_58 : decode cX10_takeLetter 58 = .ok (.aload_n 0, 1) := dk_42 (by decide +kernel)
theorem dX10_takeLetter_59 : decode cX10_takeLetter 59 = .ok (.getfield 7, 3) := dk_180 (x := 0) (y := 7) (by decide +kernel) rfl
theorem dX10_takeLetter_62 : decode cX10_takeLetter 62 = .ok (.sipush 850, 3) := dk_17 (x := 3) (y := 82) (by decide +kernel) rfl
theorem dX10_takeLetter_65 : decode cX10_takeLetter 65 = .ok (.dup2, 1) := dk_92 (by decide +kernel)
theorem dX10_takeLetter_66 : decode cX10_takeLetter 66 = .ok (.iaload, 1) := dk_46 (by decide +kernel)
theorem dX10_takeLetter_67 : decode cX10_takeLetter 67 = .ok (.iconst 1, 1) := dk_4 (by decide +kernel)
theorem dX10_takeLetter_68 : decode cX10_takeLetter 68 = .ok (.isub, 1) := dk_100 (by decide +kernel)
theorem dX10_takeLetter_69 : decode cX10_takeLetter 69 = .ok (.iastore, 1) := dk_79 (by decide +kernel)
theorem dX10_takeLetter_70 : decode cX10_takeLetter 70 = .ok (.aload_n 0, 1) := dk_42 (by decide +kernel)
theorem dX10_takeLetter_71 : decode cX10_takeLetter 71 = .ok (.getfield 7, 3) := dk_180 (x := 0) (y := 7) (by decide +kernel) rfl
theorem dX10_takeLetter_74 : decode cX10_takeLetter 74 = .ok (.sipush 851, 3) := dk_17 (x := 3) (y := 83) (by decide +kernel) rfl
theorem dX10_takeLetter_77 : decode cX10_takeLetter 77 = .ok (.aload_n 0, 1) := dk_42 (by decide +kernel)
theorem dX10_takeLetter_78 : decode cX10_takeLetter 78 = .ok (.getfield 7, 3) := dk_180 (x := 0) (y := 7) (by decide +kernel) rfl
theorem dX10_takeLetter_81 : decode cX10_takeLetter 81 = .ok (.sipush 850, 3) := dk_17 (x := 3) (y := 82) (by decide +kernel) rfl
theorem dX10_takeLetter_84 : decode cX10_takeLetter 84 = .ok (.iaload, 1) := dk_46 (by decide +kernel)
theorem dX10_takeLetter_85 : decode cX10_takeLetter 85 = .ok (.iadd, 1) := dk_96 (by decide +kernel)
theorem dX10_takeLetter_86 : decode cX10_takeLetter 86 = .ok (.iconst 0, 1) := dk_3 (by decide +kernel)
theorem dX10_takeLetter_87 : decode cX10_takeLetter 87 = .ok (.iastore, 1) := dk_79 (by decide +kernel)
theorem dX10_takeLetter_88 : decode cX10_takeLetter 88 = .ok (.return_, 1) := dk_177 (by decide +kernel)
def f_X10_takeLetter_2 : Nat → Nat → Int32 → Mem → Option Mem
  | 0, _, _, _ => none
  | n + 1, v0, v2, M =>
    chk (isO M 10 v0) <|
    bnd (mR M v0 0) fun o2 =>
    chk (isO M 100 o2) <|
    chk (inB (850 : Int32) (mLn M o2)) <|
    if (mI M o2 ((850 : Int32)).toNatClampNeg) ≤ (v2 + (1 : Int32)) then (
      bnd (mR M v0 0) fun o8 =>
      chk (isO M 100 o8) <|
      chk (inB (850 : Int32) (mLn M o8)) <|
      chk (inB (850 : Int32) (mLn M o8)) <|
      bnd (sI M o8 ((850 : Int32)).toNatClampNeg ((mI M o8 ((850 : Int32)).toNatClampNeg) - (1 : Int32))) fun M13 =>
      bnd (mR M13 v0 0) fun o18 =>
      chk (isO M13 100 o18) <|
      bnd (mR M13 v0 0) fun o21 =>
      chk (isO M13 100 o21) <|
      chk (inB (850 : Int32) (mLn M13 o21)) <|
      chk (inB ((851 : Int32) + (mI M13 o21 ((850 : Int32)).toNatClampNeg)) (mLn M13 o18)) <|
      bnd (sI M13 o18 (((851 : Int32) + (mI M13 o21 ((850 : Int32)).toNatClampNeg))).toNatClampNeg (0 : Int32)) fun M26 =>
      some M26
      ) else (
      bnd (mR M v0 0) fun o33 =>
      chk (isO M 100 o33) <|
      bnd (mR M v0 0) fun o36 =>
      chk (isO M 100 o36) <|
      chk (inB (((851 : Int32) + v2) + (1 : Int32)) (mLn M o36)) <|
      chk (inB ((851 : Int32) + v2) (mLn M o33)) <|
      bnd (sI M o33 (((851 : Int32) + v2)).toNatClampNeg (mI M o36 ((((851 : Int32) + v2) + (1 : Int32))).toNatClampNeg)) fun M41 =>
      bnd (mR M41 v0 2) fun o47 =>
      chk (isO M41 100 o47) <|
      bnd (mR M41 v0 2) fun o50 =>
      chk (isO M41 100 o50) <|
      chk (inB (v2 + (1 : Int32)) (mLn M41 o50)) <|
      chk (inB v2 (mLn M41 o47)) <|
      bnd (sI M41 o47 (v2).toNatClampNeg (mI M41 o50 ((v2 + (1 : Int32))).toNatClampNeg)) fun M55 =>
      bnd (v2 + (1 : Int32)) fun x63 =>
      f_X10_takeLetter_2 n v0 x63 M55
      )
def f_X10_takeLetter (n : Nat) (o : Nat) (a1 : Int32) (M : Mem) : Option Mem :=
  f_X10_takeLetter_2 n o a1 M
theorem cd_X10_takeLetter : (yX10_takeLetter.cls ≠ "java/lang/invoke/MethodHandle" ∧ yX10_takeLetter.cls ≠ "java/lang/invoke/VarHandle") ∧ (parseMethodDescriptor yX10_takeLetter.desc).map (fun d => d.parameters.length) = some 1 := ⟨⟨by decide +kernel, by decide +kernel⟩, by decide +kernel⟩
section
variable {p : Program} {l : Launch} {e : Env} {R : Room} {s : State} {m : MethodId} {args : Array Value} {below : List Frame} {meth : Method} {c : Code} {G : Gam} {M0 : Mem}
theorem l_X10_takeLetter_2 {rv : Mem} (X : Cx p R s m args c G M0 cX10_takeLetter yX10_takeLetter.cls 3 0 0) (hr : meth.sig.returnType = none) (hlk : meth.locks = false) (hnm : meth.name = "takeLetter") : ∀ {n : Nat} (v0 : Nat) (v2 : Int32) (M : Mem), f_X10_takeLetter_2 n v0 v2 M = some rv → Sg p l e R s m args below meth c (Qm below G args s none M0 rv) G M0 3 2 [(0, .ref (gB G + v0)), (2, .int v2)] [] M := by
  intro n
  induction n with
  | zero => intro v0 v2 M hf; exact (pk_none hf).elim
  | succ n ih =>
    intro v0 v2 M hf
    rw [f_X10_takeLetter_2] at hf
    refine s_iload_n X 1 dX10_takeLetter_2 rfl rfl ?_
    refine s_iconst X (v := (1 : Int32)) dX10_takeLetter_3 rfl ?_
    refine s_iadd X dX10_takeLetter_4 ?_
    refine s_aload_n X 0 dX10_takeLetter_5 rfl rfl ?_
    obtain ⟨h1, hf⟩ := pk_chk hf
    obtain ⟨o2, e3, hf⟩ := pk_bnd hf
    obtain ⟨h4, hf⟩ := pk_chk hf
    refine s_getR X (ci := 10) (k := 0) rfl (Nat.le_of_ble_eq_true rfl) h1 wd1440 (fun _ _ _ => rfl) (e3 ▸ h4) dX10_takeLetter_6 (e3 ▸ ?_)
    refine s_sipush X (v := (850 : Int32)) dX10_takeLetter_9 rfl ?_
    obtain ⟨h5, hf⟩ := pk_chk hf
    refine s_iald X h4 h5 dX10_takeLetter_12 ?_
    have hs6 := pk_ite hf
    clear hf
    refine s_icmp_ge X (tgt := 58) dX10_takeLetter_13 rfl (fun c7 => ?_) (fun c7 => ?_)
    · have hf := hs6.1 c7
      refine s_aload_n X 0 dX10_takeLetter_58 rfl rfl ?_
      obtain ⟨o8, e9, hf⟩ := pk_bnd hf
      obtain ⟨h10, hf⟩ := pk_chk hf
      refine s_getR X (ci := 10) (k := 0) rfl (Nat.le_of_ble_eq_true rfl) h1 wd1440 (fun _ _ _ => rfl) (e9 ▸ h10) dX10_takeLetter_59 (e9 ▸ ?_)
      refine s_sipush X (v := (850 : Int32)) dX10_takeLetter_62 rfl ?_
      refine s_dup2 X dX10_takeLetter_65 rfl rfl ?_
      obtain ⟨h11, hf⟩ := pk_chk hf
      refine s_iald X h10 h11 dX10_takeLetter_66 ?_
      refine s_iconst X (v := (1 : Int32)) dX10_takeLetter_67 rfl ?_
      refine s_isub X dX10_takeLetter_68 ?_
      obtain ⟨h12, hf⟩ := pk_chk hf
      obtain ⟨M13, e14, hf⟩ := pk_bnd hf
      refine s_iast X h10 h12 e14 dX10_takeLetter_69 ?_
      have h15 := io_sI e14 h1
      have h16 := io_sI e14 h4
      have h17 := io_sI e14 h10
      refine s_aload_n X 0 dX10_takeLetter_70 rfl rfl ?_
      obtain ⟨o18, e19, hf⟩ := pk_bnd hf
      obtain ⟨h20, hf⟩ := pk_chk hf
      refine s_getR X (ci := 10) (k := 0) rfl (Nat.le_of_ble_eq_true rfl) h15 wd1440 (fun _ _ _ => rfl) (e19 ▸ h20) dX10_takeLetter_71 (e19 ▸ ?_)
      refine s_sipush X (v := (851 : Int32)) dX10_takeLetter_74 rfl ?_
      refine s_aload_n X 0 dX10_takeLetter_77 rfl rfl ?_
      obtain ⟨o21, e22, hf⟩ := pk_bnd hf
      obtain ⟨h23, hf⟩ := pk_chk hf
      refine s_getR X (ci := 10) (k := 0) rfl (Nat.le_of_ble_eq_true rfl) h15 wd1440 (fun _ _ _ => rfl) (e22 ▸ h23) dX10_takeLetter_78 (e22 ▸ ?_)
      refine s_sipush X (v := (850 : Int32)) dX10_takeLetter_81 rfl ?_
      obtain ⟨h24, hf⟩ := pk_chk hf
      refine s_iald X h23 h24 dX10_takeLetter_84 ?_
      refine s_iadd X dX10_takeLetter_85 ?_
      refine s_iconst X (v := (0 : Int32)) dX10_takeLetter_86 rfl ?_
      obtain ⟨h25, hf⟩ := pk_chk hf
      obtain ⟨M26, e27, hf⟩ := pk_bnd hf
      refine s_iast X h20 h25 e27 dX10_takeLetter_87 ?_
      have h28 := io_sI e27 h15
      have h29 := io_sI e27 h16
      have h30 := io_sI e27 h17
      have h31 := io_sI e27 h20
      have h32 := io_sI e27 h23
      cases hf
      exact s_vret X hr hlk dX10_takeLetter_88
    · have hf := hs6.2 c7
      refine s_aload_n X 0 dX10_takeLetter_16 rfl rfl ?_
      obtain ⟨o33, e34, hf⟩ := pk_bnd hf
      obtain ⟨h35, hf⟩ := pk_chk hf
      refine s_getR X (ci := 10) (k := 0) rfl (Nat.le_of_ble_eq_true rfl) h1 wd1440 (fun _ _ _ => rfl) (e34 ▸ h35) dX10_takeLetter_17 (e34 ▸ ?_)
      refine s_sipush X (v := (851 : Int32)) dX10_takeLetter_20 rfl ?_
      refine s_iload_n X 1 dX10_takeLetter_23 rfl rfl ?_
      refine s_iadd X dX10_takeLetter_24 ?_
      refine s_aload_n X 0 dX10_takeLetter_25 rfl rfl ?_
      obtain ⟨o36, e37, hf⟩ := pk_bnd hf
      obtain ⟨h38, hf⟩ := pk_chk hf
      refine s_getR X (ci := 10) (k := 0) rfl (Nat.le_of_ble_eq_true rfl) h1 wd1440 (fun _ _ _ => rfl) (e37 ▸ h38) dX10_takeLetter_26 (e37 ▸ ?_)
      refine s_sipush X (v := (851 : Int32)) dX10_takeLetter_29 rfl ?_
      refine s_iload_n X 1 dX10_takeLetter_32 rfl rfl ?_
      refine s_iadd X dX10_takeLetter_33 ?_
      refine s_iconst X (v := (1 : Int32)) dX10_takeLetter_34 rfl ?_
      refine s_iadd X dX10_takeLetter_35 ?_
      obtain ⟨h39, hf⟩ := pk_chk hf
      refine s_iald X h38 h39 dX10_takeLetter_36 ?_
      obtain ⟨h40, hf⟩ := pk_chk hf
      obtain ⟨M41, e42, hf⟩ := pk_bnd hf
      refine s_iast X h35 h40 e42 dX10_takeLetter_37 ?_
      have h43 := io_sI e42 h1
      have h44 := io_sI e42 h4
      have h45 := io_sI e42 h35
      have h46 := io_sI e42 h38
      refine s_aload_n X 0 dX10_takeLetter_38 rfl rfl ?_
      obtain ⟨o47, e48, hf⟩ := pk_bnd hf
      obtain ⟨h49, hf⟩ := pk_chk hf
      refine s_getR X (ci := 10) (k := 2) rfl (Nat.le_of_ble_eq_true rfl) h43 wd1442 (fun _ _ _ => rfl) (e48 ▸ h49) dX10_takeLetter_39 (e48 ▸ ?_)
      refine s_iload_n X 1 dX10_takeLetter_42 rfl rfl ?_
      refine s_aload_n X 0 dX10_takeLetter_43 rfl rfl ?_
      obtain ⟨o50, e51, hf⟩ := pk_bnd hf
      obtain ⟨h52, hf⟩ := pk_chk hf
      refine s_getR X (ci := 10) (k := 2) rfl (Nat.le_of_ble_eq_true rfl) h43 wd1442 (fun _ _ _ => rfl) (e51 ▸ h52) dX10_takeLetter_44 (e51 ▸ ?_)
      refine s_iload_n X 1 dX10_takeLetter_47 rfl rfl ?_
      refine s_iconst X (v := (1 : Int32)) dX10_takeLetter_48 rfl ?_
      refine s_iadd X dX10_takeLetter_49 ?_
      obtain ⟨h53, hf⟩ := pk_chk hf
      refine s_iald X h52 h53 dX10_takeLetter_50 ?_
      obtain ⟨h54, hf⟩ := pk_chk hf
      obtain ⟨M55, e56, hf⟩ := pk_bnd hf
      refine s_iast X h49 h54 e56 dX10_takeLetter_51 ?_
      have h57 := io_sI e56 h43
      have h58 := io_sI e56 h44
      have h59 := io_sI e56 h45
      have h60 := io_sI e56 h46
      have h61 := io_sI e56 h49
      have h62 := io_sI e56 h52
      obtain ⟨x63, e64, hf⟩ := pk_bnd hf
      refine s_iinc X (vs' := [(0, .ref (gB G + v0)), (2, .int x63)]) 1 dX10_takeLetter_52 rfl (v := x63) e64.symm (Nat.le_of_ble_eq_true rfl) [1, 0] rfl ?_
      refine s_goto X (tgt := 2) dX10_takeLetter_55 rfl ?_
      exact ih _ _ _ hf
end
theorem k_X10_takeLetter (G : Gam) {n : Nat} {o : Nat} {a1 : Int32} {M : Mem} {rv : Mem} (hf : f_X10_takeLetter n o a1 M = some rv) : Kt yX10_takeLetter cX10_takeLetter 3 none 0 0 G [.ref (gB G + o), .int a1] M rv none := by
  refine Kt.of (by decide) (Nat.le_of_ble_eq_true rfl) ?_
  intro p l e R s m args below meth c X hr hlk hnm
  refine s_drop [0, 1] (vs' := [(0, .ref (gB G + o)), (1, .int a1)]) rfl ?_
  rw [f_X10_takeLetter] at hf
  refine s_iload_n X 1 dX10_takeLetter_0 rfl rfl ?_
  refine s_istore_n X (vs' := [(0, .ref (gB G + o)), (1, .int a1), (2, .int a1)]) dX10_takeLetter_1 rfl (Nat.le_of_ble_eq_true rfl) [1, 2, 0] rfl ?_
  refine s_drop [0, 2] (vs' := [(0, .ref (gB G + o)), (2, .int a1)]) rfl ?_
  exact l_X10_takeLetter_2 X hr hlk hnm _ _ _ hf
theorem dX10_kindOf_0 : decode cX10_kindOf 0 = .ok (.iload_n 0, 1) := dk_26 (by decide +kernel)
theorem dX10_kindOf_1 : decode cX10_kindOf 1 = .ok (.bipush 8, 2) := dk_16 (x := 8) (by decide +kernel) rfl
theorem dX10_kindOf_3 : decode cX10_kindOf 3 = .ok (.ishr, 1) := dk_122 (by decide +kernel)
theorem dX10_kindOf_4 : decode cX10_kindOf 4 = .ok (.bipush 7, 2) := dk_16 (x := 7) (by decide +kernel) rfl
theorem dX10_kindOf_6 : decode cX10_kindOf 6 = .ok (.iand, 1) := dk_126 (by decide +kernel)
theorem dX10_kindOf_7 : decode cX10_kindOf 7 = .ok (.ireturn, 1) := dk_172 (by decide +kernel)
def f_X10_kindOf (a1 : Int32) (M : Mem) : Option Int32 :=
  some ((a1 >>> ((8 : Int32) &&& 31)) &&& (7 : Int32))
theorem cd_X10_kindOf : (yX10_kindOf.cls ≠ "java/lang/invoke/MethodHandle" ∧ yX10_kindOf.cls ≠ "java/lang/invoke/VarHandle") ∧ (parseMethodDescriptor yX10_kindOf.desc).map (fun d => d.parameters.length) = some 1 := ⟨⟨by decide +kernel, by decide +kernel⟩, by decide +kernel⟩
theorem k_X10_kindOf (G : Gam) {a1 : Int32} {M : Mem} {rv : Int32} (hf : f_X10_kindOf a1 M = some rv) : Kt yX10_kindOf cX10_kindOf 1 (some .int) 0 0 G [.int a1] M M (some (.int rv)) := by
  refine Kt.of (by decide) (Nat.le_of_ble_eq_true rfl) ?_
  intro p l e R s m args below meth c X hr hlk hnm
  refine s_drop [0] (vs' := [(0, .int a1)]) rfl ?_
  rw [f_X10_kindOf] at hf
  refine s_iload_n X 0 dX10_kindOf_0 rfl rfl ?_
  refine s_bipush X (v := (8 : Int32)) dX10_kindOf_1 rfl ?_
  refine s_ishr X dX10_kindOf_3 ?_
  refine s_bipush X (v := (7 : Int32)) dX10_kindOf_4 rfl ?_
  refine s_iand X dX10_kindOf_6 ?_
  cases hf
  exact s_iret X hr hlk dX10_kindOf_7
theorem dX10_stampOf_0 : decode cX10_stampOf 0 = .ok (.iload_n 0, 1) := dk_26 (by decide +kernel)
theorem dX10_stampOf_1 : decode cX10_stampOf 1 = .ok (.bipush 11, 2) := dk_16 (x := 11) (by decide +kernel) rfl
theorem dX10_stampOf_3 : decode cX10_stampOf 3 = .ok (.ishr, 1) := dk_122 (by decide +kernel)
theorem dX10_stampOf_4 : decode cX10_stampOf 4 = .ok (.ireturn, 1) := dk_172 (by decide +kernel)
def f_X10_stampOf (a1 : Int32) (M : Mem) : Option Int32 :=
  some (a1 >>> ((11 : Int32) &&& 31))
theorem cd_X10_stampOf : (yX10_stampOf.cls ≠ "java/lang/invoke/MethodHandle" ∧ yX10_stampOf.cls ≠ "java/lang/invoke/VarHandle") ∧ (parseMethodDescriptor yX10_stampOf.desc).map (fun d => d.parameters.length) = some 1 := ⟨⟨by decide +kernel, by decide +kernel⟩, by decide +kernel⟩
theorem k_X10_stampOf (G : Gam) {a1 : Int32} {M : Mem} {rv : Int32} (hf : f_X10_stampOf a1 M = some rv) : Kt yX10_stampOf cX10_stampOf 1 (some .int) 0 0 G [.int a1] M M (some (.int rv)) := by
  refine Kt.of (by decide) (Nat.le_of_ble_eq_true rfl) ?_
  intro p l e R s m args below meth c X hr hlk hnm
  refine s_drop [0] (vs' := [(0, .int a1)]) rfl ?_
  rw [f_X10_stampOf] at hf
  refine s_iload_n X 0 dX10_stampOf_0 rfl rfl ?_
  refine s_bipush X (v := (11 : Int32)) dX10_stampOf_1 rfl ?_
  refine s_ishr X dX10_stampOf_3 ?_
  cases hf
  exact s_iret X hr hlk dX10_stampOf_4
theorem dX10_writeTrace_0 : decode cX10_writeTrace 0 = .ok (.aload_n 0, 1) := dk_42 (by decide +kernel)
theorem dX10_writeTrace_1 : decode cX10_writeTrace 1 = .ok (.getfield 7, 3) := dk_180 (x := 0) (y := 7) (by decide +kernel) rfl
theorem dX10_writeTrace_4 : decode cX10_writeTrace 4 = .ok (.sipush 9858, 3) := dk_17 (x := 38) (y := 130) (by decide +kernel) rfl
theorem dX10_writeTrace_7 : decode cX10_writeTrace 7 = .ok (.iaload, 1) := dk_46 (by decide +kernel)
theorem dX10_writeTrace_8 : decode cX10_writeTrace 8 = .ok (.bipush 40, 2) := dk_16 (x := 40) (by decide +kernel) rfl
theorem dX10_writeTrace_10 : decode cX10_writeTrace 10 = .ok (.if_icmp .ne 50, 3) := dk_160 (x := 0) (y := 50) (by decide +kernel) rfl
theorem dX10_writeTrace_13 : decode cX10_writeTrace 13 = .ok (.sipush 10033, 3) := dk_17 (x := 39) (y := 49) (by decide +kernel) rfl
theorem dX10_writeTrace_16 : decode cX10_writeTrace 16 = .ok (.istore 5, 2) := dk_54 (x := 5) (by decide +kernel)
theorem dX10_writeTrace_18 : decode cX10_writeTrace 18 = .ok (.iload 5, 2) := dk_21 (x := 5) (by decide +kernel)
theorem dX10_writeTrace_20 : decode cX10_writeTrace 20 = .ok (.sipush 10189, 3) := dk_17 (x := 39) (y := 205) (by decide +kernel) rfl
theorem dX10_writeTrace_23 : decode cX10_writeTrace 23 = .ok (.if_icmp .ge 25, 3) := dk_162 (x := 0) (y := 25) (by decide +kernel) rfl
theorem dX10_writeTrace_26 : decode cX10_writeTrace 26 = .ok (.aload_n 0, 1) := dk_42 (by decide +kernel)
theorem dX10_writeTrace_27 : decode cX10_writeTrace 27 = .ok (.getfield 7, 3) := dk_180 (x := 0) (y := 7) (by decide +kernel) rfl
theorem dX10_writeTrace_30 : decode cX10_writeTrace 30 = .ok (.iload 5, 2) := dk_21 (x := 5) (by decide +kernel)
theorem dX10_writeTrace_32 : decode cX10_writeTrace 32 = .ok (.aload_n 0, 1) := dk_42 (by decide +kernel)
theorem dX10_writeTrace_33 : decode cX10_writeTrace 33 = .ok (.getfield 7, 3) := dk_180 (x := 0) (y := 7) (by decide +kernel) rfl
theorem dX10_writeTrace_36 : decode cX10_writeTrace 36 = .ok (.iload 5, 2) := dk_21 (x := 5) (by decide +kernel)
theorem dX10_writeTrace_38 : decode cX10_writeTrace 38 = .ok (.iconst 4, 1) := dk_7 (by decide +kernel)
theorem dX10_writeTrace_39 : decode cX10_writeTrace 39 = .ok (.iadd, 1) := dk_96 (by decide +kernel)
theorem dX10_writeTrace_40 : decode cX10_writeTrace 40 = .ok (.iaload, 1) := dk_46 (by decide +kernel)
theorem dX10_writeTrace_41 : decode cX10_writeTrace 41 = .ok (.iastore, 1) := dk_79 (by decide +kernel)
theorem dX10_writeTrace_42 : decode cX10_writeTrace 42 = .ok (.iinc 5 1, 3) := dk_132 (x := 5) (y := 1) (by decide +kernel) rfl
theorem dX10_writeTrace_45 : decode cX10_writeTrace 45 = .ok (.goto (-27), 3) := dk_167 (x := 255) (y := 229) (by decide +kernel) rfl
theorem dX10_writeTrace_48 : decode cX10_writeTrace 48 = .ok (.aload_n 0, 1) := dk_42 (by decide +kernel)
theorem dX10_writeTrace_49 : decode cX10_writeTrace 49 = .ok (.getfield 7, 3) := dk_180 (x := 0) (y := 7) (by decide +kernel) rfl
theorem dX10_writeTrace_52 : decode cX10_writeTrace 52 = .ok (.sipush 9858, 3) := dk_17 (x := 38) (y := 130) (by decide +kernel) rfl
theorem dX10_writeTrace_55 : decode cX10_writeTrace 55 = .ok (.dup2, 1) := dk_92 (by decide +kernel)
theorem dX10_writeTrace_56 : decode cX10_writeTrace 56 = .ok (.iaload, 1) := dk_46 (by decide +kernel)
theorem dX10_writeTrace_57 : decode cX10_writeTrace 57 = .ok (.iconst 1, 1) := dk_4 (by decide +kernel)
theorem dX10_writeTrace_58 : decode cX10_writeTrace 58 = .ok (.isub, 1) := dk_100 (by decide +kernel)
theorem dX10_writeTrace_59 : decode cX10_writeTrace 59 = .ok (.iastore, 1) := dk_79 (by decide +kernel)
theorem dX10_writeTrace_60 : decode cX10_writeTrace 60 = .ok (.sipush 10033, 3) := dk_17 (x := 39) (y := 49) (by decide +kernel) rfl
theorem dX10_writeTrace_63 : decode cX10_writeTrace 63 = .ok (.iconst 4, 1) := dk_7 (by decide +kernel)
theorem dX10_writeTrace_64 : decode cX10_writeTrace 64 = .ok (.aload_n 0, 1) := dk_42 (by decide +kernel)
theorem dX10_writeTrace_65 : decode cX10_writeTrace 65 = .ok (.getfield 7, 3) := dk_180 (x := 0) (y := 7) (by decide +kernel) rfl
theorem dX10_writeTrace_68 : decode cX10_writeTrace 68 = .ok (.sipush 9858, 3) := dk_17 (x := 38) (y := 130) (by decide +kernel) rfl
theorem dX10_writeTrace_71 : decode cX10_writeTrace 71 = .ok (.iaload, 1) := dk_46 (by decide +kernel)
theorem dX10_writeTrace_72 : decode cX10_writeTrace 72 = .ok (.imul, 1) := dk_104 (by decide +kernel)
theorem dX10_writeTrace_73 : decode cX10_writeTrace 73 = .ok (.iadd, 1) := dk_96 (by decide +kernel)
theorem dX10_writeTrace_74 : decode cX10_writeTrace 74 = .ok (.istore 5, 2) := dk_54 (x := 5) (by decide +kernel)
theorem dX10_writeTrace_76 : decode cX10_writeTrace 76 = .ok (.aload_n 0, 1) := dk_42 (by decide +kernel)
theorem dX10_writeTrace_77 : decode cX10_writeTrace 77 = .ok (.getfield 7, 3) := dk_180 (x := 0) (y := 7) (by decide +kernel) rfl
theorem dX10_writeTrace_80 : decode cX10_writeTrace 80 = .ok (.iload 5, 2) := dk_21 (x := 5) (by decide +kernel)
theorem dX10_writeTrace_82 : decode cX10_writeTrace 82 = .ok (.iload_n 1, 1) := dk_27 (by decide +kernel)
theorem dX10_writeTrace_83 : decode cX10_writeTrace 83 = .ok (.iastore, 1) := dk_79 (by decide +kernel)
theorem dX10_writeTrace_84 : decode cX10_writeTrace 84 = .ok (.aload_n 0, 1) := dk_42 (by decide +kernel)
theorem dX10_writeTrace_85 : decode cX10_writeTrace 85 = .ok (.getfield 7, 3) := dk_180 (x := 0) (y := 7) (by decide +kernel) rfl
theorem dX10_writeTrace_88 : decode cX10_writeTrace 88 = .ok (.iload 5, 2) := dk_21 (x := 5) (by decide +kernel)
theorem dX10_writeTrace_90 : decode cX10_writeTrace 90 = .ok (.iconst 1, 1) := dk_4 (by decide +kernel)
theorem dX10_writeTrace_91 : decode cX10_writeTrace 91 = .ok (.iadd, 1) := dk_96 (by decide +kernel)
theorem dX10_writeTrace_92 : decode cX10_writeTrace 92 = .ok (.iload_n 2, 1) := dk_28 (by decide +kernel)
theorem dX10_writeTrace_93 : decode cX10_writeTrace 93 = .ok (.iastore, 1) := dk_79 (by decide +kernel)
theorem dX10_writeTrace_94 : decode cX10_writeTrace 94 = .ok (.aload_n 0, 1) := dk_42 (by decide +kernel)
theorem dX10_writeTrace_95 : decode cX10_writeTrace 95 = .ok (.getfield 7, 3) := dk_180 (x := 0) (y := 7) (by decide +kernel) rfl
theorem dX10_writeTrace_98 : decode cX10_writeTrace 98 = .ok (.iload 5, 2) := dk_21 (x := 5) (by decide +kernel)
theorem dX10_writeTrace_100 : decode cX10_writeTrace 100 = .ok (.iconst 2, 1) := dk_5 (by decide +kernel)
theorem dX10_writeTrace_101 : decode cX10_writeTrace 101 = .ok (.iadd, 1) := dk_96 (by decide +kernel)
theorem dX10_writeTrace_102 : decode cX10_writeTrace 102 = .ok (.iload_n 3, 1) := dk_29 (by decide +kernel)
theorem dX10_writeTrace_103 : decode cX10_writeTrace 103 = .ok (.iastore, 1) := dk_79 (by decide +kernel)
theorem dX10_writeTrace_104 : decode cX10_writeTrace 104 = .ok (.aload_n 0, 1) := dk_42 (by decide +kernel)
theorem dX10_writeTrace_105 : decode cX10_writeTrace 105 = .ok (.getfield 7, 3) := dk_180 (x := 0) (y := 7) (by decide +kernel) rfl
theorem dX10_writeTrace_108 : decode cX10_writeTrace 108 = .ok (.iload 5, 2) := dk_21 (x := 5) (by decide +kernel)
theorem dX10_writeTrace_110 : decode cX10_writeTrace 110 = .ok (.iconst 3, 1) := dk_6 (by decide +kernel)
theorem dX10_writeTrace_111 : decode cX10_writeTrace 111 = .ok (.iadd, 1) := dk_96 (by decide +kernel)
theorem dX10_writeTrace_112 : decode cX10_writeTrace 112 = .ok (.iload 4, 2) := dk_21 (x := 4) (by decide +kernel)
theorem dX10_writeTrace_114 : decode cX10_writeTrace 114 = .ok (.iastore, 1) := dk_79 (by decide +kernel)
theorem dX10_writeTrace_115 : decode cX10_writeTrace 115 = .ok (.aload_n 0, 1) := dk_42 (by decide +kernel)
theorem dX10_writeTrace_116 : decode cX10_writeTrace 116 = .ok (.getfield 7, 3) := dk_180 (x := 0) (y := 7) (by decide +kernel) rfl
theorem dX10_writeTrace_119 : decode cX10_writeTrace 119 = .ok (.sipush 9858, 3) := dk_17 (x := 38) (y := 130) (by decide +kernel) rfl
theorem dX10_writeTrace_122 : decode cX10_writeTrace 122 = .ok (.dup2, 1) := dk_92 (by decide +kernel)
theorem dX10_writeTrace_123 : decode cX10_writeTrace 123 = .ok (.iaload, 1) := dk_46 (by decide +kernel)
theorem dX10_writeTrace_124 : decode cX10_writeTrace 124 = .ok (.iconst 1, 1) := dk_4 (by decide +kernel)
theorem dX10_writeTrace_125 : decode cX10_writeTrace 125 = .ok (.iadd, 1) := dk_96 (by decide +kernel)
theorem dX10_writeTrace_126 : decode cX10_writeTrace 126 = .ok (.iastore, 1) := dk_79 (by decide +kernel)
theorem dX10_writeTrace_127 : decode cX10_writeTrace 127 = .ok (.aload_n 0, 1) := dk_42 (by decide +kernel)
theorem dX10_writeTrace_128 : decode cX10_writeTrace 128 = .ok (.getfield 7, 3) := dk_180 (x := 0) (y := 7) (by decide +kernel) rfl
theorem dX10_writeTrace_131 : decode cX10_writeTrace 131 = .ok (.sipush 9852, 3) := dk_17 (x := 38) (y := 124) (by decide +kernel) rfl
theorem dX10_writeTrace_134 : decode cX10_writeTrace 134 = .ok (.dup2, 1) := dk_92 (by decide +kernel)
theorem dX10_writeTrace_135 : decode cX10_writeTrace 135 = .ok (.iaload, 1) := dk_46 (by decide +kernel)
theorem dX10_writeTrace_136 : decode cX10_writeTrace 136 = .ok (.iconst 1, 1) := dk_4 (by decide +kernel)
theorem dX10_writeTrace_137 : decode cX10_writeTrace 137 = .ok (.iadd, 1) := dk_96 (by decide +kernel)
theorem dX10_writeTrace_138 : decode cX10_writeTrace 138 = .ok (.iastore, 1) := dk_79 (by decide +kernel)
theorem dX10_writeTrace_139 : decode cX10_writeTrace 139 = .ok (.aload_n 0, 1) := dk_42 (by decide +kernel)
theorem dX10_writeTrace_140 : decode cX10_writeTrace 140 = .ok (.getfield 7, 3) := dk_180 (x := 0) (y := 7) (by decide +kernel) rfl
theorem dX10_writeTrace_143 : decode cX10_writeTrace 143 = .ok (.sipush 10193, 3) := dk_17 (x := 39) (y := 209) (by decide +kernel) rfl
theorem dX10_writeTrace_146 : decode cX10_writeTrace 146 = .ok (.iload_n 3, 1) := dk_29 (by decide +kernel)
theorem dX10_writeTrace_147 : decode cX10_writeTrace 147 = .ok (.iadd, 1) := dk_96 (by decide +kernel)
theorem dX10_writeTrace_148 : decode cX10_writeTrace 148 = .ok (.dup2, 1) := dk_92 (by decide +kernel)
theorem dX10_writeTrace_149 : decode cX10_writeTrace 149 = .ok (.iaload, 1) := dk_46 (by decide +kernel)
theorem dX10_writeTrace_150 : decode cX10_writeTrace 150 = .ok (.iconst 1, 1) := dk_4 (by decide +kernel)
theorem dX10_writeTrace_151 : decode cX10_writeTrace 151 = .ok (.iadd, 1) := dk_96 (by decide +kernel)
theorem dX10_writeTrace_152 : decode cX10_writeTrace 152 = .ok (.iastore, 1) := dk_79 (by decide +kernel)
theorem dX10_writeTrace_153 : decode cX10_writeTrace 153 = .ok (.iconst 0, 1) := dk_3 (by decide +kernel)
theorem dX10_writeTrace_154 : decode cX10_writeTrace 154 = .ok (.istore 6, 2) := dk_54 (x := 6) (by decide +kernel)
theorem dX10_writeTrace_156 : decode cX10_writeTrace 156 = .ok (.iload 6, 2) := dk_21 (x := 6) (by decide +kernel)
theorem dX10_writeTrace_158 : decode cX10_writeTrace 158 = .ok (.aload_n 0, 1) := dk_42 (by decide +kernel)
theorem dX10_writeTrace_159 : decode cX10_writeTrace 159 = .ok (.getfield 7, 3) := dk_180 (x := 0) (y := 7) (by decide +kernel) rfl
theorem dX10_writeTrace_162 : decode cX10_writeTrace 162 = .ok (.iconst 0, 1) := dk_3 (by decide +kernel)
theorem dX10_writeTrace_163 : decode cX10_writeTrace 163 = .ok (.iaload, 1) := dk_46 (by decide +kernel)
theorem dX10_writeTrace_164 : decode cX10_writeTrace 164 = .ok (.if_icmp .ge 51, 3) := dk_162 (x := 0) (y := 51) (by decide +kernel) rfl
theorem dX10_writeTrace_167 : decode cX10_writeTrace 167 = .ok (.aload_n 0, 1) := dk_42 (by decide +kernel)
theorem dX10_writeTrace_168 : decode cX10_writeTrace 168 = .ok (.iload 6, 2) := dk_21 (x := 6) (by decide +kernel)
theorem dX10_writeTrace_170 : decode cX10_writeTrace 170 = .ok (.iconst 0, 1) := dk_3 (by decide +kernel)
theorem dX10_writeTrace_171 : decode cX10_writeTrace 171 = .ok (.invokevirtual 93, 3) := dk_182 (x := 0) (y := 93) (by decide +kernel) rfl
theorem dX10_writeTrace_174 : decode cX10_writeTrace 174 = .ok (.iconst 1, 1) := dk_4 (by decide +kernel)
theorem dX10_writeTrace_175 : decode cX10_writeTrace 175 = .ok (.if_icmp .ne 34, 3) := dk_160 (x := 0) (y := 34) (by decide +kernel) rfl
theorem dX10_writeTrace_178 : decode cX10_writeTrace 178 = .ok (.iload 6, 2) := dk_21 (x := 6) (by decide +kernel)
theorem dX10_writeTrace_180 : decode cX10_writeTrace 180 = .ok (.iload_n 2, 1) := dk_28 (by decide +kernel)
theorem dX10_writeTrace_181 : decode cX10_writeTrace 181 = .ok (.if_icmp .eq 9, 3) := dk_159 (x := 0) (y := 9) (by decide +kernel) rfl
theorem dX10_writeTrace_184 : decode cX10_writeTrace 184 = .ok (.iload 6, 2) := dk_21 (x := 6) (by decide +kernel)
theorem dX10_writeTrace_186 : decode cX10_writeTrace 186 = .ok (.iload_n 3, 1) := dk_29 (by decide +kernel)
theorem dX10_writeTrace_187 : decode cX10_writeTrace 187 = .ok (.if_icmp .ne 22, 3) := dk_160 (x := 0) (y := 22) (by decide +kernel) rfl
theorem dX10_writeTrace_190 : decode cX10_writeTrace 190 = .ok (.aload_n 0, 1) := dk_42 (by decide +kernel)
theorem dX10_writeTrace_191 : decode cX10_writeTrace 191 = .ok (.getfield 7, 3) := dk_180 (x := 0) (y := 7) (by decide +kernel) rfl
theorem dX10_writeTrace_194 : decode cX10_writeTrace 194 = .ok (.sipush 9865, 3) := dk_17 (x := 38) (y := 137) (by decide +kernel) rfl
theorem dX10_writeTrace_197 : decode cX10_writeTrace 197 = .ok (.iconst 3, 1) := dk_6 (by decide +kernel)
theorem dX10_writeTrace_198 : decode cX10_writeTrace 198 = .ok (.iload 6, 2) := dk_21 (x := 6) (by decide +kernel)
theorem dX10_writeTrace_200 : decode cX10_writeTrace 200 = .ok (.imul, 1) := dk_104 (by decide +kernel)
theorem dX10_writeTrace_201 : decode cX10_writeTrace 201 = .ok (.iadd, 1) := dk_96 (by decide +kernel)
theorem dX10_writeTrace_202 : decode cX10_writeTrace 202 = .ok (.iconst 2, 1) := dk_5 (by decide +kernel)
theorem dX10_writeTrace_203 : decode cX10_writeTrace 203 = .ok (.iadd, 1) := dk_96 (by decide +kernel)
theorem dX10_writeTrace_204 : decode cX10_writeTrace 204 = .ok (.dup2, 1) := dk_92 (by decide +kernel)
theorem dX10_writeTrace_205 : decode cX10_writeTrace 205 = .ok (.iaload, 1) := dk_46 (by decide +kernel)
theorem dX10_writeTrace_206 : decode cX10_writeTrace 206 = .ok (.iconst 1, 1) := dk_4 (by decide +kernel)
theorem dX10_writeTrace_207 : decode cX10_writeTrace 207 = .ok (.iadd, 1) := dk_96 (by decide +kernel)
theorem dX10_writeTrace_208 : decode cX10_writeTrace 208 = .ok (.iastore, 1) := dk_79 (by decide +kernel)
theorem dX10_writeTrace_209 : decode cX10_writeTrace 209 = .ok (.iinc 6 1, 3) := dk_132 (x := 6) (y := 1) (by decide +kernel) rfl
theorem dX10_writeTrace_212 : decode cX10_writeTrace 212 = .ok (.goto (-56), 3) := dk_167 (x := 255) (y := 200) (by decide +kernel) rfl
theorem dX10_writeTrace_215 : decode cX10_writeTrace 215 = .ok (.return_, 1) := dk_177 (by decide +kernel)
def f_X10_writeTrace_190 (k_156 : Nat → Int32 → Int32 → Int32 → Mem → Option Mem) (n : Nat) (v0 : Nat) (v2 : Int32) (v3 : Int32) (v6 : Int32) (M : Mem) : Option Mem :=
    chk (isO M 10 v0) <|
    bnd (mR M v0 0) fun o2 =>
    chk (isO M 100 o2) <|
    bnd (((9865 : Int32) + ((3 : Int32) * v6)) + (2 : Int32)) fun x5 =>
    chk (inB x5 (mLn M o2)) <|
    chk (inB x5 (mLn M o2)) <|
    bnd (sI M o2 (x5).toNatClampNeg ((mI M o2 (x5).toNatClampNeg) + (1 : Int32))) fun M9 =>
    bnd (v6 + (1 : Int32)) fun x13 =>
    k_156 v0 v2 v3 x13 M9
def f_X10_writeTrace_156 : Nat → Nat → Int32 → Int32 → Int32 → Mem → Option Mem
  | 0, _, _, _, _, _ => none
  | n + 1, v0, v2, v3, v6, M =>
    chk (isO M 10 v0) <|
    bnd (mR M v0 0) fun o2 =>
    chk (isO M 100 o2) <|
    chk (inB (0 : Int32) (mLn M o2)) <|
    if (mI M o2 ((0 : Int32)).toNatClampNeg) ≤ v6 then (
      some M
      ) else (
      obd (f_X10_get v0 v6 (0 : Int32) M) fun r9 =>
      if r9 = (1 : Int32) then (
        if v6 = v2 then (
          f_X10_writeTrace_190 (f_X10_writeTrace_156 n) n v0 v2 v3 v6 M
          ) else (
          if v6 = v3 then (
            f_X10_writeTrace_190 (f_X10_writeTrace_156 n) n v0 v2 v3 v6 M
            ) else (
            bnd (v6 + (1 : Int32)) fun x18 =>
            f_X10_writeTrace_156 n v0 v2 v3 x18 M
            )
          )
        ) else (
        bnd (v6 + (1 : Int32)) fun x12 =>
        f_X10_writeTrace_156 n v0 v2 v3 x12 M
        )
      )
def f_X10_writeTrace_60 (n : Nat) (v0 : Nat) (v1 : Int32) (v2 : Int32) (v3 : Int32) (v4 : Int32) (M : Mem) : Option Mem :=
    chk (isO M 10 v0) <|
    bnd (mR M v0 0) fun o2 =>
    chk (isO M 100 o2) <|
    chk (inB (9858 : Int32) (mLn M o2)) <|
    bnd ((10033 : Int32) + ((4 : Int32) * (mI M o2 ((9858 : Int32)).toNatClampNeg))) fun x6 =>
    bnd (mR M v0 0) fun o8 =>
    chk (isO M 100 o8) <|
    chk (inB x6 (mLn M o8)) <|
    bnd (sI M o8 (x6).toNatClampNeg v1) fun M12 =>
    bnd (mR M12 v0 0) fun o17 =>
    chk (isO M12 100 o17) <|
    chk (inB (x6 + (1 : Int32)) (mLn M12 o17)) <|
    bnd (sI M12 o17 ((x6 + (1 : Int32))).toNatClampNeg v2) fun M21 =>
    bnd (mR M21 v0 0) fun o27 =>
    chk (isO M21 100 o27) <|
    chk (inB (x6 + (2 : Int32)) (mLn M21 o27)) <|
    bnd (sI M21 o27 ((x6 + (2 : Int32))).toNatClampNeg v3) fun M31 =>
    bnd (mR M31 v0 0) fun o38 =>
    chk (isO M31 100 o38) <|
    chk (inB (x6 + (3 : Int32)) (mLn M31 o38)) <|
    bnd (sI M31 o38 ((x6 + (3 : Int32))).toNatClampNeg v4) fun M42 =>
    bnd (mR M42 v0 0) fun o50 =>
    chk (isO M42 100 o50) <|
    chk (inB (9858 : Int32) (mLn M42 o50)) <|
    chk (inB (9858 : Int32) (mLn M42 o50)) <|
    bnd (sI M42 o50 ((9858 : Int32)).toNatClampNeg ((mI M42 o50 ((9858 : Int32)).toNatClampNeg) + (1 : Int32))) fun M55 =>
    bnd (mR M55 v0 0) fun o64 =>
    chk (isO M55 100 o64) <|
    chk (inB (9852 : Int32) (mLn M55 o64)) <|
    chk (inB (9852 : Int32) (mLn M55 o64)) <|
    bnd (sI M55 o64 ((9852 : Int32)).toNatClampNeg ((mI M55 o64 ((9852 : Int32)).toNatClampNeg) + (1 : Int32))) fun M69 =>
    bnd (mR M69 v0 0) fun o79 =>
    chk (isO M69 100 o79) <|
    bnd ((10193 : Int32) + v3) fun x82 =>
    chk (inB x82 (mLn M69 o79)) <|
    chk (inB x82 (mLn M69 o79)) <|
    bnd (sI M69 o79 (x82).toNatClampNeg ((mI M69 o79 (x82).toNatClampNeg) + (1 : Int32))) fun M86 =>
    f_X10_writeTrace_156 n v0 v2 v3 (0 : Int32) M86
def f_X10_writeTrace_18 : Nat → Nat → Int32 → Int32 → Int32 → Int32 → Int32 → Mem → Option Mem
  | 0, _, _, _, _, _, _, _ => none
  | n + 1, v0, v1, v2, v3, v4, v5, M =>
    if (10189 : Int32) ≤ v5 then (
      chk (isO M 10 v0) <|
      bnd (mR M v0 0) fun o4 =>
      chk (isO M 100 o4) <|
      chk (inB (9858 : Int32) (mLn M o4)) <|
      chk (inB (9858 : Int32) (mLn M o4)) <|
      bnd (sI M o4 ((9858 : Int32)).toNatClampNeg ((mI M o4 ((9858 : Int32)).toNatClampNeg) - (1 : Int32))) fun M9 =>
      f_X10_writeTrace_60 n v0 v1 v2 v3 v4 M9
      ) else (
      chk (isO M 10 v0) <|
      bnd (mR M v0 0) fun o14 =>
      chk (isO M 100 o14) <|
      bnd (mR M v0 0) fun o17 =>
      chk (isO M 100 o17) <|
      chk (inB (v5 + (4 : Int32)) (mLn M o17)) <|
      chk (inB v5 (mLn M o14)) <|
      bnd (sI M o14 (v5).toNatClampNeg (mI M o17 ((v5 + (4 : Int32))).toNatClampNeg)) fun M22 =>
      bnd (v5 + (1 : Int32)) fun x27 =>
      f_X10_writeTrace_18 n v0 v1 v2 v3 v4 x27 M22
      )
def f_X10_writeTrace (n : Nat) (o : Nat) (a1 : Int32) (a2 : Int32) (a3 : Int32) (a4 : Int32) (M : Mem) : Option Mem :=
  chk (isO M 10 o) <|
  bnd (mR M o 0) fun o2 =>
  chk (isO M 100 o2) <|
  chk (inB (9858 : Int32) (mLn M o2)) <|
  if (mI M o2 ((9858 : Int32)).toNatClampNeg) = (40 : Int32) then (
    f_X10_writeTrace_18 n o a1 a2 a3 a4 (10033 : Int32) M
    ) else (
    f_X10_writeTrace_60 n o a1 a2 a3 a4 M
    )
theorem cd_X10_writeTrace : (yX10_writeTrace.cls ≠ "java/lang/invoke/MethodHandle" ∧ yX10_writeTrace.cls ≠ "java/lang/invoke/VarHandle") ∧ (parseMethodDescriptor yX10_writeTrace.desc).map (fun d => d.parameters.length) = some 4 := ⟨⟨by decide +kernel, by decide +kernel⟩, by decide +kernel⟩
section
variable {p : Program} {l : Launch} {e : Env} {R : Room} {s : State} {m : MethodId} {args : Array Value} {below : List Frame} {meth : Method} {c : Code} {G : Gam} {M0 : Mem}
theorem l_X10_writeTrace_190 {k_156 : Nat → Int32 → Int32 → Int32 → Mem → Option Mem} {rv : Mem} {n : Nat} {v0 : Nat} {v2 : Int32} {v3 : Int32} {v6 : Int32} {M : Mem} (X : Cx p R s m args c G M0 cX10_writeTrace yX10_writeTrace.cls 7 1 22) (hr : meth.sig.returnType = none) (hlk : meth.locks = false) (hnm : meth.name = "writeTrace") (hk_156 : ∀ (v0 : Nat), ∀ (v2 : Int32), ∀ (v3 : Int32), ∀ (v6 : Int32), ∀ M : Mem, k_156 v0 v2 v3 v6 M = some rv → Sg p l e R s m args below meth c (Qm below G args s none M0 rv) G M0 7 156 [(0, .ref (gB G + v0)), (2, .int v2), (3, .int v3), (6, .int v6)] [] M) (hf : f_X10_writeTrace_190 k_156 n v0 v2 v3 v6 M = some rv) : Sg p l e R s m args below meth c (Qm below G args s none M0 rv) G M0 7 190 [(0, .ref (gB G + v0)), (2, .int v2), (3, .int v3), (6, .int v6)] [] M := by
  rw [f_X10_writeTrace_190] at hf
  refine s_aload_n X 0 dX10_writeTrace_190 rfl rfl ?_
  obtain ⟨h1, hf⟩ := pk_chk hf
  obtain ⟨o2, e3, hf⟩ := pk_bnd hf
  obtain ⟨h4, hf⟩ := pk_chk hf
  refine s_getR X (ci := 10) (k := 0) rfl (Nat.le_of_ble_eq_true rfl) h1 wd1440 (fun _ _ _ => rfl) (e3 ▸ h4) dX10_writeTrace_191 (e3 ▸ ?_)
  refine s_sipush X (v := (9865 : Int32)) dX10_writeTrace_194 rfl ?_
  refine s_iconst X (v := (3 : Int32)) dX10_writeTrace_197 rfl ?_
  refine s_iload X 3 dX10_writeTrace_198 rfl ?_
  refine s_imul X dX10_writeTrace_200 ?_
  refine s_iadd X dX10_writeTrace_201 ?_
  refine s_iconst X (v := (2 : Int32)) dX10_writeTrace_202 rfl ?_
  refine s_iadd X dX10_writeTrace_203 ?_
  obtain ⟨x5, e6, hf⟩ := pk_bnd hf
  refine s_nmI e6 ?_
  refine s_dup2 X dX10_writeTrace_204 rfl rfl ?_
  obtain ⟨h7, hf⟩ := pk_chk hf
  refine s_iald X h4 h7 dX10_writeTrace_205 ?_
  refine s_iconst X (v := (1 : Int32)) dX10_writeTrace_206 rfl ?_
  refine s_iadd X dX10_writeTrace_207 ?_
  obtain ⟨h8, hf⟩ := pk_chk hf
  obtain ⟨M9, e10, hf⟩ := pk_bnd hf
  refine s_iast X h4 h8 e10 dX10_writeTrace_208 ?_
  have h11 := io_sI e10 h1
  have h12 := io_sI e10 h4
  obtain ⟨x13, e14, hf⟩ := pk_bnd hf
  refine s_iinc X (vs' := [(0, .ref (gB G + v0)), (2, .int v2), (3, .int v3), (6, .int x13)]) 3 dX10_writeTrace_209 rfl (v := x13) e14.symm (Nat.le_of_ble_eq_true rfl) [1, 2, 3, 0] rfl ?_
  refine s_goto X (tgt := 156) dX10_writeTrace_212 rfl ?_
  exact hk_156 _ _ _ _ _ hf
theorem l_X10_writeTrace_156 {rv : Mem} (X : Cx p R s m args c G M0 cX10_writeTrace yX10_writeTrace.cls 7 1 22) (hr : meth.sig.returnType = none) (hlk : meth.locks = false) (hnm : meth.name = "writeTrace") : ∀ {n : Nat} (v0 : Nat) (v2 : Int32) (v3 : Int32) (v6 : Int32) (M : Mem), f_X10_writeTrace_156 n v0 v2 v3 v6 M = some rv → Sg p l e R s m args below meth c (Qm below G args s none M0 rv) G M0 7 156 [(0, .ref (gB G + v0)), (2, .int v2), (3, .int v3), (6, .int v6)] [] M := by
  intro n
  induction n with
  | zero => intro v0 v2 v3 v6 M hf; exact (pk_none hf).elim
  | succ n ih =>
    intro v0 v2 v3 v6 M hf
    rw [f_X10_writeTrace_156] at hf
    refine s_iload X 3 dX10_writeTrace_156 rfl ?_
    refine s_aload_n X 0 dX10_writeTrace_158 rfl rfl ?_
    obtain ⟨h1, hf⟩ := pk_chk hf
    obtain ⟨o2, e3, hf⟩ := pk_bnd hf
    obtain ⟨h4, hf⟩ := pk_chk hf
    refine s_getR X (ci := 10) (k := 0) rfl (Nat.le_of_ble_eq_true rfl) h1 wd1440 (fun _ _ _ => rfl) (e3 ▸ h4) dX10_writeTrace_159 (e3 ▸ ?_)
    refine s_iconst X (v := (0 : Int32)) dX10_writeTrace_162 rfl ?_
    obtain ⟨h5, hf⟩ := pk_chk hf
    refine s_iald X h4 h5 dX10_writeTrace_163 ?_
    have hs6 := pk_ite hf
    clear hf
    refine s_icmp_ge X (tgt := 215) dX10_writeTrace_164 rfl (fun c7 => ?_) (fun c7 => ?_)
    · have hf := hs6.1 c7
      cases hf
      exact s_vret X hr hlk dX10_writeTrace_215
    · have hf := hs6.2 c7
      refine s_aload_n X 0 dX10_writeTrace_167 rfl rfl ?_
      refine s_iload X 3 dX10_writeTrace_168 rfl ?_
      refine s_iconst X (v := (0 : Int32)) dX10_writeTrace_170 rfl ?_
      obtain ⟨r9, hc8, hf⟩ := pk_obd hf
      refine s_callV X (ci := 10) (k_X10_get G hc8) rfl h1 wd1588 wd1590 wd57 wd1591 wd138 cd_X10_get ⟨Nat.le_of_ble_eq_true rfl, Nat.le_of_ble_eq_true rfl⟩ (Nat.le_of_ble_eq_true rfl) dX10_writeTrace_171 ?_
      refine s_iconst X (v := (1 : Int32)) dX10_writeTrace_174 rfl ?_
      have hs10 := pk_ite hf
      clear hf
      refine s_icmp_ne X (tgt := 209) dX10_writeTrace_175 rfl (fun c11 => ?_) (fun c11 => ?_)
      · have hf := hs10.2 c11
        obtain ⟨x12, e13, hf⟩ := pk_bnd hf
        refine s_iinc X (vs' := [(0, .ref (gB G + v0)), (2, .int v2), (3, .int v3), (6, .int x12)]) 3 dX10_writeTrace_209 rfl (v := x12) e13.symm (Nat.le_of_ble_eq_true rfl) [1, 2, 3, 0] rfl ?_
        refine s_goto X (tgt := 156) dX10_writeTrace_212 rfl ?_
        exact ih _ _ _ _ _ hf
      · have hf := hs10.1 c11
        refine s_iload X 3 dX10_writeTrace_178 rfl ?_
        refine s_iload_n X 1 dX10_writeTrace_180 rfl rfl ?_
        have hs14 := pk_ite hf
        clear hf
        refine s_icmp_eq X (tgt := 190) dX10_writeTrace_181 rfl (fun c15 => ?_) (fun c15 => ?_)
        · have hf := hs14.1 c15
          exact l_X10_writeTrace_190 X hr hlk hnm ih hf
        · have hf := hs14.2 c15
          refine s_iload X 3 dX10_writeTrace_184 rfl ?_
          refine s_iload_n X 2 dX10_writeTrace_186 rfl rfl ?_
          have hs16 := pk_ite hf
          clear hf
          refine s_icmp_ne X (tgt := 209) dX10_writeTrace_187 rfl (fun c17 => ?_) (fun c17 => ?_)
          · have hf := hs16.2 c17
            obtain ⟨x18, e19, hf⟩ := pk_bnd hf
            refine s_iinc X (vs' := [(0, .ref (gB G + v0)), (2, .int v2), (3, .int v3), (6, .int x18)]) 3 dX10_writeTrace_209 rfl (v := x18) e19.symm (Nat.le_of_ble_eq_true rfl) [1, 2, 3, 0] rfl ?_
            refine s_goto X (tgt := 156) dX10_writeTrace_212 rfl ?_
            exact ih _ _ _ _ _ hf
          · have hf := hs16.1 c17
            exact l_X10_writeTrace_190 X hr hlk hnm ih hf
theorem l_X10_writeTrace_60 {rv : Mem} {n : Nat} {v0 : Nat} {v1 : Int32} {v2 : Int32} {v3 : Int32} {v4 : Int32} {M : Mem} (X : Cx p R s m args c G M0 cX10_writeTrace yX10_writeTrace.cls 7 1 22) (hr : meth.sig.returnType = none) (hlk : meth.locks = false) (hnm : meth.name = "writeTrace") (hf : f_X10_writeTrace_60 n v0 v1 v2 v3 v4 M = some rv) : Sg p l e R s m args below meth c (Qm below G args s none M0 rv) G M0 7 60 [(0, .ref (gB G + v0)), (1, .int v1), (2, .int v2), (3, .int v3), (4, .int v4)] [] M := by
  rw [f_X10_writeTrace_60] at hf
  refine s_sipush X (v := (10033 : Int32)) dX10_writeTrace_60 rfl ?_
  refine s_iconst X (v := (4 : Int32)) dX10_writeTrace_63 rfl ?_
  refine s_aload_n X 0 dX10_writeTrace_64 rfl rfl ?_
  obtain ⟨h1, hf⟩ := pk_chk hf
  obtain ⟨o2, e3, hf⟩ := pk_bnd hf
  obtain ⟨h4, hf⟩ := pk_chk hf
  refine s_getR X (ci := 10) (k := 0) rfl (Nat.le_of_ble_eq_true rfl) h1 wd1440 (fun _ _ _ => rfl) (e3 ▸ h4) dX10_writeTrace_65 (e3 ▸ ?_)
  refine s_sipush X (v := (9858 : Int32)) dX10_writeTrace_68 rfl ?_
  obtain ⟨h5, hf⟩ := pk_chk hf
  refine s_iald X h4 h5 dX10_writeTrace_71 ?_
  refine s_imul X dX10_writeTrace_72 ?_
  refine s_iadd X dX10_writeTrace_73 ?_
  obtain ⟨x6, e7, hf⟩ := pk_bnd hf
  refine s_nmI e7 ?_
  refine s_istore X (vs' := [(0, .ref (gB G + v0)), (1, .int v1), (2, .int v2), (3, .int v3), (4, .int v4), (5, .int x6)]) dX10_writeTrace_74 (Nat.le_of_ble_eq_true rfl) [1, 2, 3, 4, 5, 0] rfl ?_
  refine s_aload_n X 0 dX10_writeTrace_76 rfl rfl ?_
  obtain ⟨o8, e9, hf⟩ := pk_bnd hf
  obtain ⟨h10, hf⟩ := pk_chk hf
  refine s_getR X (ci := 10) (k := 0) rfl (Nat.le_of_ble_eq_true rfl) h1 wd1440 (fun _ _ _ => rfl) (e9 ▸ h10) dX10_writeTrace_77 (e9 ▸ ?_)
  refine s_iload X 5 dX10_writeTrace_80 rfl ?_
  refine s_iload_n X 1 dX10_writeTrace_82 rfl rfl ?_
  obtain ⟨h11, hf⟩ := pk_chk hf
  obtain ⟨M12, e13, hf⟩ := pk_bnd hf
  refine s_iast X h10 h11 e13 dX10_writeTrace_83 ?_
  have h14 := io_sI e13 h1
  have h15 := io_sI e13 h4
  have h16 := io_sI e13 h10
  refine s_aload_n X 0 dX10_writeTrace_84 rfl rfl ?_
  obtain ⟨o17, e18, hf⟩ := pk_bnd hf
  obtain ⟨h19, hf⟩ := pk_chk hf
  refine s_getR X (ci := 10) (k := 0) rfl (Nat.le_of_ble_eq_true rfl) h14 wd1440 (fun _ _ _ => rfl) (e18 ▸ h19) dX10_writeTrace_85 (e18 ▸ ?_)
  refine s_iload X 5 dX10_writeTrace_88 rfl ?_
  refine s_iconst X (v := (1 : Int32)) dX10_writeTrace_90 rfl ?_
  refine s_iadd X dX10_writeTrace_91 ?_
  refine s_iload_n X 2 dX10_writeTrace_92 rfl rfl ?_
  obtain ⟨h20, hf⟩ := pk_chk hf
  obtain ⟨M21, e22, hf⟩ := pk_bnd hf
  refine s_iast X h19 h20 e22 dX10_writeTrace_93 ?_
  have h23 := io_sI e22 h14
  have h24 := io_sI e22 h15
  have h25 := io_sI e22 h16
  have h26 := io_sI e22 h19
  refine s_aload_n X 0 dX10_writeTrace_94 rfl rfl ?_
  obtain ⟨o27, e28, hf⟩ := pk_bnd hf
  obtain ⟨h29, hf⟩ := pk_chk hf
  refine s_getR X (ci := 10) (k := 0) rfl (Nat.le_of_ble_eq_true rfl) h23 wd1440 (fun _ _ _ => rfl) (e28 ▸ h29) dX10_writeTrace_95 (e28 ▸ ?_)
  refine s_iload X 5 dX10_writeTrace_98 rfl ?_
  refine s_iconst X (v := (2 : Int32)) dX10_writeTrace_100 rfl ?_
  refine s_iadd X dX10_writeTrace_101 ?_
  refine s_iload_n X 3 dX10_writeTrace_102 rfl rfl ?_
  obtain ⟨h30, hf⟩ := pk_chk hf
  obtain ⟨M31, e32, hf⟩ := pk_bnd hf
  refine s_iast X h29 h30 e32 dX10_writeTrace_103 ?_
  have h33 := io_sI e32 h23
  have h34 := io_sI e32 h24
  have h35 := io_sI e32 h25
  have h36 := io_sI e32 h26
  have h37 := io_sI e32 h29
  refine s_aload_n X 0 dX10_writeTrace_104 rfl rfl ?_
  obtain ⟨o38, e39, hf⟩ := pk_bnd hf
  obtain ⟨h40, hf⟩ := pk_chk hf
  refine s_getR X (ci := 10) (k := 0) rfl (Nat.le_of_ble_eq_true rfl) h33 wd1440 (fun _ _ _ => rfl) (e39 ▸ h40) dX10_writeTrace_105 (e39 ▸ ?_)
  refine s_iload X 5 dX10_writeTrace_108 rfl ?_
  refine s_iconst X (v := (3 : Int32)) dX10_writeTrace_110 rfl ?_
  refine s_iadd X dX10_writeTrace_111 ?_
  refine s_iload X 4 dX10_writeTrace_112 rfl ?_
  obtain ⟨h41, hf⟩ := pk_chk hf
  obtain ⟨M42, e43, hf⟩ := pk_bnd hf
  refine s_iast X h40 h41 e43 dX10_writeTrace_114 ?_
  have h44 := io_sI e43 h33
  have h45 := io_sI e43 h34
  have h46 := io_sI e43 h35
  have h47 := io_sI e43 h36
  have h48 := io_sI e43 h37
  have h49 := io_sI e43 h40
  refine s_aload_n X 0 dX10_writeTrace_115 rfl rfl ?_
  obtain ⟨o50, e51, hf⟩ := pk_bnd hf
  obtain ⟨h52, hf⟩ := pk_chk hf
  refine s_getR X (ci := 10) (k := 0) rfl (Nat.le_of_ble_eq_true rfl) h44 wd1440 (fun _ _ _ => rfl) (e51 ▸ h52) dX10_writeTrace_116 (e51 ▸ ?_)
  refine s_sipush X (v := (9858 : Int32)) dX10_writeTrace_119 rfl ?_
  refine s_dup2 X dX10_writeTrace_122 rfl rfl ?_
  obtain ⟨h53, hf⟩ := pk_chk hf
  refine s_iald X h52 h53 dX10_writeTrace_123 ?_
  refine s_iconst X (v := (1 : Int32)) dX10_writeTrace_124 rfl ?_
  refine s_iadd X dX10_writeTrace_125 ?_
  obtain ⟨h54, hf⟩ := pk_chk hf
  obtain ⟨M55, e56, hf⟩ := pk_bnd hf
  refine s_iast X h52 h54 e56 dX10_writeTrace_126 ?_
  have h57 := io_sI e56 h44
  have h58 := io_sI e56 h45
  have h59 := io_sI e56 h46
  have h60 := io_sI e56 h47
  have h61 := io_sI e56 h48
  have h62 := io_sI e56 h49
  have h63 := io_sI e56 h52
  refine s_aload_n X 0 dX10_writeTrace_127 rfl rfl ?_
  obtain ⟨o64, e65, hf⟩ := pk_bnd hf
  obtain ⟨h66, hf⟩ := pk_chk hf
  refine s_getR X (ci := 10) (k := 0) rfl (Nat.le_of_ble_eq_true rfl) h57 wd1440 (fun _ _ _ => rfl) (e65 ▸ h66) dX10_writeTrace_128 (e65 ▸ ?_)
  refine s_sipush X (v := (9852 : Int32)) dX10_writeTrace_131 rfl ?_
  refine s_dup2 X dX10_writeTrace_134 rfl rfl ?_
  obtain ⟨h67, hf⟩ := pk_chk hf
  refine s_iald X h66 h67 dX10_writeTrace_135 ?_
  refine s_iconst X (v := (1 : Int32)) dX10_writeTrace_136 rfl ?_
  refine s_iadd X dX10_writeTrace_137 ?_
  obtain ⟨h68, hf⟩ := pk_chk hf
  obtain ⟨M69, e70, hf⟩ := pk_bnd hf
  refine s_iast X h66 h68 e70 dX10_writeTrace_138 ?_
  have h71 := io_sI e70 h57
  have h72 := io_sI e70 h58
  have h73 := io_sI e70 h59
  have h74 := io_sI e70 h60
  have h75 := io_sI e70 h61
  have h76 := io_sI e70 h62
  have h77 := io_sI e70 h63
  have h78 := io_sI e70 h66
  refine s_aload_n X 0 dX10_writeTrace_139 rfl rfl ?_
  obtain ⟨o79, e80, hf⟩ := pk_bnd hf
  obtain ⟨h81, hf⟩ := pk_chk hf
  refine s_getR X (ci := 10) (k := 0) rfl (Nat.le_of_ble_eq_true rfl) h71 wd1440 (fun _ _ _ => rfl) (e80 ▸ h81) dX10_writeTrace_140 (e80 ▸ ?_)
  refine s_sipush X (v := (10193 : Int32)) dX10_writeTrace_143 rfl ?_
  refine s_iload_n X 3 dX10_writeTrace_146 rfl rfl ?_
  refine s_iadd X dX10_writeTrace_147 ?_
  obtain ⟨x82, e83, hf⟩ := pk_bnd hf
  refine s_nmI e83 ?_
  refine s_dup2 X dX10_writeTrace_148 rfl rfl ?_
  obtain ⟨h84, hf⟩ := pk_chk hf
  refine s_iald X h81 h84 dX10_writeTrace_149 ?_
  refine s_iconst X (v := (1 : Int32)) dX10_writeTrace_150 rfl ?_
  refine s_iadd X dX10_writeTrace_151 ?_
  obtain ⟨h85, hf⟩ := pk_chk hf
  obtain ⟨M86, e87, hf⟩ := pk_bnd hf
  refine s_iast X h81 h85 e87 dX10_writeTrace_152 ?_
  have h88 := io_sI e87 h71
  have h89 := io_sI e87 h72
  have h90 := io_sI e87 h73
  have h91 := io_sI e87 h74
  have h92 := io_sI e87 h75
  have h93 := io_sI e87 h76
  have h94 := io_sI e87 h77
  have h95 := io_sI e87 h78
  have h96 := io_sI e87 h81
  refine s_iconst X (v := (0 : Int32)) dX10_writeTrace_153 rfl ?_
  refine s_istore X (vs' := [(0, .ref (gB G + v0)), (1, .int v1), (2, .int v2), (3, .int v3), (4, .int v4), (5, .int x6), (6, .int (0 : Int32))]) dX10_writeTrace_154 (Nat.le_of_ble_eq_true rfl) [1, 2, 3, 4, 5, 6, 0] rfl ?_
  refine s_drop [0, 2, 3, 6] (vs' := [(0, .ref (gB G + v0)), (2, .int v2), (3, .int v3), (6, .int (0 : Int32))]) rfl ?_
  exact l_X10_writeTrace_156 X hr hlk hnm _ _ _ _ _ hf
theorem l_X10_writeTrace_18 {rv : Mem} (X : Cx p R s m args c G M0 cX10_writeTrace yX10_writeTrace.cls 7 1 22) (hr : meth.sig.returnType = none) (hlk : meth.locks = false) (hnm : meth.name = "writeTrace") : ∀ {n : Nat} (v0 : Nat) (v1 : Int32) (v2 : Int32) (v3 : Int32) (v4 : Int32) (v5 : Int32) (M : Mem), f_X10_writeTrace_18 n v0 v1 v2 v3 v4 v5 M = some rv → Sg p l e R s m args below meth c (Qm below G args s none M0 rv) G M0 7 18 [(0, .ref (gB G + v0)), (1, .int v1), (2, .int v2), (3, .int v3), (4, .int v4), (5, .int v5)] [] M := by
  intro n
  induction n with
  | zero => intro v0 v1 v2 v3 v4 v5 M hf; exact (pk_none hf).elim
  | succ n ih =>
    intro v0 v1 v2 v3 v4 v5 M hf
    rw [f_X10_writeTrace_18] at hf
    refine s_iload X 5 dX10_writeTrace_18 rfl ?_
    refine s_sipush X (v := (10189 : Int32)) dX10_writeTrace_20 rfl ?_
    have hs1 := pk_ite hf
    clear hf
    refine s_icmp_ge X (tgt := 48) dX10_writeTrace_23 rfl (fun c2 => ?_) (fun c2 => ?_)
    · have hf := hs1.1 c2
      refine s_aload_n X 0 dX10_writeTrace_48 rfl rfl ?_
      obtain ⟨h3, hf⟩ := pk_chk hf
      obtain ⟨o4, e5, hf⟩ := pk_bnd hf
      obtain ⟨h6, hf⟩ := pk_chk hf
      refine s_getR X (ci := 10) (k := 0) rfl (Nat.le_of_ble_eq_true rfl) h3 wd1440 (fun _ _ _ => rfl) (e5 ▸ h6) dX10_writeTrace_49 (e5 ▸ ?_)
      refine s_sipush X (v := (9858 : Int32)) dX10_writeTrace_52 rfl ?_
      refine s_dup2 X dX10_writeTrace_55 rfl rfl ?_
      obtain ⟨h7, hf⟩ := pk_chk hf
      refine s_iald X h6 h7 dX10_writeTrace_56 ?_
      refine s_iconst X (v := (1 : Int32)) dX10_writeTrace_57 rfl ?_
      refine s_isub X dX10_writeTrace_58 ?_
      obtain ⟨h8, hf⟩ := pk_chk hf
      obtain ⟨M9, e10, hf⟩ := pk_bnd hf
      refine s_iast X h6 h8 e10 dX10_writeTrace_59 ?_
      have h11 := io_sI e10 h3
      have h12 := io_sI e10 h6
      refine s_drop [0, 1, 2, 3, 4] (vs' := [(0, .ref (gB G + v0)), (1, .int v1), (2, .int v2), (3, .int v3), (4, .int v4)]) rfl ?_
      exact l_X10_writeTrace_60 X hr hlk hnm hf
    · have hf := hs1.2 c2
      refine s_aload_n X 0 dX10_writeTrace_26 rfl rfl ?_
      obtain ⟨h13, hf⟩ := pk_chk hf
      obtain ⟨o14, e15, hf⟩ := pk_bnd hf
      obtain ⟨h16, hf⟩ := pk_chk hf
      refine s_getR X (ci := 10) (k := 0) rfl (Nat.le_of_ble_eq_true rfl) h13 wd1440 (fun _ _ _ => rfl) (e15 ▸ h16) dX10_writeTrace_27 (e15 ▸ ?_)
      refine s_iload X 5 dX10_writeTrace_30 rfl ?_
      refine s_aload_n X 0 dX10_writeTrace_32 rfl rfl ?_
      obtain ⟨o17, e18, hf⟩ := pk_bnd hf
      obtain ⟨h19, hf⟩ := pk_chk hf
      refine s_getR X (ci := 10) (k := 0) rfl (Nat.le_of_ble_eq_true rfl) h13 wd1440 (fun _ _ _ => rfl) (e18 ▸ h19) dX10_writeTrace_33 (e18 ▸ ?_)
      refine s_iload X 5 dX10_writeTrace_36 rfl ?_
      refine s_iconst X (v := (4 : Int32)) dX10_writeTrace_38 rfl ?_
      refine s_iadd X dX10_writeTrace_39 ?_
      obtain ⟨h20, hf⟩ := pk_chk hf
      refine s_iald X h19 h20 dX10_writeTrace_40 ?_
      obtain ⟨h21, hf⟩ := pk_chk hf
      obtain ⟨M22, e23, hf⟩ := pk_bnd hf
      refine s_iast X h16 h21 e23 dX10_writeTrace_41 ?_
      have h24 := io_sI e23 h13
      have h25 := io_sI e23 h16
      have h26 := io_sI e23 h19
      obtain ⟨x27, e28, hf⟩ := pk_bnd hf
      refine s_iinc X (vs' := [(0, .ref (gB G + v0)), (1, .int v1), (2, .int v2), (3, .int v3), (4, .int v4), (5, .int x27)]) 5 dX10_writeTrace_42 rfl (v := x27) e28.symm (Nat.le_of_ble_eq_true rfl) [1, 2, 3, 4, 5, 0] rfl ?_
      refine s_goto X (tgt := 18) dX10_writeTrace_45 rfl ?_
      exact ih _ _ _ _ _ _ _ hf
end
theorem k_X10_writeTrace (G : Gam) {n : Nat} {o : Nat} {a1 : Int32} {a2 : Int32} {a3 : Int32} {a4 : Int32} {M : Mem} {rv : Mem} (hf : f_X10_writeTrace n o a1 a2 a3 a4 M = some rv) : Kt yX10_writeTrace cX10_writeTrace 7 none 1 22 G [.ref (gB G + o), .int a1, .int a2, .int a3, .int a4] M rv none := by
  refine Kt.of (by decide) (Nat.le_of_ble_eq_true rfl) ?_
  intro p l e R s m args below meth c X hr hlk hnm
  refine s_drop [0, 1, 2, 3, 4] (vs' := [(0, .ref (gB G + o)), (1, .int a1), (2, .int a2), (3, .int a3), (4, .int a4)]) rfl ?_
  rw [f_X10_writeTrace] at hf
  refine s_aload_n X 0 dX10_writeTrace_0 rfl rfl ?_
  obtain ⟨h1, hf⟩ := pk_chk hf
  obtain ⟨o2, e3, hf⟩ := pk_bnd hf
  obtain ⟨h4, hf⟩ := pk_chk hf
  refine s_getR X (ci := 10) (k := 0) rfl (Nat.le_of_ble_eq_true rfl) h1 wd1440 (fun _ _ _ => rfl) (e3 ▸ h4) dX10_writeTrace_1 (e3 ▸ ?_)
  refine s_sipush X (v := (9858 : Int32)) dX10_writeTrace_4 rfl ?_
  obtain ⟨h5, hf⟩ := pk_chk hf
  refine s_iald X h4 h5 dX10_writeTrace_7 ?_
  refine s_bipush X (v := (40 : Int32)) dX10_writeTrace_8 rfl ?_
  have hs6 := pk_ite hf
  clear hf
  refine s_icmp_ne X (tgt := 60) dX10_writeTrace_10 rfl (fun c7 => ?_) (fun c7 => ?_)
  · have hf := hs6.2 c7
    exact l_X10_writeTrace_60 X hr hlk hnm hf
  · have hf := hs6.1 c7
    refine s_sipush X (v := (10033 : Int32)) dX10_writeTrace_13 rfl ?_
    refine s_istore X (vs' := [(0, .ref (gB G + o)), (1, .int a1), (2, .int a2), (3, .int a3), (4, .int a4), (5, .int (10033 : Int32))]) dX10_writeTrace_16 (Nat.le_of_ble_eq_true rfl) [1, 2, 3, 4, 5, 0] rfl ?_
    exact l_X10_writeTrace_18 X hr hlk hnm _ _ _ _ _ _ _ hf
theorem dX10_of_0 : decode cX10_of 0 = .ok (.aload_n 0, 1) := dk_42 (by decide +kernel)
theorem dX10_of_1 : decode cX10_of 1 = .ok (.getfield 7, 3) := dk_180 (x := 0) (y := 7) (by decide +kernel) rfl
theorem dX10_of_4 : decode cX10_of 4 = .ok (.sipush 146, 3) := dk_17 (x := 0) (y := 146) (by decide +kernel) rfl
theorem dX10_of_7 : decode cX10_of 7 = .ok (.bipush 44, 2) := dk_16 (x := 44) (by decide +kernel) rfl
theorem dX10_of_9 : decode cX10_of 9 = .ok (.iload_n 1, 1) := dk_27 (by decide +kernel)
theorem dX10_of_10 : decode cX10_of 10 = .ok (.imul, 1) := dk_104 (by decide +kernel)
theorem dX10_of_11 : decode cX10_of 11 = .ok (.iadd, 1) := dk_96 (by decide +kernel)
theorem dX10_of_12 : decode cX10_of 12 = .ok (.iload_n 2, 1) := dk_28 (by decide +kernel)
theorem dX10_of_13 : decode cX10_of 13 = .ok (.iadd, 1) := dk_96 (by decide +kernel)
theorem dX10_of_14 : decode cX10_of 14 = .ok (.iaload, 1) := dk_46 (by decide +kernel)
theorem dX10_of_15 : decode cX10_of 15 = .ok (.ireturn, 1) := dk_172 (by decide +kernel)
def f_X10_of (o : Nat) (a1 : Int32) (a2 : Int32) (M : Mem) : Option Int32 :=
  chk (isO M 10 o) <|
  bnd (mR M o 0) fun o2 =>
  chk (isO M 100 o2) <|
  chk (inB (((146 : Int32) + ((44 : Int32) * a1)) + a2) (mLn M o2)) <|
  some (mI M o2 ((((146 : Int32) + ((44 : Int32) * a1)) + a2)).toNatClampNeg)
theorem cd_X10_of : (yX10_of.cls ≠ "java/lang/invoke/MethodHandle" ∧ yX10_of.cls ≠ "java/lang/invoke/VarHandle") ∧ (parseMethodDescriptor yX10_of.desc).map (fun d => d.parameters.length) = some 2 := ⟨⟨by decide +kernel, by decide +kernel⟩, by decide +kernel⟩
theorem k_X10_of (G : Gam) {o : Nat} {a1 : Int32} {a2 : Int32} {M : Mem} {rv : Int32} (hf : f_X10_of o a1 a2 M = some rv) : Kt yX10_of cX10_of 3 (some .int) 0 0 G [.ref (gB G + o), .int a1, .int a2] M M (some (.int rv)) := by
  refine Kt.of (by decide) (Nat.le_of_ble_eq_true rfl) ?_
  intro p l e R s m args below meth c X hr hlk hnm
  refine s_drop [0, 1, 2] (vs' := [(0, .ref (gB G + o)), (1, .int a1), (2, .int a2)]) rfl ?_
  rw [f_X10_of] at hf
  refine s_aload_n X 0 dX10_of_0 rfl rfl ?_
  obtain ⟨h1, hf⟩ := pk_chk hf
  obtain ⟨o2, e3, hf⟩ := pk_bnd hf
  obtain ⟨h4, hf⟩ := pk_chk hf
  refine s_getR X (ci := 10) (k := 0) rfl (Nat.le_of_ble_eq_true rfl) h1 wd1440 (fun _ _ _ => rfl) (e3 ▸ h4) dX10_of_1 (e3 ▸ ?_)
  refine s_sipush X (v := (146 : Int32)) dX10_of_4 rfl ?_
  refine s_bipush X (v := (44 : Int32)) dX10_of_7 rfl ?_
  refine s_iload_n X 1 dX10_of_9 rfl rfl ?_
  refine s_imul X dX10_of_10 ?_
  refine s_iadd X dX10_of_11 ?_
  refine s_iload_n X 2 dX10_of_12 rfl rfl ?_
  refine s_iadd X dX10_of_13 ?_
  obtain ⟨h5, hf⟩ := pk_chk hf
  refine s_iald X h4 h5 dX10_of_14 ?_
  cases hf
  exact s_iret X hr hlk dX10_of_15
theorem dX10_waitNode_0 : decode cX10_waitNode 0 = .ok (.aload_n 0, 1) := dk_42 (by decide +kernel)
theorem dX10_waitNode_1 : decode cX10_waitNode 1 = .ok (.iload_n 1, 1) := dk_27 (by decide +kernel)
theorem dX10_waitNode_2 : decode cX10_waitNode 2 = .ok (.iconst 4, 1) := dk_7 (by decide +kernel)
theorem dX10_waitNode_3 : decode cX10_waitNode 3 = .ok (.iconst 2, 1) := dk_5 (by decide +kernel)
theorem dX10_waitNode_4 : decode cX10_waitNode 4 = .ok (.iload_n 2, 1) := dk_28 (by decide +kernel)
theorem dX10_waitNode_5 : decode cX10_waitNode 5 = .ok (.imul, 1) := dk_104 (by decide +kernel)
theorem dX10_waitNode_6 : decode cX10_waitNode 6 = .ok (.iadd, 1) := dk_96 (by decide +kernel)
theorem dX10_waitNode_7 : decode cX10_waitNode 7 = .ok (.invokevirtual 151, 3) := dk_182 (x := 0) (y := 151) (by decide +kernel) rfl
theorem dX10_waitNode_10 : decode cX10_waitNode 10 = .ok (.ireturn, 1) := dk_172 (by decide +kernel)
def f_X10_waitNode (o : Nat) (a1 : Int32) (a2 : Int32) (M : Mem) : Option Int32 :=
  chk (isO M 10 o) <|
  obd (f_X10_of o a1 ((4 : Int32) + ((2 : Int32) * a2)) M) fun r3 =>
  some r3
theorem cd_X10_waitNode : (yX10_waitNode.cls ≠ "java/lang/invoke/MethodHandle" ∧ yX10_waitNode.cls ≠ "java/lang/invoke/VarHandle") ∧ (parseMethodDescriptor yX10_waitNode.desc).map (fun d => d.parameters.length) = some 2 := ⟨⟨by decide +kernel, by decide +kernel⟩, by decide +kernel⟩
theorem k_X10_waitNode (G : Gam) {o : Nat} {a1 : Int32} {a2 : Int32} {M : Mem} {rv : Int32} (hf : f_X10_waitNode o a1 a2 M = some rv) : Kt yX10_waitNode cX10_waitNode 3 (some .int) 1 22 G [.ref (gB G + o), .int a1, .int a2] M M (some (.int rv)) := by
  refine Kt.of (by decide) (Nat.le_of_ble_eq_true rfl) ?_
  intro p l e R s m args below meth c X hr hlk hnm
  refine s_drop [0, 1, 2] (vs' := [(0, .ref (gB G + o)), (1, .int a1), (2, .int a2)]) rfl ?_
  rw [f_X10_waitNode] at hf
  refine s_aload_n X 0 dX10_waitNode_0 rfl rfl ?_
  refine s_iload_n X 1 dX10_waitNode_1 rfl rfl ?_
  refine s_iconst X (v := (4 : Int32)) dX10_waitNode_2 rfl ?_
  refine s_iconst X (v := (2 : Int32)) dX10_waitNode_3 rfl ?_
  refine s_iload_n X 2 dX10_waitNode_4 rfl rfl ?_
  refine s_imul X dX10_waitNode_5 ?_
  refine s_iadd X dX10_waitNode_6 ?_
  obtain ⟨h1, hf⟩ := pk_chk hf
  obtain ⟨r3, hc2, hf⟩ := pk_obd hf
  refine s_callV X (ci := 10) (k_X10_of G hc2) rfl h1 wd1761 wd1763 wd79 wd1764 wd138 cd_X10_of ⟨Nat.le_of_ble_eq_true rfl, Nat.le_of_ble_eq_true rfl⟩ (Nat.le_of_ble_eq_true rfl) dX10_waitNode_7 ?_
  cases hf
  exact s_iret X hr hlk dX10_waitNode_10
theorem dX10_waitStamp_0 : decode cX10_waitStamp 0 = .ok (.aload_n 0, 1) := dk_42 (by decide +kernel)
theorem dX10_waitStamp_1 : decode cX10_waitStamp 1 = .ok (.iload_n 1, 1) := dk_27 (by decide +kernel)
theorem dX10_waitStamp_2 : decode cX10_waitStamp 2 = .ok (.iconst 4, 1) := dk_7 (by decide +kernel)
theorem dX10_waitStamp_3 : decode cX10_waitStamp 3 = .ok (.iconst 2, 1) := dk_5 (by decide +kernel)
theorem dX10_waitStamp_4 : decode cX10_waitStamp 4 = .ok (.iload_n 2, 1) := dk_28 (by decide +kernel)
theorem dX10_waitStamp_5 : decode cX10_waitStamp 5 = .ok (.imul, 1) := dk_104 (by decide +kernel)
theorem dX10_waitStamp_6 : decode cX10_waitStamp 6 = .ok (.iadd, 1) := dk_96 (by decide +kernel)
theorem dX10_waitStamp_7 : decode cX10_waitStamp 7 = .ok (.iconst 1, 1) := dk_4 (by decide +kernel)
theorem dX10_waitStamp_8 : decode cX10_waitStamp 8 = .ok (.iadd, 1) := dk_96 (by decide +kernel)
theorem dX10_waitStamp_9 : decode cX10_waitStamp 9 = .ok (.invokevirtual 151, 3) := dk_182 (x := 0) (y := 151) (by decide +kernel) rfl
theorem dX10_waitStamp_12 : decode cX10_waitStamp 12 = .ok (.ireturn, 1) := dk_172 (by decide +kernel)
def f_X10_waitStamp (o : Nat) (a1 : Int32) (a2 : Int32) (M : Mem) : Option Int32 :=
  chk (isO M 10 o) <|
  obd (f_X10_of o a1 (((4 : Int32) + ((2 : Int32) * a2)) + (1 : Int32)) M) fun r3 =>
  some r3
theorem cd_X10_waitStamp : (yX10_waitStamp.cls ≠ "java/lang/invoke/MethodHandle" ∧ yX10_waitStamp.cls ≠ "java/lang/invoke/VarHandle") ∧ (parseMethodDescriptor yX10_waitStamp.desc).map (fun d => d.parameters.length) = some 2 := ⟨⟨by decide +kernel, by decide +kernel⟩, by decide +kernel⟩
theorem k_X10_waitStamp (G : Gam) {o : Nat} {a1 : Int32} {a2 : Int32} {M : Mem} {rv : Int32} (hf : f_X10_waitStamp o a1 a2 M = some rv) : Kt yX10_waitStamp cX10_waitStamp 3 (some .int) 1 22 G [.ref (gB G + o), .int a1, .int a2] M M (some (.int rv)) := by
  refine Kt.of (by decide) (Nat.le_of_ble_eq_true rfl) ?_
  intro p l e R s m args below meth c X hr hlk hnm
  refine s_drop [0, 1, 2] (vs' := [(0, .ref (gB G + o)), (1, .int a1), (2, .int a2)]) rfl ?_
  rw [f_X10_waitStamp] at hf
  refine s_aload_n X 0 dX10_waitStamp_0 rfl rfl ?_
  refine s_iload_n X 1 dX10_waitStamp_1 rfl rfl ?_
  refine s_iconst X (v := (4 : Int32)) dX10_waitStamp_2 rfl ?_
  refine s_iconst X (v := (2 : Int32)) dX10_waitStamp_3 rfl ?_
  refine s_iload_n X 2 dX10_waitStamp_4 rfl rfl ?_
  refine s_imul X dX10_waitStamp_5 ?_
  refine s_iadd X dX10_waitStamp_6 ?_
  refine s_iconst X (v := (1 : Int32)) dX10_waitStamp_7 rfl ?_
  refine s_iadd X dX10_waitStamp_8 ?_
  obtain ⟨h1, hf⟩ := pk_chk hf
  obtain ⟨r3, hc2, hf⟩ := pk_obd hf
  refine s_callV X (ci := 10) (k_X10_of G hc2) rfl h1 wd1761 wd1763 wd79 wd1764 wd138 cd_X10_of ⟨Nat.le_of_ble_eq_true rfl, Nat.le_of_ble_eq_true rfl⟩ (Nat.le_of_ble_eq_true rfl) dX10_waitStamp_9 ?_
  cases hf
  exact s_iret X hr hlk dX10_waitStamp_12
