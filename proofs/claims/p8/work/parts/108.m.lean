theorem dX9_way_0 : decode cX9_way 0 = .ok (.aload_n 0, 1) := dk_42 (by decide +kernel)
theorem dX9_way_1 : decode cX9_way 1 = .ok (.getfield 10, 3) := dk_180 (x := 0) (y := 10) (by decide +kernel) rfl
theorem dX9_way_4 : decode cX9_way 4 = .ok (.iload_n 1, 1) := dk_27 (by decide +kernel)
theorem dX9_way_5 : decode cX9_way 5 = .ok (.invokevirtual 71, 3) := dk_182 (x := 0) (y := 71) (by decide +kernel) rfl
theorem dX9_way_8 : decode cX9_way 8 = .ok (.ifCond .eq 14, 3) := dk_153 (x := 0) (y := 14) (by decide +kernel) rfl
theorem dX9_way_11 : decode cX9_way 11 = .ok (.aload_n 0, 1) := dk_42 (by decide +kernel)
theorem dX9_way_12 : decode cX9_way 12 = .ok (.getfield 10, 3) := dk_180 (x := 0) (y := 10) (by decide +kernel) rfl
theorem dX9_way_15 : decode cX9_way 15 = .ok (.iload_n 2, 1) := dk_28 (by decide +kernel)
theorem dX9_way_16 : decode cX9_way 16 = .ok (.invokevirtual 71, 3) := dk_182 (x := 0) (y := 71) (by decide +kernel) rfl
theorem dX9_way_19 : decode cX9_way 19 = .ok (.ifCond .ne 5, 3) := dk_154 (x := 0) (y := 5) (by decide +kernel) rfl
theorem dX9_way_22 : decode cX9_way 22 = .ok (.iconst (-1), 1) := dk_2 (by decide +kernel)
theorem dX9_way_23 : decode cX9_way 23 = .ok (.ireturn, 1) := dk_172 (by decide +kernel)
theorem dX9_way_24 : decode cX9_way 24 = .ok (.iload_n 3, 1) := dk_29 (by decide +kernel)
theorem dX9_way_25 : decode cX9_way 25 = .ok (.iconst (-1), 1) := dk_2 (by decide +kernel)
theorem dX9_way_26 : decode cX9_way 26 = .ok (.if_icmp .ne 18, 3) := dk_160 (x := 0) (y := 18) (by decide +kernel) rfl
theorem dX9_way_29 : decode cX9_way 29 = .ok (.aload_n 0, 1) := dk_42 (by decide +kernel)
theorem dX9_way_30 : decode cX9_way 30 = .ok (.getfield 28, 3) := dk_180 (x := 0) (y := 28) (by decide +kernel) rfl
theorem dX9_way_33 : decode cX9_way 33 = .ok (.getfield 243, 3) := dk_180 (x := 0) (y := 243) (by decide +kernel) rfl
theorem dX9_way_36 : decode cX9_way 36 = .ok (.iload_n 1, 1) := dk_27 (by decide +kernel)
theorem dX9_way_37 : decode cX9_way 37 = .ok (.iload_n 2, 1) := dk_28 (by decide +kernel)
theorem dX9_way_38 : decode cX9_way 38 = .ok (.invokevirtual 247, 3) := dk_182 (x := 0) (y := 247) (by decide +kernel) rfl
theorem dX9_way_41 : decode cX9_way 41 = .ok (.goto 16, 3) := dk_167 (x := 0) (y := 16) (by decide +kernel) rfl
theorem dX9_way_44 : decode cX9_way 44 = .ok (.aload_n 0, 1) := dk_42 (by decide +kernel)
theorem dX9_way_45 : decode cX9_way 45 = .ok (.getfield 28, 3) := dk_180 (x := 0) (y := 28) (by decide +kernel) rfl
theorem dX9_way_48 : decode cX9_way 48 = .ok (.getfield 243, 3) := dk_180 (x := 0) (y := 243) (by decide +kernel) rfl
theorem dX9_way_51 : decode cX9_way 51 = .ok (.iload_n 1, 1) := dk_27 (by decide +kernel)
theorem dX9_way_52 : decode cX9_way 52 = .ok (.iload_n 2, 1) := dk_28 (by decide +kernel)
theorem dX9_way_53 : decode cX9_way 53 = .ok (.iload_n 3, 1) := dk_29 (by decide +kernel)
theorem dX9_way_54 : decode cX9_way 54 = .ok (.invokevirtual 252, 3) := dk_182 (x := 0) (y := 252) (by decide +kernel) rfl
theorem dX9_way_57 : decode cX9_way 57 = .ok (.ireturn, 1) := dk_172 (by decide +kernel)
def f_X9_way (n : Nat) (o : Nat) (a1 : Int32) (a2 : Int32) (a3 : Int32) (M : Mem) : Option Int32 :=
  chk (isO M 9 o) <|
  bnd (mR M o 0) fun o2 =>
  chk (isO M 7 o2) <|
  obd (f_X7_isNode o2 a1 M) fun r6 =>
  if r6 = 0 then (
    some (-1 : Int32)
    ) else (
    bnd (mR M o 0) fun o9 =>
    chk (isO M 7 o9) <|
    obd (f_X7_isNode o9 a2 M) fun r13 =>
    if r13 = 0 then (
      some (-1 : Int32)
      ) else (
      if a3 = (-1 : Int32) then (
        bnd (mR M o 2) fun o26 =>
        chk (isO M 2 o26) <|
        bnd (mR M o26 1) fun o29 =>
        chk (isO M 5 o29) <|
        obd (f_X5_countOn o29 a1 a2 M) fun r33 =>
        some r33
        ) else (
        bnd (mR M o 2) fun o18 =>
        chk (isO M 2 o18) <|
        bnd (mR M o18 1) fun o21 =>
        chk (isO M 5 o21) <|
        obd (f_X5_kindAt n o21 a1 a2 a3 M) fun r25 =>
        some r25
        )
      )
    )
theorem cd_X9_way : (yX9_way.cls ≠ "java/lang/invoke/MethodHandle" ∧ yX9_way.cls ≠ "java/lang/invoke/VarHandle") ∧ (parseMethodDescriptor yX9_way.desc).map (fun d => d.parameters.length) = some 3 := ⟨⟨by decide +kernel, by decide +kernel⟩, by decide +kernel⟩
theorem k_X9_way (G : Gam) {n : Nat} {o : Nat} {a1 : Int32} {a2 : Int32} {a3 : Int32} {M : Mem} {rv : Int32} (hf : f_X9_way n o a1 a2 a3 M = some rv) : Kt yX9_way cX9_way 4 (some .int) 2 46 G [.ref (gB G + o), .int a1, .int a2, .int a3] M M (some (.int rv)) := by
  refine Kt.of (by decide) (Nat.le_of_ble_eq_true rfl) ?_
  intro p l e R s m args below meth c X hr hlk hnm
  refine s_drop [0, 1, 2, 3] (vs' := [(0, .ref (gB G + o)), (1, .int a1), (2, .int a2), (3, .int a3)]) rfl ?_
  rw [f_X9_way] at hf
  refine s_aload_n X 0 dX9_way_0 rfl rfl ?_
  obtain ⟨h1, hf⟩ := pk_chk hf
  obtain ⟨o2, e3, hf⟩ := pk_bnd hf
  obtain ⟨h4, hf⟩ := pk_chk hf
  refine s_getR X (ci := 9) (k := 0) rfl (Nat.le_of_ble_eq_true rfl) h1 wd627 (fun _ _ _ => rfl) (e3 ▸ h4) dX9_way_1 (e3 ▸ ?_)
  refine s_iload_n X 1 dX9_way_4 rfl rfl ?_
  obtain ⟨r6, hc5, hf⟩ := pk_obd hf
  refine s_callV X (ci := 7) (k_X7_isNode G hc5) rfl h4 wd699 wd700 wd701 wd702 wd127 cd_X7_isNode ⟨Nat.le_of_ble_eq_true rfl, Nat.le_of_ble_eq_true rfl⟩ (Nat.le_of_ble_eq_true rfl) dX9_way_5 ?_
  have hs7 := pk_ite hf
  clear hf
  refine s_if_eq X (tgt := 22) dX9_way_8 rfl (fun c8 => ?_) (fun c8 => ?_)
  · have hf := hs7.1 c8
    refine s_iconst X (v := (-1 : Int32)) dX9_way_22 rfl ?_
    cases hf
    exact s_iret X hr hlk dX9_way_23
  · have hf := hs7.2 c8
    refine s_aload_n X 0 dX9_way_11 rfl rfl ?_
    obtain ⟨o9, e10, hf⟩ := pk_bnd hf
    obtain ⟨h11, hf⟩ := pk_chk hf
    refine s_getR X (ci := 9) (k := 0) rfl (Nat.le_of_ble_eq_true rfl) h1 wd627 (fun _ _ _ => rfl) (e10 ▸ h11) dX9_way_12 (e10 ▸ ?_)
    refine s_iload_n X 2 dX9_way_15 rfl rfl ?_
    obtain ⟨r13, hc12, hf⟩ := pk_obd hf
    refine s_callV X (ci := 7) (k_X7_isNode G hc12) rfl h11 wd699 wd700 wd701 wd702 wd127 cd_X7_isNode ⟨Nat.le_of_ble_eq_true rfl, Nat.le_of_ble_eq_true rfl⟩ (Nat.le_of_ble_eq_true rfl) dX9_way_16 ?_
    have hs14 := pk_ite hf
    clear hf
    refine s_if_ne X (tgt := 24) dX9_way_19 rfl (fun c15 => ?_) (fun c15 => ?_)
    · have hf := hs14.2 c15
      refine s_iload_n X 3 dX9_way_24 rfl rfl ?_
      refine s_iconst X (v := (-1 : Int32)) dX9_way_25 rfl ?_
      have hs16 := pk_ite hf
      clear hf
      refine s_icmp_ne X (tgt := 44) dX9_way_26 rfl (fun c17 => ?_) (fun c17 => ?_)
      · have hf := hs16.2 c17
        refine s_aload_n X 0 dX9_way_44 rfl rfl ?_
        obtain ⟨o18, e19, hf⟩ := pk_bnd hf
        obtain ⟨h20, hf⟩ := pk_chk hf
        refine s_getR X (ci := 9) (k := 2) rfl (Nat.le_of_ble_eq_true rfl) h1 wd629 (fun _ _ _ => rfl) (e19 ▸ h20) dX9_way_45 (e19 ▸ ?_)
        obtain ⟨o21, e22, hf⟩ := pk_bnd hf
        obtain ⟨h23, hf⟩ := pk_chk hf
        refine s_getR X (ci := 2) (k := 1) rfl (Nat.le_of_ble_eq_true rfl) h20 wd422 (fun _ _ _ => rfl) (e22 ▸ h23) dX9_way_48 (e22 ▸ ?_)
        refine s_iload_n X 1 dX9_way_51 rfl rfl ?_
        refine s_iload_n X 2 dX9_way_52 rfl rfl ?_
        refine s_iload_n X 3 dX9_way_53 rfl rfl ?_
        obtain ⟨r25, hc24, hf⟩ := pk_obd hf
        refine s_callV X (ci := 5) (k_X5_kindAt G hc24) rfl h23 wd1151 wd1152 wd1153 wd1154 wd131 cd_X5_kindAt ⟨Nat.le_of_ble_eq_true rfl, Nat.le_of_ble_eq_true rfl⟩ (Nat.le_of_ble_eq_true rfl) dX9_way_54 ?_
        cases hf
        exact s_iret X hr hlk dX9_way_57
      · have hf := hs16.1 c17
        refine s_aload_n X 0 dX9_way_29 rfl rfl ?_
        obtain ⟨o26, e27, hf⟩ := pk_bnd hf
        obtain ⟨h28, hf⟩ := pk_chk hf
        refine s_getR X (ci := 9) (k := 2) rfl (Nat.le_of_ble_eq_true rfl) h1 wd629 (fun _ _ _ => rfl) (e27 ▸ h28) dX9_way_30 (e27 ▸ ?_)
        obtain ⟨o29, e30, hf⟩ := pk_bnd hf
        obtain ⟨h31, hf⟩ := pk_chk hf
        refine s_getR X (ci := 2) (k := 1) rfl (Nat.le_of_ble_eq_true rfl) h28 wd422 (fun _ _ _ => rfl) (e30 ▸ h31) dX9_way_33 (e30 ▸ ?_)
        refine s_iload_n X 1 dX9_way_36 rfl rfl ?_
        refine s_iload_n X 2 dX9_way_37 rfl rfl ?_
        obtain ⟨r33, hc32, hf⟩ := pk_obd hf
        refine s_callV X (ci := 5) (k_X5_countOn G hc32) rfl h31 wd1150 wd1100 wd1101 wd1102 wd131 cd_X5_countOn ⟨Nat.le_of_ble_eq_true rfl, Nat.le_of_ble_eq_true rfl⟩ (Nat.le_of_ble_eq_true rfl) dX9_way_38 ?_
        refine s_goto X (tgt := 57) dX9_way_41 rfl ?_
        cases hf
        exact s_iret X hr hlk dX9_way_57
    · have hf := hs14.1 c15
      refine s_iconst X (v := (-1 : Int32)) dX9_way_22 rfl ?_
      cases hf
      exact s_iret X hr hlk dX9_way_23
theorem dX10_way_0 : decode cX10_way 0 = .ok (.aload_n 0, 1) := dk_42 (by decide +kernel)
theorem dX10_way_1 : decode cX10_way 1 = .ok (.iload_n 1, 1) := dk_27 (by decide +kernel)
theorem dX10_way_2 : decode cX10_way 2 = .ok (.invokevirtual 76, 3) := dk_182 (x := 0) (y := 76) (by decide +kernel) rfl
theorem dX10_way_5 : decode cX10_way 5 = .ok (.ifCond .eq 16, 3) := dk_153 (x := 0) (y := 16) (by decide +kernel) rfl
theorem dX10_way_8 : decode cX10_way 8 = .ok (.aload_n 0, 1) := dk_42 (by decide +kernel)
theorem dX10_way_9 : decode cX10_way 9 = .ok (.iload_n 2, 1) := dk_28 (by decide +kernel)
theorem dX10_way_10 : decode cX10_way 10 = .ok (.invokevirtual 76, 3) := dk_182 (x := 0) (y := 76) (by decide +kernel) rfl
theorem dX10_way_13 : decode cX10_way 13 = .ok (.ifCond .eq 8, 3) := dk_153 (x := 0) (y := 8) (by decide +kernel) rfl
theorem dX10_way_16 : decode cX10_way 16 = .ok (.iload_n 3, 1) := dk_29 (by decide +kernel)
theorem dX10_way_17 : decode cX10_way 17 = .ok (.iconst (-1), 1) := dk_2 (by decide +kernel)
theorem dX10_way_18 : decode cX10_way 18 = .ok (.if_icmp .ge 5, 3) := dk_162 (x := 0) (y := 5) (by decide +kernel) rfl
theorem dX10_way_21 : decode cX10_way 21 = .ok (.iconst (-1), 1) := dk_2 (by decide +kernel)
theorem dX10_way_22 : decode cX10_way 22 = .ok (.ireturn, 1) := dk_172 (by decide +kernel)
theorem dX10_way_23 : decode cX10_way 23 = .ok (.iconst 0, 1) := dk_3 (by decide +kernel)
theorem dX10_way_24 : decode cX10_way 24 = .ok (.istore 4, 2) := dk_54 (x := 4) (by decide +kernel)
theorem dX10_way_26 : decode cX10_way 26 = .ok (.iconst 0, 1) := dk_3 (by decide +kernel)
theorem dX10_way_27 : decode cX10_way 27 = .ok (.istore 5, 2) := dk_54 (x := 5) (by decide +kernel)
theorem dX10_way_29 : decode cX10_way 29 = .ok (.iload 5, 2) := dk_21 (x := 5) (by decide +kernel)
theorem dX10_way_31 : decode cX10_way 31 = .ok (.aload_n 0, 1) := dk_42 (by decide +kernel)
theorem dX10_way_32 : decode cX10_way 32 = .ok (.getfield 7, 3) := dk_180 (x := 0) (y := 7) (by decide +kernel) rfl
theorem dX10_way_35 : decode cX10_way 35 = .ok (.sipush 850, 3) := dk_17 (x := 3) (y := 82) (by decide +kernel) rfl
theorem dX10_way_38 : decode cX10_way 38 = .ok (.iaload, 1) := dk_46 (by decide +kernel)
theorem dX10_way_39 : decode cX10_way 39 = .ok (.if_icmp .ge 59, 3) := dk_162 (x := 0) (y := 59) (by decide +kernel) rfl
theorem dX10_way_42 : decode cX10_way 42 = .ok (.aload_n 0, 1) := dk_42 (by decide +kernel)
theorem dX10_way_43 : decode cX10_way 43 = .ok (.getfield 7, 3) := dk_180 (x := 0) (y := 7) (by decide +kernel) rfl
theorem dX10_way_46 : decode cX10_way 46 = .ok (.sipush 851, 3) := dk_17 (x := 3) (y := 83) (by decide +kernel) rfl
theorem dX10_way_49 : decode cX10_way 49 = .ok (.iload 5, 2) := dk_21 (x := 5) (by decide +kernel)
theorem dX10_way_51 : decode cX10_way 51 = .ok (.iadd, 1) := dk_96 (by decide +kernel)
theorem dX10_way_52 : decode cX10_way 52 = .ok (.iaload, 1) := dk_46 (by decide +kernel)
theorem dX10_way_53 : decode cX10_way 53 = .ok (.invokestatic 140, 3) := dk_184 (x := 0) (y := 140) (by decide +kernel) rfl
theorem dX10_way_56 : decode cX10_way 56 = .ok (.bipush 16, 2) := dk_16 (x := 16) (by decide +kernel) rfl
theorem dX10_way_58 : decode cX10_way 58 = .ok (.iload_n 1, 1) := dk_27 (by decide +kernel)
theorem dX10_way_59 : decode cX10_way 59 = .ok (.imul, 1) := dk_104 (by decide +kernel)
theorem dX10_way_60 : decode cX10_way 60 = .ok (.iload_n 2, 1) := dk_28 (by decide +kernel)
theorem dX10_way_61 : decode cX10_way 61 = .ok (.iadd, 1) := dk_96 (by decide +kernel)
theorem dX10_way_62 : decode cX10_way 62 = .ok (.if_icmp .eq 6, 3) := dk_159 (x := 0) (y := 6) (by decide +kernel) rfl
theorem dX10_way_65 : decode cX10_way 65 = .ok (.goto 27, 3) := dk_167 (x := 0) (y := 27) (by decide +kernel) rfl
theorem dX10_way_68 : decode cX10_way 68 = .ok (.iload 4, 2) := dk_21 (x := 4) (by decide +kernel)
theorem dX10_way_70 : decode cX10_way 70 = .ok (.iload_n 3, 1) := dk_29 (by decide +kernel)
theorem dX10_way_71 : decode cX10_way 71 = .ok (.if_icmp .ne 18, 3) := dk_160 (x := 0) (y := 18) (by decide +kernel) rfl
theorem dX10_way_74 : decode cX10_way 74 = .ok (.aload_n 0, 1) := dk_42 (by decide +kernel)
theorem dX10_way_75 : decode cX10_way 75 = .ok (.getfield 7, 3) := dk_180 (x := 0) (y := 7) (by decide +kernel) rfl
theorem dX10_way_78 : decode cX10_way 78 = .ok (.sipush 851, 3) := dk_17 (x := 3) (y := 83) (by decide +kernel) rfl
theorem dX10_way_81 : decode cX10_way 81 = .ok (.iload 5, 2) := dk_21 (x := 5) (by decide +kernel)
theorem dX10_way_83 : decode cX10_way 83 = .ok (.iadd, 1) := dk_96 (by decide +kernel)
theorem dX10_way_84 : decode cX10_way 84 = .ok (.iaload, 1) := dk_46 (by decide +kernel)
theorem dX10_way_85 : decode cX10_way 85 = .ok (.invokestatic 241, 3) := dk_184 (x := 0) (y := 241) (by decide +kernel) rfl
theorem dX10_way_88 : decode cX10_way 88 = .ok (.ireturn, 1) := dk_172 (by decide +kernel)
theorem dX10_way_89 : decode cX10_way 89 = .ok (.iinc 4 1, 3) := dk_132 (x := 4) (y := 1) (by decide +kernel) rfl
theorem dX10_way_92 : decode cX10_way 92 = .ok (.iinc 5 1, 3) := dk_132 (x := 5) (y := 1) (by decide +kernel) rfl
theorem dX10_way_95 : decode cX10_way 95 = .ok (.goto (-66), 3) := dk_167 (x := 255) (y := 190) (by decide +kernel) rfl
theorem dX10_way_98 : decode cX10_way 98 = .ok (.iload_n 3, 1) := dk_29 (by decide +kernel)
theorem dX10_way_99 : decode cX10_way 99 = .ok (.iconst (-1), 1) := dk_2 (by decide +kernel)
theorem dX10_way_100 : decode cX10_way 100 = .ok (.if_icmp .ne 8, 3) := dk_160 (x := 0) (y := 8) (by decide +kernel) rfl
theorem dX10_way_103 : decode cX10_way 103 = .ok (.iload 4, 2) := dk_21 (x := 4) (by decide +kernel)
theorem dX10_way_105 : decode cX10_way 105 = .ok (.goto 4, 3) := dk_167 (x := 0) (y := 4) (by decide +kernel) rfl
theorem dX10_way_108 : decode cX10_way 108 = .ok (.iconst (-1), 1) := dk_2 (by decide +kernel)
theorem dX10_way_109 : decode cX10_way 109 = .ok (.ireturn, 1) := dk_172 (by decide +kernel)
def f_X10_way_29 (M : Mem) : Nat → Nat → Int32 → Int32 → Int32 → Int32 → Int32 → Option Int32
  | 0, _, _, _, _, _, _ => none
  | n + 1, v0, v1, v2, v3, v4, v5 =>
    chk (isO M 10 v0) <|
    bnd (mR M v0 0) fun o2 =>
    chk (isO M 100 o2) <|
    chk (inB (850 : Int32) (mLn M o2)) <|
    if (mI M o2 ((850 : Int32)).toNatClampNeg) ≤ v5 then (
      if v3 = (-1 : Int32) then (
        some v4
        ) else (
        some (-1 : Int32)
        )
      ) else (
      bnd (mR M v0 0) fun o10 =>
      chk (isO M 100 o10) <|
      chk (inB ((851 : Int32) + v5) (mLn M o10)) <|
      obd (f_X10_pairOf (mI M o10 (((851 : Int32) + v5)).toNatClampNeg) M) fun r15 =>
      if r15 = (((16 : Int32) * v1) + v2) then (
        if v4 = v3 then (
          bnd (mR M v0 0) fun o24 =>
          chk (isO M 100 o24) <|
          chk (inB ((851 : Int32) + v5) (mLn M o24)) <|
          obd (f_X10_kindOf (mI M o24 (((851 : Int32) + v5)).toNatClampNeg) M) fun r29 =>
          some r29
          ) else (
          bnd (v4 + (1 : Int32)) fun x20 =>
          bnd (v5 + (1 : Int32)) fun x22 =>
          f_X10_way_29 M n v0 v1 v2 v3 x20 x22
          )
        ) else (
        bnd (v5 + (1 : Int32)) fun x30 =>
        f_X10_way_29 M n v0 v1 v2 v3 v4 x30
        )
      )
def f_X10_way (n : Nat) (o : Nat) (a1 : Int32) (a2 : Int32) (a3 : Int32) (M : Mem) : Option Int32 :=
  chk (isO M 10 o) <|
  obd (f_X10_isNode o a1 M) fun r3 =>
  if r3 = 0 then (
    some (-1 : Int32)
    ) else (
    obd (f_X10_isNode o a2 M) fun r7 =>
    if r7 = 0 then (
      some (-1 : Int32)
      ) else (
      if (-1 : Int32) ≤ a3 then (
        f_X10_way_29 M n o a1 a2 a3 (0 : Int32) (0 : Int32)
        ) else (
        some (-1 : Int32)
        )
      )
    )
theorem cd_X10_way : (yX10_way.cls ≠ "java/lang/invoke/MethodHandle" ∧ yX10_way.cls ≠ "java/lang/invoke/VarHandle") ∧ (parseMethodDescriptor yX10_way.desc).map (fun d => d.parameters.length) = some 3 := ⟨⟨by decide +kernel, by decide +kernel⟩, by decide +kernel⟩
section
variable {p : Program} {l : Launch} {e : Env} {R : Room} {s : State} {m : MethodId} {args : Array Value} {below : List Frame} {meth : Method} {c : Code} {G : Gam} {M0 : Mem}
theorem l_X10_way_29 {M : Mem} {rv : Int32} (X : Cx p R s m args c G M0 cX10_way yX10_way.cls 6 2 43) (hr : meth.sig.returnType = (some .int)) (hlk : meth.locks = false) (hnm : meth.name = "way") : ∀ {n : Nat} (v0 : Nat) (v1 : Int32) (v2 : Int32) (v3 : Int32) (v4 : Int32) (v5 : Int32), f_X10_way_29 M n v0 v1 v2 v3 v4 v5 = some rv → Sg p l e R s m args below meth c (Qm below G args s (some (.int rv)) M0 M) G M0 6 29 [(0, .ref (gB G + v0)), (1, .int v1), (2, .int v2), (3, .int v3), (4, .int v4), (5, .int v5)] [] M := by
  intro n
  induction n with
  | zero => intro v0 v1 v2 v3 v4 v5 hf; exact (pk_none hf).elim
  | succ n ih =>
    intro v0 v1 v2 v3 v4 v5 hf
    rw [f_X10_way_29] at hf
    refine s_iload X 5 dX10_way_29 rfl ?_
    refine s_aload_n X 0 dX10_way_31 rfl rfl ?_
    obtain ⟨h1, hf⟩ := pk_chk hf
    obtain ⟨o2, e3, hf⟩ := pk_bnd hf
    obtain ⟨h4, hf⟩ := pk_chk hf
    refine s_getR X (ci := 10) (k := 0) rfl (Nat.le_of_ble_eq_true rfl) h1 wd1440 (fun _ _ _ => rfl) (e3 ▸ h4) dX10_way_32 (e3 ▸ ?_)
    refine s_sipush X (v := (850 : Int32)) dX10_way_35 rfl ?_
    obtain ⟨h5, hf⟩ := pk_chk hf
    refine s_iald X h4 h5 dX10_way_38 ?_
    have hs6 := pk_ite hf
    clear hf
    refine s_icmp_ge X (tgt := 98) dX10_way_39 rfl (fun c7 => ?_) (fun c7 => ?_)
    · have hf := hs6.1 c7
      refine s_iload_n X 3 dX10_way_98 rfl rfl ?_
      refine s_iconst X (v := (-1 : Int32)) dX10_way_99 rfl ?_
      have hs8 := pk_ite hf
      clear hf
      refine s_icmp_ne X (tgt := 108) dX10_way_100 rfl (fun c9 => ?_) (fun c9 => ?_)
      · have hf := hs8.2 c9
        refine s_iconst X (v := (-1 : Int32)) dX10_way_108 rfl ?_
        cases hf
        exact s_iret X hr hlk dX10_way_109
      · have hf := hs8.1 c9
        refine s_iload X 4 dX10_way_103 rfl ?_
        refine s_goto X (tgt := 109) dX10_way_105 rfl ?_
        cases hf
        exact s_iret X hr hlk dX10_way_109
    · have hf := hs6.2 c7
      refine s_aload_n X 0 dX10_way_42 rfl rfl ?_
      obtain ⟨o10, e11, hf⟩ := pk_bnd hf
      obtain ⟨h12, hf⟩ := pk_chk hf
      refine s_getR X (ci := 10) (k := 0) rfl (Nat.le_of_ble_eq_true rfl) h1 wd1440 (fun _ _ _ => rfl) (e11 ▸ h12) dX10_way_43 (e11 ▸ ?_)
      refine s_sipush X (v := (851 : Int32)) dX10_way_46 rfl ?_
      refine s_iload X 5 dX10_way_49 rfl ?_
      refine s_iadd X dX10_way_51 ?_
      obtain ⟨h13, hf⟩ := pk_chk hf
      refine s_iald X h12 h13 dX10_way_52 ?_
      obtain ⟨r15, hc14, hf⟩ := pk_obd hf
      refine s_callS X (k_X10_pairOf G hc14) wd1704 wd1705 wd1706 wd138 cd_X10_pairOf ⟨Nat.le_of_ble_eq_true rfl, Nat.le_of_ble_eq_true rfl⟩ (Nat.le_of_ble_eq_true rfl) dX10_way_53 ?_
      refine s_bipush X (v := (16 : Int32)) dX10_way_56 rfl ?_
      refine s_iload_n X 1 dX10_way_58 rfl rfl ?_
      refine s_imul X dX10_way_59 ?_
      refine s_iload_n X 2 dX10_way_60 rfl rfl ?_
      refine s_iadd X dX10_way_61 ?_
      have hs16 := pk_ite hf
      clear hf
      refine s_icmp_eq X (tgt := 68) dX10_way_62 rfl (fun c17 => ?_) (fun c17 => ?_)
      · have hf := hs16.1 c17
        refine s_iload X 4 dX10_way_68 rfl ?_
        refine s_iload_n X 3 dX10_way_70 rfl rfl ?_
        have hs18 := pk_ite hf
        clear hf
        refine s_icmp_ne X (tgt := 89) dX10_way_71 rfl (fun c19 => ?_) (fun c19 => ?_)
        · have hf := hs18.2 c19
          obtain ⟨x20, e21, hf⟩ := pk_bnd hf
          refine s_iinc X (vs' := [(0, .ref (gB G + v0)), (1, .int v1), (2, .int v2), (3, .int v3), (4, .int x20), (5, .int v5)]) 4 dX10_way_89 rfl (v := x20) e21.symm (Nat.le_of_ble_eq_true rfl) [1, 2, 3, 4, 0, 5] rfl ?_
          obtain ⟨x22, e23, hf⟩ := pk_bnd hf
          refine s_iinc X (vs' := [(0, .ref (gB G + v0)), (1, .int v1), (2, .int v2), (3, .int v3), (4, .int x20), (5, .int x22)]) 5 dX10_way_92 rfl (v := x22) e23.symm (Nat.le_of_ble_eq_true rfl) [1, 2, 3, 4, 5, 0] rfl ?_
          refine s_goto X (tgt := 29) dX10_way_95 rfl ?_
          exact ih _ _ _ _ _ _ hf
        · have hf := hs18.1 c19
          refine s_aload_n X 0 dX10_way_74 rfl rfl ?_
          obtain ⟨o24, e25, hf⟩ := pk_bnd hf
          obtain ⟨h26, hf⟩ := pk_chk hf
          refine s_getR X (ci := 10) (k := 0) rfl (Nat.le_of_ble_eq_true rfl) h1 wd1440 (fun _ _ _ => rfl) (e25 ▸ h26) dX10_way_75 (e25 ▸ ?_)
          refine s_sipush X (v := (851 : Int32)) dX10_way_78 rfl ?_
          refine s_iload X 5 dX10_way_81 rfl ?_
          refine s_iadd X dX10_way_83 ?_
          obtain ⟨h27, hf⟩ := pk_chk hf
          refine s_iald X h26 h27 dX10_way_84 ?_
          obtain ⟨r29, hc28, hf⟩ := pk_obd hf
          refine s_callS X (k_X10_kindOf G hc28) wd1743 wd1744 wd1745 wd138 cd_X10_kindOf ⟨Nat.le_of_ble_eq_true rfl, Nat.le_of_ble_eq_true rfl⟩ (Nat.le_of_ble_eq_true rfl) dX10_way_85 ?_
          cases hf
          exact s_iret X hr hlk dX10_way_88
      · have hf := hs16.2 c17
        refine s_goto X (tgt := 92) dX10_way_65 rfl ?_
        obtain ⟨x30, e31, hf⟩ := pk_bnd hf
        refine s_iinc X (vs' := [(0, .ref (gB G + v0)), (1, .int v1), (2, .int v2), (3, .int v3), (4, .int v4), (5, .int x30)]) 5 dX10_way_92 rfl (v := x30) e31.symm (Nat.le_of_ble_eq_true rfl) [1, 2, 3, 4, 5, 0] rfl ?_
        refine s_goto X (tgt := 29) dX10_way_95 rfl ?_
        exact ih _ _ _ _ _ _ hf
end
theorem k_X10_way (G : Gam) {n : Nat} {o : Nat} {a1 : Int32} {a2 : Int32} {a3 : Int32} {M : Mem} {rv : Int32} (hf : f_X10_way n o a1 a2 a3 M = some rv) : Kt yX10_way cX10_way 6 (some .int) 2 43 G [.ref (gB G + o), .int a1, .int a2, .int a3] M M (some (.int rv)) := by
  refine Kt.of (by decide) (Nat.le_of_ble_eq_true rfl) ?_
  intro p l e R s m args below meth c X hr hlk hnm
  refine s_drop [0, 1, 2, 3] (vs' := [(0, .ref (gB G + o)), (1, .int a1), (2, .int a2), (3, .int a3)]) rfl ?_
  rw [f_X10_way] at hf
  refine s_aload_n X 0 dX10_way_0 rfl rfl ?_
  refine s_iload_n X 1 dX10_way_1 rfl rfl ?_
  obtain ⟨h1, hf⟩ := pk_chk hf
  obtain ⟨r3, hc2, hf⟩ := pk_obd hf
  refine s_callV X (ci := 10) (k_X10_isNode G hc2) rfl h1 wd1554 wd1556 wd53 wd1557 wd138 cd_X10_isNode ⟨Nat.le_of_ble_eq_true rfl, Nat.le_of_ble_eq_true rfl⟩ (Nat.le_of_ble_eq_true rfl) dX10_way_2 ?_
  have hs4 := pk_ite hf
  clear hf
  refine s_if_eq X (tgt := 21) dX10_way_5 rfl (fun c5 => ?_) (fun c5 => ?_)
  · have hf := hs4.1 c5
    refine s_iconst X (v := (-1 : Int32)) dX10_way_21 rfl ?_
    cases hf
    exact s_iret X hr hlk dX10_way_22
  · have hf := hs4.2 c5
    refine s_aload_n X 0 dX10_way_8 rfl rfl ?_
    refine s_iload_n X 2 dX10_way_9 rfl rfl ?_
    obtain ⟨r7, hc6, hf⟩ := pk_obd hf
    refine s_callV X (ci := 10) (k_X10_isNode G hc6) rfl h1 wd1554 wd1556 wd53 wd1557 wd138 cd_X10_isNode ⟨Nat.le_of_ble_eq_true rfl, Nat.le_of_ble_eq_true rfl⟩ (Nat.le_of_ble_eq_true rfl) dX10_way_10 ?_
    have hs8 := pk_ite hf
    clear hf
    refine s_if_eq X (tgt := 21) dX10_way_13 rfl (fun c9 => ?_) (fun c9 => ?_)
    · have hf := hs8.1 c9
      refine s_iconst X (v := (-1 : Int32)) dX10_way_21 rfl ?_
      cases hf
      exact s_iret X hr hlk dX10_way_22
    · have hf := hs8.2 c9
      refine s_iload_n X 3 dX10_way_16 rfl rfl ?_
      refine s_iconst X (v := (-1 : Int32)) dX10_way_17 rfl ?_
      have hs10 := pk_ite hf
      clear hf
      refine s_icmp_ge X (tgt := 23) dX10_way_18 rfl (fun c11 => ?_) (fun c11 => ?_)
      · have hf := hs10.1 c11
        refine s_iconst X (v := (0 : Int32)) dX10_way_23 rfl ?_
        refine s_istore X (vs' := [(0, .ref (gB G + o)), (1, .int a1), (2, .int a2), (3, .int a3), (4, .int (0 : Int32))]) dX10_way_24 (Nat.le_of_ble_eq_true rfl) [1, 2, 3, 4, 0] rfl ?_
        refine s_iconst X (v := (0 : Int32)) dX10_way_26 rfl ?_
        refine s_istore X (vs' := [(0, .ref (gB G + o)), (1, .int a1), (2, .int a2), (3, .int a3), (4, .int (0 : Int32)), (5, .int (0 : Int32))]) dX10_way_27 (Nat.le_of_ble_eq_true rfl) [1, 2, 3, 4, 5, 0] rfl ?_
        exact l_X10_way_29 X hr hlk hnm _ _ _ _ _ _ hf
      · have hf := hs10.2 c11
        refine s_iconst X (v := (-1 : Int32)) dX10_way_21 rfl ?_
        cases hf
        exact s_iret X hr hlk dX10_way_22
theorem dX2_countMoves_0 : decode cX2_countMoves 0 = .ok (.aload_n 0, 1) := dk_42 (by decide +kernel)
theorem dX2_countMoves_1 : decode cX2_countMoves 1 = .ok (.getfield 55, 3) := dk_180 (x := 0) (y := 55) (by decide +kernel) rfl
theorem dX2_countMoves_4 : decode cX2_countMoves 4 = .ok (.invokestatic 272, 3) := dk_184 (x := 1) (y := 16) (by decide +kernel) rfl
theorem dX2_countMoves_7 : decode cX2_countMoves 7 = .ok (.istore_n 1, 1) := dk_60 (by decide +kernel)
theorem dX2_countMoves_8 : decode cX2_countMoves 8 = .ok (.iconst 0, 1) := dk_3 (by decide +kernel)
theorem dX2_countMoves_9 : decode cX2_countMoves 9 = .ok (.istore_n 2, 1) := dk_61 (by decide +kernel)
theorem dX2_countMoves_10 : decode cX2_countMoves 10 = .ok (.iload_n 2, 1) := dk_28 (by decide +kernel)
theorem dX2_countMoves_11 : decode cX2_countMoves 11 = .ok (.aload_n 0, 1) := dk_42 (by decide +kernel)
theorem dX2_countMoves_12 : decode cX2_countMoves 12 = .ok (.getfield 43, 3) := dk_180 (x := 0) (y := 43) (by decide +kernel) rfl
theorem dX2_countMoves_15 : decode cX2_countMoves 15 = .ok (.getfield 94, 3) := dk_180 (x := 0) (y := 94) (by decide +kernel) rfl
theorem dX2_countMoves_18 : decode cX2_countMoves 18 = .ok (.if_icmp .ge 24, 3) := dk_162 (x := 0) (y := 24) (by decide +kernel) rfl
theorem dX2_countMoves_21 : decode cX2_countMoves 21 = .ok (.iload_n 1, 1) := dk_27 (by decide +kernel)
theorem dX2_countMoves_22 : decode cX2_countMoves 22 = .ok (.aload_n 0, 1) := dk_42 (by decide +kernel)
theorem dX2_countMoves_23 : decode cX2_countMoves 23 = .ok (.getfield 12, 3) := dk_180 (x := 0) (y := 12) (by decide +kernel) rfl
theorem dX2_countMoves_26 : decode cX2_countMoves 26 = .ok (.getfield 287, 3) := dk_180 (x := 1) (y := 31) (by decide +kernel) rfl
theorem dX2_countMoves_29 : decode cX2_countMoves 29 = .ok (.iload_n 2, 1) := dk_28 (by decide +kernel)
theorem dX2_countMoves_30 : decode cX2_countMoves 30 = .ok (.iaload, 1) := dk_46 (by decide +kernel)
theorem dX2_countMoves_31 : decode cX2_countMoves 31 = .ok (.invokestatic 272, 3) := dk_184 (x := 1) (y := 16) (by decide +kernel) rfl
theorem dX2_countMoves_34 : decode cX2_countMoves 34 = .ok (.iadd, 1) := dk_96 (by decide +kernel)
theorem dX2_countMoves_35 : decode cX2_countMoves 35 = .ok (.istore_n 1, 1) := dk_60 (by decide +kernel)
theorem dX2_countMoves_36 : decode cX2_countMoves 36 = .ok (.iinc 2 1, 3) := dk_132 (x := 2) (y := 1) (by decide +kernel) rfl
theorem dX2_countMoves_39 : decode cX2_countMoves 39 = .ok (.goto (-29), 3) := dk_167 (x := 255) (y := 227) (by decide +kernel) rfl
theorem dX2_countMoves_42 : decode cX2_countMoves 42 = .ok (.iload_n 1, 1) := dk_27 (by decide +kernel)
theorem dX2_countMoves_43 : decode cX2_countMoves 43 = .ok (.ireturn, 1) := dk_172 (by decide +kernel)
def f_X2_countMoves_10 (M : Mem) : Nat → Nat → Int32 → Int32 → Option Int32
  | 0, _, _, _ => none
  | n + 1, v0, v1, v2 =>
    chk (isO M 2 v0) <|
    bnd (mR M v0 0) fun o2 =>
    chk (isO M 7 o2) <|
    if (mI M o2 3) ≤ v2 then (
      some v1
      ) else (
      bnd (mR M v0 1) fun o7 =>
      chk (isO M 5 o7) <|
      bnd (mR M o7 3) fun o10 =>
      chk (isO M 100 o10) <|
      chk (inB v2 (mLn M o10)) <|
      obd (f_J6_bitCount_0f7a4 (mI M o10 (v2).toNatClampNeg) M) fun r15 =>
      bnd (v1 + r15) fun x16 =>
      bnd (v2 + (1 : Int32)) fun x18 =>
      f_X2_countMoves_10 M n v0 x16 x18
      )
def f_X2_countMoves (n : Nat) (o : Nat) (M : Mem) : Option Int32 :=
  chk (isO M 2 o) <|
  obd (f_J6_bitCount_0f7a4 (mI M o 7) M) fun r3 =>
  f_X2_countMoves_10 M n o r3 (0 : Int32)
theorem cd_X2_countMoves : (yX2_countMoves.cls ≠ "java/lang/invoke/MethodHandle" ∧ yX2_countMoves.cls ≠ "java/lang/invoke/VarHandle") ∧ (parseMethodDescriptor yX2_countMoves.desc).map (fun d => d.parameters.length) = some 0 := ⟨⟨by decide +kernel, by decide +kernel⟩, by decide +kernel⟩
section
variable {p : Program} {l : Launch} {e : Env} {R : Room} {s : State} {m : MethodId} {args : Array Value} {below : List Frame} {meth : Method} {c : Code} {G : Gam} {M0 : Mem}
theorem l_X2_countMoves_10 {M : Mem} {rv : Int32} (X : Cx p R s m args c G M0 cX2_countMoves yX2_countMoves.cls 3 1 20) (hr : meth.sig.returnType = (some .int)) (hlk : meth.locks = false) (hnm : meth.name = "countMoves") : ∀ {n : Nat} (v0 : Nat) (v1 : Int32) (v2 : Int32), f_X2_countMoves_10 M n v0 v1 v2 = some rv → Sg p l e R s m args below meth c (Qm below G args s (some (.int rv)) M0 M) G M0 3 10 [(0, .ref (gB G + v0)), (1, .int v1), (2, .int v2)] [] M := by
  intro n
  induction n with
  | zero => intro v0 v1 v2 hf; exact (pk_none hf).elim
  | succ n ih =>
    intro v0 v1 v2 hf
    rw [f_X2_countMoves_10] at hf
    refine s_iload_n X 2 dX2_countMoves_10 rfl rfl ?_
    refine s_aload_n X 0 dX2_countMoves_11 rfl rfl ?_
    obtain ⟨h1, hf⟩ := pk_chk hf
    obtain ⟨o2, e3, hf⟩ := pk_bnd hf
    obtain ⟨h4, hf⟩ := pk_chk hf
    refine s_getR X (ci := 2) (k := 0) rfl (Nat.le_of_ble_eq_true rfl) h1 wd416 (fun _ _ _ => rfl) (e3 ▸ h4) dX2_countMoves_12 (e3 ▸ ?_)
    refine s_getI X (ci := 7) (k := 3) rfl (Nat.le_of_ble_eq_true rfl) h4 wd166 (fun _ _ _ => rfl) dX2_countMoves_15 ?_
    have hs5 := pk_ite hf
    clear hf
    refine s_icmp_ge X (tgt := 42) dX2_countMoves_18 rfl (fun c6 => ?_) (fun c6 => ?_)
    · have hf := hs5.1 c6
      refine s_iload_n X 1 dX2_countMoves_42 rfl rfl ?_
      cases hf
      exact s_iret X hr hlk dX2_countMoves_43
    · have hf := hs5.2 c6
      refine s_iload_n X 1 dX2_countMoves_21 rfl rfl ?_
      refine s_aload_n X 0 dX2_countMoves_22 rfl rfl ?_
      obtain ⟨o7, e8, hf⟩ := pk_bnd hf
      obtain ⟨h9, hf⟩ := pk_chk hf
      refine s_getR X (ci := 2) (k := 1) rfl (Nat.le_of_ble_eq_true rfl) h1 wd419 (fun _ _ _ => rfl) (e8 ▸ h9) dX2_countMoves_23 (e8 ▸ ?_)
      obtain ⟨o10, e11, hf⟩ := pk_bnd hf
      obtain ⟨h12, hf⟩ := pk_chk hf
      refine s_getR X (ci := 5) (k := 3) rfl (Nat.le_of_ble_eq_true rfl) h9 wd256 (fun _ _ _ => rfl) (e11 ▸ h12) dX2_countMoves_26 (e11 ▸ ?_)
      refine s_iload_n X 2 dX2_countMoves_29 rfl rfl ?_
      obtain ⟨h13, hf⟩ := pk_chk hf
      refine s_iald X h12 h13 dX2_countMoves_30 ?_
      obtain ⟨r15, hc14, hf⟩ := pk_obd hf
      refine s_callS X (k_J6_bitCount_0f7a4 G hc14) wd1039 wd831 wd832 wd141 cd_J6_bitCount_0f7a4 ⟨Nat.le_of_ble_eq_true rfl, Nat.le_of_ble_eq_true rfl⟩ (Nat.le_of_ble_eq_true rfl) dX2_countMoves_31 ?_
      refine s_iadd X dX2_countMoves_34 ?_
      obtain ⟨x16, e17, hf⟩ := pk_bnd hf
      refine s_nmI e17 ?_
      refine s_istore_n X (vs' := [(0, .ref (gB G + v0)), (1, .int x16), (2, .int v2)]) dX2_countMoves_35 rfl (Nat.le_of_ble_eq_true rfl) [1, 0, 2] rfl ?_
      obtain ⟨x18, e19, hf⟩ := pk_bnd hf
      refine s_iinc X (vs' := [(0, .ref (gB G + v0)), (1, .int x16), (2, .int x18)]) 2 dX2_countMoves_36 rfl (v := x18) e19.symm (Nat.le_of_ble_eq_true rfl) [1, 2, 0] rfl ?_
      refine s_goto X (tgt := 10) dX2_countMoves_39 rfl ?_
      exact ih _ _ _ hf
end
theorem k_X2_countMoves (G : Gam) {n : Nat} {o : Nat} {M : Mem} {rv : Int32} (hf : f_X2_countMoves n o M = some rv) : Kt yX2_countMoves cX2_countMoves 3 (some .int) 1 20 G [.ref (gB G + o)] M M (some (.int rv)) := by
  refine Kt.of (by decide) (Nat.le_of_ble_eq_true rfl) ?_
  intro p l e R s m args below meth c X hr hlk hnm
  refine s_drop [0] (vs' := [(0, .ref (gB G + o))]) rfl ?_
  rw [f_X2_countMoves] at hf
  refine s_aload_n X 0 dX2_countMoves_0 rfl rfl ?_
  obtain ⟨h1, hf⟩ := pk_chk hf
  refine s_getI X (ci := 2) (k := 7) rfl (Nat.le_of_ble_eq_true rfl) h1 wd434 (fun _ _ _ => rfl) dX2_countMoves_1 ?_
  obtain ⟨r3, hc2, hf⟩ := pk_obd hf
  refine s_callS X (k_J6_bitCount_0f7a4 G hc2) wd1039 wd831 wd832 wd141 cd_J6_bitCount_0f7a4 ⟨Nat.le_of_ble_eq_true rfl, Nat.le_of_ble_eq_true rfl⟩ (Nat.le_of_ble_eq_true rfl) dX2_countMoves_4 ?_
  refine s_istore_n X (vs' := [(0, .ref (gB G + o)), (1, .int r3)]) dX2_countMoves_7 rfl (Nat.le_of_ble_eq_true rfl) [1, 0] rfl ?_
  refine s_iconst X (v := (0 : Int32)) dX2_countMoves_8 rfl ?_
  refine s_istore_n X (vs' := [(0, .ref (gB G + o)), (1, .int r3), (2, .int (0 : Int32))]) dX2_countMoves_9 rfl (Nat.le_of_ble_eq_true rfl) [1, 2, 0] rfl ?_
  exact l_X2_countMoves_10 X hr hlk hnm _ _ _ hf
theorem dX2_awaitedBy_0 : decode cX2_awaitedBy 0 = .ok (.aload_n 0, 1) := dk_42 (by decide +kernel)
theorem dX2_awaitedBy_1 : decode cX2_awaitedBy 1 = .ok (.getfield 20, 3) := dk_180 (x := 0) (y := 20) (by decide +kernel) rfl
theorem dX2_awaitedBy_4 : decode cX2_awaitedBy 4 = .ok (.iload_n 1, 1) := dk_27 (by decide +kernel)
theorem dX2_awaitedBy_5 : decode cX2_awaitedBy 5 = .ok (.aaload, 1) := dk_50 (by decide +kernel)
theorem dX2_awaitedBy_6 : decode cX2_awaitedBy 6 = .ok (.astore_n 2, 1) := dk_77 (by decide +kernel)
theorem dX2_awaitedBy_7 : decode cX2_awaitedBy 7 = .ok (.iconst 0, 1) := dk_3 (by decide +kernel)
theorem dX2_awaitedBy_8 : decode cX2_awaitedBy 8 = .ok (.istore_n 3, 1) := dk_62 (by decide +kernel)
theorem dX2_awaitedBy_9 : decode cX2_awaitedBy 9 = .ok (.iconst 0, 1) := dk_3 (by decide +kernel)
theorem dX2_awaitedBy_10 : decode cX2_awaitedBy 10 = .ok (.istore 4, 2) := dk_54 (x := 4) (by decide +kernel)
theorem dX2_awaitedBy_12 : decode cX2_awaitedBy 12 = .ok (.iload 4, 2) := dk_21 (x := 4) (by decide +kernel)
theorem dX2_awaitedBy_14 : decode cX2_awaitedBy 14 = .ok (.aload_n 0, 1) := dk_42 (by decide +kernel)
theorem dX2_awaitedBy_15 : decode cX2_awaitedBy 15 = .ok (.getfield 43, 3) := dk_180 (x := 0) (y := 43) (by decide +kernel) rfl
theorem dX2_awaitedBy_18 : decode cX2_awaitedBy 18 = .ok (.getfield 94, 3) := dk_180 (x := 0) (y := 94) (by decide +kernel) rfl
theorem dX2_awaitedBy_21 : decode cX2_awaitedBy 21 = .ok (.if_icmp .ge 57, 3) := dk_162 (x := 0) (y := 57) (by decide +kernel) rfl
theorem dX2_awaitedBy_24 : decode cX2_awaitedBy 24 = .ok (.aload_n 2, 1) := dk_44 (by decide +kernel)
theorem dX2_awaitedBy_25 : decode cX2_awaitedBy 25 = .ok (.getfield 124, 3) := dk_180 (x := 0) (y := 124) (by decide +kernel) rfl
theorem dX2_awaitedBy_28 : decode cX2_awaitedBy 28 = .ok (.aload_n 2, 1) := dk_44 (by decide +kernel)
theorem dX2_awaitedBy_29 : decode cX2_awaitedBy 29 = .ok (.getfield 247, 3) := dk_180 (x := 0) (y := 247) (by decide +kernel) rfl
theorem dX2_awaitedBy_32 : decode cX2_awaitedBy 32 = .ok (.iconst (-1), 1) := dk_2 (by decide +kernel)
theorem dX2_awaitedBy_33 : decode cX2_awaitedBy 33 = .ok (.ixor, 1) := dk_130 (by decide +kernel)
theorem dX2_awaitedBy_34 : decode cX2_awaitedBy 34 = .ok (.iand, 1) := dk_126 (by decide +kernel)
theorem dX2_awaitedBy_35 : decode cX2_awaitedBy 35 = .ok (.iload 4, 2) := dk_21 (x := 4) (by decide +kernel)
theorem dX2_awaitedBy_37 : decode cX2_awaitedBy 37 = .ok (.invokestatic 108, 3) := dk_184 (x := 0) (y := 108) (by decide +kernel) rfl
theorem dX2_awaitedBy_40 : decode cX2_awaitedBy 40 = .ok (.ifCond .eq 32, 3) := dk_153 (x := 0) (y := 32) (by decide +kernel) rfl
theorem dX2_awaitedBy_43 : decode cX2_awaitedBy 43 = .ok (.aload_n 0, 1) := dk_42 (by decide +kernel)
theorem dX2_awaitedBy_44 : decode cX2_awaitedBy 44 = .ok (.getfield 20, 3) := dk_180 (x := 0) (y := 20) (by decide +kernel) rfl
theorem dX2_awaitedBy_47 : decode cX2_awaitedBy 47 = .ok (.iload 4, 2) := dk_21 (x := 4) (by decide +kernel)
theorem dX2_awaitedBy_49 : decode cX2_awaitedBy 49 = .ok (.aaload, 1) := dk_50 (by decide +kernel)
theorem dX2_awaitedBy_50 : decode cX2_awaitedBy 50 = .ok (.getfield 170, 3) := dk_180 (x := 0) (y := 170) (by decide +kernel) rfl
theorem dX2_awaitedBy_53 : decode cX2_awaitedBy 53 = .ok (.iconst (-1), 1) := dk_2 (by decide +kernel)
theorem dX2_awaitedBy_54 : decode cX2_awaitedBy 54 = .ok (.if_icmp .eq 18, 3) := dk_159 (x := 0) (y := 18) (by decide +kernel) rfl
theorem dX2_awaitedBy_57 : decode cX2_awaitedBy 57 = .ok (.iload_n 3, 1) := dk_29 (by decide +kernel)
theorem dX2_awaitedBy_58 : decode cX2_awaitedBy 58 = .ok (.iconst 1, 1) := dk_4 (by decide +kernel)
theorem dX2_awaitedBy_59 : decode cX2_awaitedBy 59 = .ok (.aload_n 0, 1) := dk_42 (by decide +kernel)
theorem dX2_awaitedBy_60 : decode cX2_awaitedBy 60 = .ok (.getfield 20, 3) := dk_180 (x := 0) (y := 20) (by decide +kernel) rfl
theorem dX2_awaitedBy_63 : decode cX2_awaitedBy 63 = .ok (.iload 4, 2) := dk_21 (x := 4) (by decide +kernel)
theorem dX2_awaitedBy_65 : decode cX2_awaitedBy 65 = .ok (.aaload, 1) := dk_50 (by decide +kernel)
theorem dX2_awaitedBy_66 : decode cX2_awaitedBy 66 = .ok (.getfield 170, 3) := dk_180 (x := 0) (y := 170) (by decide +kernel) rfl
theorem dX2_awaitedBy_69 : decode cX2_awaitedBy 69 = .ok (.ishl, 1) := dk_120 (by decide +kernel)
theorem dX2_awaitedBy_70 : decode cX2_awaitedBy 70 = .ok (.ior, 1) := dk_128 (by decide +kernel)
theorem dX2_awaitedBy_71 : decode cX2_awaitedBy 71 = .ok (.istore_n 3, 1) := dk_62 (by decide +kernel)
theorem dX2_awaitedBy_72 : decode cX2_awaitedBy 72 = .ok (.iinc 4 1, 3) := dk_132 (x := 4) (y := 1) (by decide +kernel) rfl
theorem dX2_awaitedBy_75 : decode cX2_awaitedBy 75 = .ok (.goto (-63), 3) := dk_167 (x := 255) (y := 193) (by decide +kernel) rfl
theorem dX2_awaitedBy_78 : decode cX2_awaitedBy 78 = .ok (.iload_n 3, 1) := dk_29 (by decide +kernel)
theorem dX2_awaitedBy_79 : decode cX2_awaitedBy 79 = .ok (.iconst 1, 1) := dk_4 (by decide +kernel)
theorem dX2_awaitedBy_80 : decode cX2_awaitedBy 80 = .ok (.iload_n 1, 1) := dk_27 (by decide +kernel)
theorem dX2_awaitedBy_81 : decode cX2_awaitedBy 81 = .ok (.ishl, 1) := dk_120 (by decide +kernel)
theorem dX2_awaitedBy_82 : decode cX2_awaitedBy 82 = .ok (.iconst (-1), 1) := dk_2 (by decide +kernel)
theorem dX2_awaitedBy_83 : decode cX2_awaitedBy 83 = .ok (.ixor, 1) := dk_130 (by decide +kernel)
theorem dX2_awaitedBy_84 : decode cX2_awaitedBy 84 = .ok (.iand, 1) := dk_126 (by decide +kernel)
theorem dX2_awaitedBy_85 : decode cX2_awaitedBy 85 = .ok (.ireturn, 1) := dk_172 (by decide +kernel)
def f_X2_awaitedBy_12 (M : Mem) : Nat → Nat → Int32 → Nat → Int32 → Int32 → Option Int32
  | 0, _, _, _, _, _ => none
  | n + 1, v0, v1, v2, v3, v4 =>
    chk (isO M 2 v0) <|
    bnd (mR M v0 0) fun o2 =>
    chk (isO M 7 o2) <|
    if (mI M o2 3) ≤ v4 then (
      some (v3 &&& (((1 : Int32) <<< (v1 &&& 31)) ^^^ (-1 : Int32)))
      ) else (
      chk (isO M 4 v2) <|
      obd (f_X9_has ((mI M v2 2) &&& ((mI M v2 3) ^^^ (-1 : Int32))) v4 M) fun r9 =>
      if r9 = 0 then (
        bnd (v4 + (1 : Int32)) fun x12 =>
        f_X2_awaitedBy_12 M n v0 v1 v2 v3 x12
        ) else (
        bnd (mR M v0 2) fun o14 =>
        chk (isO M 102 o14) <|
        chk (inB v4 (mLn M o14)) <|
        bnd (mR M o14 (v4).toNatClampNeg) fun o18 =>
        chk (isO M 4 o18) <|
        if (mI M o18 6) = (-1 : Int32) then (
          bnd (v4 + (1 : Int32)) fun x23 =>
          f_X2_awaitedBy_12 M n v0 v1 v2 v3 x23
          ) else (
          bnd (mR M v0 2) fun o25 =>
          chk (isO M 102 o25) <|
          chk (inB v4 (mLn M o25)) <|
          bnd (mR M o25 (v4).toNatClampNeg) fun o29 =>
          chk (isO M 4 o29) <|
          bnd (v3 ||| ((1 : Int32) <<< ((mI M o29 6) &&& 31))) fun x32 =>
          bnd (v4 + (1 : Int32)) fun x34 =>
          f_X2_awaitedBy_12 M n v0 v1 v2 x32 x34
          )
        )
      )
def f_X2_awaitedBy (n : Nat) (o : Nat) (a1 : Int32) (M : Mem) : Option Int32 :=
  chk (isO M 2 o) <|
  bnd (mR M o 2) fun o2 =>
  chk (isO M 102 o2) <|
  chk (inB a1 (mLn M o2)) <|
  bnd (mR M o2 (a1).toNatClampNeg) fun o6 =>
  chk (isO M 4 o6) <|
  f_X2_awaitedBy_12 M n o a1 o6 (0 : Int32) (0 : Int32)
theorem cd_X2_awaitedBy : (yX2_awaitedBy.cls ≠ "java/lang/invoke/MethodHandle" ∧ yX2_awaitedBy.cls ≠ "java/lang/invoke/VarHandle") ∧ (parseMethodDescriptor yX2_awaitedBy.desc).map (fun d => d.parameters.length) = some 1 := ⟨⟨by decide +kernel, by decide +kernel⟩, by decide +kernel⟩
section
variable {p : Program} {l : Launch} {e : Env} {R : Room} {s : State} {m : MethodId} {args : Array Value} {below : List Frame} {meth : Method} {c : Code} {G : Gam} {M0 : Mem}
theorem l_X2_awaitedBy_12 {M : Mem} {rv : Int32} (X : Cx p R s m args c G M0 cX2_awaitedBy yX2_awaitedBy.cls 5 1 21) (hr : meth.sig.returnType = (some .int)) (hlk : meth.locks = false) (hnm : meth.name = "awaitedBy") : ∀ {n : Nat} (v0 : Nat) (v1 : Int32) (v2 : Nat) (v3 : Int32) (v4 : Int32), f_X2_awaitedBy_12 M n v0 v1 v2 v3 v4 = some rv → Sg p l e R s m args below meth c (Qm below G args s (some (.int rv)) M0 M) G M0 5 12 [(0, .ref (gB G + v0)), (1, .int v1), (2, .ref (gB G + v2)), (3, .int v3), (4, .int v4)] [] M := by
  intro n
  induction n with
  | zero => intro v0 v1 v2 v3 v4 hf; exact (pk_none hf).elim
  | succ n ih =>
    intro v0 v1 v2 v3 v4 hf
    rw [f_X2_awaitedBy_12] at hf
    refine s_iload X 4 dX2_awaitedBy_12 rfl ?_
    refine s_aload_n X 0 dX2_awaitedBy_14 rfl rfl ?_
    obtain ⟨h1, hf⟩ := pk_chk hf
    obtain ⟨o2, e3, hf⟩ := pk_bnd hf
    obtain ⟨h4, hf⟩ := pk_chk hf
    refine s_getR X (ci := 2) (k := 0) rfl (Nat.le_of_ble_eq_true rfl) h1 wd416 (fun _ _ _ => rfl) (e3 ▸ h4) dX2_awaitedBy_15 (e3 ▸ ?_)
    refine s_getI X (ci := 7) (k := 3) rfl (Nat.le_of_ble_eq_true rfl) h4 wd166 (fun _ _ _ => rfl) dX2_awaitedBy_18 ?_
    have hs5 := pk_ite hf
    clear hf
    refine s_icmp_ge X (tgt := 78) dX2_awaitedBy_21 rfl (fun c6 => ?_) (fun c6 => ?_)
    · have hf := hs5.1 c6
      refine s_iload_n X 3 dX2_awaitedBy_78 rfl rfl ?_
      refine s_iconst X (v := (1 : Int32)) dX2_awaitedBy_79 rfl ?_
      refine s_iload_n X 1 dX2_awaitedBy_80 rfl rfl ?_
      refine s_ishl X dX2_awaitedBy_81 ?_
      refine s_iconst X (v := (-1 : Int32)) dX2_awaitedBy_82 rfl ?_
      refine s_ixor X dX2_awaitedBy_83 ?_
      refine s_iand X dX2_awaitedBy_84 ?_
      cases hf
      exact s_iret X hr hlk dX2_awaitedBy_85
    · have hf := hs5.2 c6
      refine s_aload_n X 2 dX2_awaitedBy_24 rfl rfl ?_
      obtain ⟨h7, hf⟩ := pk_chk hf
      refine s_getI X (ci := 4) (k := 2) rfl (Nat.le_of_ble_eq_true rfl) h7 wd334 (fun _ _ _ => rfl) dX2_awaitedBy_25 ?_
      refine s_aload_n X 2 dX2_awaitedBy_28 rfl rfl ?_
      refine s_getI X (ci := 4) (k := 3) rfl (Nat.le_of_ble_eq_true rfl) h7 wd339 (fun _ _ _ => rfl) dX2_awaitedBy_29 ?_
      refine s_iconst X (v := (-1 : Int32)) dX2_awaitedBy_32 rfl ?_
      refine s_ixor X dX2_awaitedBy_33 ?_
      refine s_iand X dX2_awaitedBy_34 ?_
      refine s_iload X 4 dX2_awaitedBy_35 rfl ?_
      obtain ⟨r9, hc8, hf⟩ := pk_obd hf
      refine s_callSN X (k_X9_has G hc8) (host := "QuorumGate") ns_8 wd712 wd713 wd126 cd_X9_has ⟨Nat.le_of_ble_eq_true rfl, Nat.le_of_ble_eq_true rfl⟩ (Nat.le_of_ble_eq_true rfl) dX2_awaitedBy_37 ?_
      have hs10 := pk_ite hf
      clear hf
      refine s_if_eq X (tgt := 72) dX2_awaitedBy_40 rfl (fun c11 => ?_) (fun c11 => ?_)
      · have hf := hs10.1 c11
        obtain ⟨x12, e13, hf⟩ := pk_bnd hf
        refine s_iinc X (vs' := [(0, .ref (gB G + v0)), (1, .int v1), (2, .ref (gB G + v2)), (3, .int v3), (4, .int x12)]) 4 dX2_awaitedBy_72 rfl (v := x12) e13.symm (Nat.le_of_ble_eq_true rfl) [1, 2, 3, 4, 0] rfl ?_
        refine s_goto X (tgt := 12) dX2_awaitedBy_75 rfl ?_
        exact ih _ _ _ _ _ hf
      · have hf := hs10.2 c11
        refine s_aload_n X 0 dX2_awaitedBy_43 rfl rfl ?_
        obtain ⟨o14, e15, hf⟩ := pk_bnd hf
        obtain ⟨h16, hf⟩ := pk_chk hf
        refine s_getR X (ci := 2) (k := 2) rfl (Nat.le_of_ble_eq_true rfl) h1 wd423 (fun _ _ _ => rfl) (e15 ▸ h16) dX2_awaitedBy_44 (e15 ▸ ?_)
        refine s_iload X 4 dX2_awaitedBy_47 rfl ?_
        obtain ⟨h17, hf⟩ := pk_chk hf
        obtain ⟨o18, e19, hf⟩ := pk_bnd hf
        obtain ⟨h20, hf⟩ := pk_chk hf
        refine s_aald X h16 h17 (e19 ▸ h20) dX2_awaitedBy_49 (e19 ▸ ?_)
        refine s_getI X (ci := 4) (k := 6) rfl (Nat.le_of_ble_eq_true rfl) h20 wd351 (fun _ _ _ => rfl) dX2_awaitedBy_50 ?_
        refine s_iconst X (v := (-1 : Int32)) dX2_awaitedBy_53 rfl ?_
        have hs21 := pk_ite hf
        clear hf
        refine s_icmp_eq X (tgt := 72) dX2_awaitedBy_54 rfl (fun c22 => ?_) (fun c22 => ?_)
        · have hf := hs21.1 c22
          obtain ⟨x23, e24, hf⟩ := pk_bnd hf
          refine s_iinc X (vs' := [(0, .ref (gB G + v0)), (1, .int v1), (2, .ref (gB G + v2)), (3, .int v3), (4, .int x23)]) 4 dX2_awaitedBy_72 rfl (v := x23) e24.symm (Nat.le_of_ble_eq_true rfl) [1, 2, 3, 4, 0] rfl ?_
          refine s_goto X (tgt := 12) dX2_awaitedBy_75 rfl ?_
          exact ih _ _ _ _ _ hf
        · have hf := hs21.2 c22
          refine s_iload_n X 3 dX2_awaitedBy_57 rfl rfl ?_
          refine s_iconst X (v := (1 : Int32)) dX2_awaitedBy_58 rfl ?_
          refine s_aload_n X 0 dX2_awaitedBy_59 rfl rfl ?_
          obtain ⟨o25, e26, hf⟩ := pk_bnd hf
          obtain ⟨h27, hf⟩ := pk_chk hf
          refine s_getR X (ci := 2) (k := 2) rfl (Nat.le_of_ble_eq_true rfl) h1 wd423 (fun _ _ _ => rfl) (e26 ▸ h27) dX2_awaitedBy_60 (e26 ▸ ?_)
          refine s_iload X 4 dX2_awaitedBy_63 rfl ?_
          obtain ⟨h28, hf⟩ := pk_chk hf
          obtain ⟨o29, e30, hf⟩ := pk_bnd hf
          obtain ⟨h31, hf⟩ := pk_chk hf
          refine s_aald X h27 h28 (e30 ▸ h31) dX2_awaitedBy_65 (e30 ▸ ?_)
          refine s_getI X (ci := 4) (k := 6) rfl (Nat.le_of_ble_eq_true rfl) h31 wd351 (fun _ _ _ => rfl) dX2_awaitedBy_66 ?_
          refine s_ishl X dX2_awaitedBy_69 ?_
          refine s_ior X dX2_awaitedBy_70 ?_
          obtain ⟨x32, e33, hf⟩ := pk_bnd hf
          refine s_nmI e33 ?_
          refine s_istore_n X (vs' := [(0, .ref (gB G + v0)), (1, .int v1), (2, .ref (gB G + v2)), (3, .int x32), (4, .int v4)]) dX2_awaitedBy_71 rfl (Nat.le_of_ble_eq_true rfl) [1, 2, 3, 0, 4] rfl ?_
          obtain ⟨x34, e35, hf⟩ := pk_bnd hf
          refine s_iinc X (vs' := [(0, .ref (gB G + v0)), (1, .int v1), (2, .ref (gB G + v2)), (3, .int x32), (4, .int x34)]) 4 dX2_awaitedBy_72 rfl (v := x34) e35.symm (Nat.le_of_ble_eq_true rfl) [1, 2, 3, 4, 0] rfl ?_
          refine s_goto X (tgt := 12) dX2_awaitedBy_75 rfl ?_
          exact ih _ _ _ _ _ hf
end
theorem k_X2_awaitedBy (G : Gam) {n : Nat} {o : Nat} {a1 : Int32} {M : Mem} {rv : Int32} (hf : f_X2_awaitedBy n o a1 M = some rv) : Kt yX2_awaitedBy cX2_awaitedBy 5 (some .int) 1 21 G [.ref (gB G + o), .int a1] M M (some (.int rv)) := by
  refine Kt.of (by decide) (Nat.le_of_ble_eq_true rfl) ?_
  intro p l e R s m args below meth c X hr hlk hnm
  refine s_drop [0, 1] (vs' := [(0, .ref (gB G + o)), (1, .int a1)]) rfl ?_
  rw [f_X2_awaitedBy] at hf
  refine s_aload_n X 0 dX2_awaitedBy_0 rfl rfl ?_
  obtain ⟨h1, hf⟩ := pk_chk hf
  obtain ⟨o2, e3, hf⟩ := pk_bnd hf
  obtain ⟨h4, hf⟩ := pk_chk hf
  refine s_getR X (ci := 2) (k := 2) rfl (Nat.le_of_ble_eq_true rfl) h1 wd423 (fun _ _ _ => rfl) (e3 ▸ h4) dX2_awaitedBy_1 (e3 ▸ ?_)
  refine s_iload_n X 1 dX2_awaitedBy_4 rfl rfl ?_
  obtain ⟨h5, hf⟩ := pk_chk hf
  obtain ⟨o6, e7, hf⟩ := pk_bnd hf
  obtain ⟨h8, hf⟩ := pk_chk hf
  refine s_aald X h4 h5 (e7 ▸ h8) dX2_awaitedBy_5 (e7 ▸ ?_)
  refine s_astore_n X (vs' := [(0, .ref (gB G + o)), (1, .int a1), (2, .ref (gB G + o6))]) dX2_awaitedBy_6 rfl (Nat.le_of_ble_eq_true rfl) [1, 2, 0] rfl ?_
  refine s_iconst X (v := (0 : Int32)) dX2_awaitedBy_7 rfl ?_
  refine s_istore_n X (vs' := [(0, .ref (gB G + o)), (1, .int a1), (2, .ref (gB G + o6)), (3, .int (0 : Int32))]) dX2_awaitedBy_8 rfl (Nat.le_of_ble_eq_true rfl) [1, 2, 3, 0] rfl ?_
  refine s_iconst X (v := (0 : Int32)) dX2_awaitedBy_9 rfl ?_
  refine s_istore X (vs' := [(0, .ref (gB G + o)), (1, .int a1), (2, .ref (gB G + o6)), (3, .int (0 : Int32)), (4, .int (0 : Int32))]) dX2_awaitedBy_10 (Nat.le_of_ble_eq_true rfl) [1, 2, 3, 4, 0] rfl ?_
  exact l_X2_awaitedBy_12 X hr hlk hnm _ _ _ _ _ hf
theorem dX2_round_0 : decode cX2_round 0 = .ok (.iconst 0, 1) := dk_3 (by decide +kernel)
theorem dX2_round_1 : decode cX2_round 1 = .ok (.istore_n 1, 1) := dk_60 (by decide +kernel)
theorem dX2_round_2 : decode cX2_round 2 = .ok (.iload_n 1, 1) := dk_27 (by decide +kernel)
theorem dX2_round_3 : decode cX2_round 3 = .ok (.aload_n 0, 1) := dk_42 (by decide +kernel)
theorem dX2_round_4 : decode cX2_round 4 = .ok (.getfield 43, 3) := dk_180 (x := 0) (y := 43) (by decide +kernel) rfl
theorem dX2_round_7 : decode cX2_round 7 = .ok (.getfield 94, 3) := dk_180 (x := 0) (y := 94) (by decide +kernel) rfl
theorem dX2_round_10 : decode cX2_round 10 = .ok (.if_icmp .ge 35, 3) := dk_162 (x := 0) (y := 35) (by decide +kernel) rfl
theorem dX2_round_13 : decode cX2_round 13 = .ok (.aload_n 0, 1) := dk_42 (by decide +kernel)
theorem dX2_round_14 : decode cX2_round 14 = .ok (.getfield 40, 3) := dk_180 (x := 0) (y := 40) (by decide +kernel) rfl
theorem dX2_round_17 : decode cX2_round 17 = .ok (.iload_n 1, 1) := dk_27 (by decide +kernel)
theorem dX2_round_18 : decode cX2_round 18 = .ok (.aload_n 0, 1) := dk_42 (by decide +kernel)
theorem dX2_round_19 : decode cX2_round 19 = .ok (.getfield 59, 3) := dk_180 (x := 0) (y := 59) (by decide +kernel) rfl
theorem dX2_round_22 : decode cX2_round 22 = .ok (.iload_n 1, 1) := dk_27 (by decide +kernel)
theorem dX2_round_23 : decode cX2_round 23 = .ok (.invokestatic 108, 3) := dk_184 (x := 0) (y := 108) (by decide +kernel) rfl
theorem dX2_round_26 : decode cX2_round 26 = .ok (.ifCond .eq 11, 3) := dk_153 (x := 0) (y := 11) (by decide +kernel) rfl
theorem dX2_round_29 : decode cX2_round 29 = .ok (.aload_n 0, 1) := dk_42 (by decide +kernel)
theorem dX2_round_30 : decode cX2_round 30 = .ok (.iload_n 1, 1) := dk_27 (by decide +kernel)
theorem dX2_round_31 : decode cX2_round 31 = .ok (.invokevirtual 284, 3) := dk_182 (x := 1) (y := 28) (by decide +kernel) rfl
theorem dX2_round_34 : decode cX2_round 34 = .ok (.goto 4, 3) := dk_167 (x := 0) (y := 4) (by decide +kernel) rfl
theorem dX2_round_37 : decode cX2_round 37 = .ok (.iconst 0, 1) := dk_3 (by decide +kernel)
theorem dX2_round_38 : decode cX2_round 38 = .ok (.iastore, 1) := dk_79 (by decide +kernel)
theorem dX2_round_39 : decode cX2_round 39 = .ok (.iinc 1 1, 3) := dk_132 (x := 1) (y := 1) (by decide +kernel) rfl
theorem dX2_round_42 : decode cX2_round 42 = .ok (.goto (-40), 3) := dk_167 (x := 255) (y := 216) (by decide +kernel) rfl
theorem dX2_round_45 : decode cX2_round 45 = .ok (.iconst 0, 1) := dk_3 (by decide +kernel)
theorem dX2_round_46 : decode cX2_round 46 = .ok (.istore_n 1, 1) := dk_60 (by decide +kernel)
theorem dX2_round_47 : decode cX2_round 47 = .ok (.iload_n 1, 1) := dk_27 (by decide +kernel)
theorem dX2_round_48 : decode cX2_round 48 = .ok (.aload_n 0, 1) := dk_42 (by decide +kernel)
theorem dX2_round_49 : decode cX2_round 49 = .ok (.getfield 43, 3) := dk_180 (x := 0) (y := 43) (by decide +kernel) rfl
theorem dX2_round_52 : decode cX2_round 52 = .ok (.getfield 94, 3) := dk_180 (x := 0) (y := 94) (by decide +kernel) rfl
theorem dX2_round_55 : decode cX2_round 55 = .ok (.if_icmp .ge 56, 3) := dk_162 (x := 0) (y := 56) (by decide +kernel) rfl
theorem dX2_round_58 : decode cX2_round 58 = .ok (.iconst 0, 1) := dk_3 (by decide +kernel)
theorem dX2_round_59 : decode cX2_round 59 = .ok (.istore_n 2, 1) := dk_61 (by decide +kernel)
theorem dX2_round_60 : decode cX2_round 60 = .ok (.iload_n 2, 1) := dk_28 (by decide +kernel)
theorem dX2_round_61 : decode cX2_round 61 = .ok (.aload_n 0, 1) := dk_42 (by decide +kernel)
theorem dX2_round_62 : decode cX2_round 62 = .ok (.getfield 43, 3) := dk_180 (x := 0) (y := 43) (by decide +kernel) rfl
theorem dX2_round_65 : decode cX2_round 65 = .ok (.getfield 94, 3) := dk_180 (x := 0) (y := 94) (by decide +kernel) rfl
theorem dX2_round_68 : decode cX2_round 68 = .ok (.if_icmp .ge 37, 3) := dk_162 (x := 0) (y := 37) (by decide +kernel) rfl
theorem dX2_round_71 : decode cX2_round 71 = .ok (.aload_n 0, 1) := dk_42 (by decide +kernel)
theorem dX2_round_72 : decode cX2_round 72 = .ok (.getfield 40, 3) := dk_180 (x := 0) (y := 40) (by decide +kernel) rfl
theorem dX2_round_75 : decode cX2_round 75 = .ok (.iload_n 2, 1) := dk_28 (by decide +kernel)
theorem dX2_round_76 : decode cX2_round 76 = .ok (.iaload, 1) := dk_46 (by decide +kernel)
theorem dX2_round_77 : decode cX2_round 77 = .ok (.iload_n 1, 1) := dk_27 (by decide +kernel)
theorem dX2_round_78 : decode cX2_round 78 = .ok (.invokestatic 108, 3) := dk_184 (x := 0) (y := 108) (by decide +kernel) rfl
theorem dX2_round_81 : decode cX2_round 81 = .ok (.ifCond .eq 18, 3) := dk_153 (x := 0) (y := 18) (by decide +kernel) rfl
theorem dX2_round_84 : decode cX2_round 84 = .ok (.aload_n 0, 1) := dk_42 (by decide +kernel)
theorem dX2_round_85 : decode cX2_round 85 = .ok (.getfield 40, 3) := dk_180 (x := 0) (y := 40) (by decide +kernel) rfl
theorem dX2_round_88 : decode cX2_round 88 = .ok (.iload_n 2, 1) := dk_28 (by decide +kernel)
theorem dX2_round_89 : decode cX2_round 89 = .ok (.dup2, 1) := dk_92 (by decide +kernel)
theorem dX2_round_90 : decode cX2_round 90 = .ok (.iaload, 1) := dk_46 (by decide +kernel)
theorem dX2_round_91 : decode cX2_round 91 = .ok (.aload_n 0, 1) := dk_42 (by decide +kernel)
theorem dX2_round_92 : decode cX2_round 92 = .ok (.getfield 40, 3) := dk_180 (x := 0) (y := 40) (by decide +kernel) rfl
theorem dX2_round_95 : decode cX2_round 95 = .ok (.iload_n 1, 1) := dk_27 (by decide +kernel)
theorem dX2_round_96 : decode cX2_round 96 = .ok (.iaload, 1) := dk_46 (by decide +kernel)
theorem dX2_round_97 : decode cX2_round 97 = .ok (.ior, 1) := dk_128 (by decide +kernel)
theorem dX2_round_98 : decode cX2_round 98 = .ok (.iastore, 1) := dk_79 (by decide +kernel)
theorem dX2_round_99 : decode cX2_round 99 = .ok (.iinc 2 1, 3) := dk_132 (x := 2) (y := 1) (by decide +kernel) rfl
theorem dX2_round_102 : decode cX2_round 102 = .ok (.goto (-42), 3) := dk_167 (x := 255) (y := 214) (by decide +kernel) rfl
theorem dX2_round_105 : decode cX2_round 105 = .ok (.iinc 1 1, 3) := dk_132 (x := 1) (y := 1) (by decide +kernel) rfl
theorem dX2_round_108 : decode cX2_round 108 = .ok (.goto (-61), 3) := dk_167 (x := 255) (y := 195) (by decide +kernel) rfl
theorem dX2_round_111 : decode cX2_round 111 = .ok (.iconst 0, 1) := dk_3 (by decide +kernel)
theorem dX2_round_112 : decode cX2_round 112 = .ok (.istore_n 1, 1) := dk_60 (by decide +kernel)
theorem dX2_round_113 : decode cX2_round 113 = .ok (.iconst 0, 1) := dk_3 (by decide +kernel)
theorem dX2_round_114 : decode cX2_round 114 = .ok (.istore_n 2, 1) := dk_61 (by decide +kernel)
theorem dX2_round_115 : decode cX2_round 115 = .ok (.iload_n 2, 1) := dk_28 (by decide +kernel)
theorem dX2_round_116 : decode cX2_round 116 = .ok (.aload_n 0, 1) := dk_42 (by decide +kernel)
theorem dX2_round_117 : decode cX2_round 117 = .ok (.getfield 43, 3) := dk_180 (x := 0) (y := 43) (by decide +kernel) rfl
theorem dX2_round_120 : decode cX2_round 120 = .ok (.getfield 94, 3) := dk_180 (x := 0) (y := 94) (by decide +kernel) rfl
theorem dX2_round_123 : decode cX2_round 123 = .ok (.if_icmp .ge 22, 3) := dk_162 (x := 0) (y := 22) (by decide +kernel) rfl
theorem dX2_round_126 : decode cX2_round 126 = .ok (.iload_n 1, 1) := dk_27 (by decide +kernel)
theorem dX2_round_127 : decode cX2_round 127 = .ok (.aload_n 0, 1) := dk_42 (by decide +kernel)
theorem dX2_round_128 : decode cX2_round 128 = .ok (.getfield 40, 3) := dk_180 (x := 0) (y := 40) (by decide +kernel) rfl
theorem dX2_round_131 : decode cX2_round 131 = .ok (.iload_n 2, 1) := dk_28 (by decide +kernel)
theorem dX2_round_132 : decode cX2_round 132 = .ok (.iaload, 1) := dk_46 (by decide +kernel)
theorem dX2_round_133 : decode cX2_round 133 = .ok (.iconst 1, 1) := dk_4 (by decide +kernel)
theorem dX2_round_134 : decode cX2_round 134 = .ok (.iload_n 2, 1) := dk_28 (by decide +kernel)
theorem dX2_round_135 : decode cX2_round 135 = .ok (.ishl, 1) := dk_120 (by decide +kernel)
theorem dX2_round_136 : decode cX2_round 136 = .ok (.iand, 1) := dk_126 (by decide +kernel)
theorem dX2_round_137 : decode cX2_round 137 = .ok (.ior, 1) := dk_128 (by decide +kernel)
theorem dX2_round_138 : decode cX2_round 138 = .ok (.istore_n 1, 1) := dk_60 (by decide +kernel)
theorem dX2_round_139 : decode cX2_round 139 = .ok (.iinc 2 1, 3) := dk_132 (x := 2) (y := 1) (by decide +kernel) rfl
theorem dX2_round_142 : decode cX2_round 142 = .ok (.goto (-27), 3) := dk_167 (x := 255) (y := 229) (by decide +kernel) rfl
theorem dX2_round_145 : decode cX2_round 145 = .ok (.iload_n 1, 1) := dk_27 (by decide +kernel)
theorem dX2_round_146 : decode cX2_round 146 = .ok (.ireturn, 1) := dk_172 (by decide +kernel)
def f_X2_round_115 : Nat → Nat → Int32 → Int32 → Mem → Option (Int32 × Mem)
  | 0, _, _, _, _ => none
  | n + 1, v0, v1, v2, M =>
    chk (isO M 2 v0) <|
    bnd (mR M v0 0) fun o2 =>
    chk (isO M 7 o2) <|
    if (mI M o2 3) ≤ v2 then (
      some (v1, M)
      ) else (
      bnd (mR M v0 6) fun o7 =>
      chk (isO M 100 o7) <|
      chk (inB v2 (mLn M o7)) <|
      bnd (v1 ||| ((mI M o7 (v2).toNatClampNeg) &&& ((1 : Int32) <<< (v2 &&& 31)))) fun x11 =>
      bnd (v2 + (1 : Int32)) fun x13 =>
      f_X2_round_115 n v0 x11 x13 M
      )
def f_X2_round_60 (k_47 : Nat → Int32 → Mem → Option (Int32 × Mem)) : Nat → Nat → Int32 → Int32 → Mem → Option (Int32 × Mem)
  | 0, _, _, _, _ => none
  | n + 1, v0, v1, v2, M =>
    chk (isO M 2 v0) <|
    bnd (mR M v0 0) fun o2 =>
    chk (isO M 7 o2) <|
    if (mI M o2 3) ≤ v2 then (
      bnd (v1 + (1 : Int32)) fun x7 =>
      k_47 v0 x7 M
      ) else (
      bnd (mR M v0 6) fun o9 =>
      chk (isO M 100 o9) <|
      chk (inB v2 (mLn M o9)) <|
      obd (f_X9_has (mI M o9 (v2).toNatClampNeg) v1 M) fun r14 =>
      if r14 = 0 then (
        bnd (v2 + (1 : Int32)) fun x17 =>
        f_X2_round_60 k_47 n v0 v1 x17 M
        ) else (
        bnd (mR M v0 6) fun o19 =>
        chk (isO M 100 o19) <|
        chk (inB v2 (mLn M o19)) <|
        bnd (mR M v0 6) fun o23 =>
        chk (isO M 100 o23) <|
        chk (inB v1 (mLn M o23)) <|
        chk (inB v2 (mLn M o19)) <|
        bnd (sI M o19 (v2).toNatClampNeg ((mI M o19 (v2).toNatClampNeg) ||| (mI M o23 (v1).toNatClampNeg))) fun M28 =>
        bnd (v2 + (1 : Int32)) fun x35 =>
        f_X2_round_60 k_47 n v0 v1 x35 M28
        )
      )
def f_X2_round_47 : Nat → Nat → Int32 → Mem → Option (Int32 × Mem)
  | 0, _, _, _ => none
  | n + 1, v0, v1, M =>
    chk (isO M 2 v0) <|
    bnd (mR M v0 0) fun o2 =>
    chk (isO M 7 o2) <|
    if (mI M o2 3) ≤ v1 then (
      f_X2_round_115 n v0 (0 : Int32) (0 : Int32) M
      ) else (
      f_X2_round_60 (f_X2_round_47 n) n v0 v1 (0 : Int32) M
      )
def f_X2_round_2 : Nat → Nat → Int32 → Mem → Option (Int32 × Mem)
  | 0, _, _, _ => none
  | n + 1, v0, v1, M =>
    chk (isO M 2 v0) <|
    bnd (mR M v0 0) fun o2 =>
    chk (isO M 7 o2) <|
    if (mI M o2 3) ≤ v1 then (
      f_X2_round_47 n v0 (0 : Int32) M
      ) else (
      bnd (mR M v0 6) fun o7 =>
      chk (isO M 100 o7) <|
      obd (f_X9_has (mI M v0 8) v1 M) fun r11 =>
      if r11 = 0 then (
        chk (inB v1 (mLn M o7)) <|
        bnd (sI M o7 (v1).toNatClampNeg (0 : Int32)) fun M15 =>
        bnd (v1 + (1 : Int32)) fun x20 =>
        f_X2_round_2 n v0 x20 M15
        ) else (
        obd (f_X2_awaitedBy n v0 v1 M) fun r23 =>
        chk (inB v1 (mLn M o7)) <|
        bnd (sI M o7 (v1).toNatClampNeg r23) fun M25 =>
        bnd (v1 + (1 : Int32)) fun x30 =>
        f_X2_round_2 n v0 x30 M25
        )
      )
def f_X2_round (n : Nat) (o : Nat) (M : Mem) : Option (Int32 × Mem) :=
  f_X2_round_2 n o (0 : Int32) M
theorem cd_X2_round : (yX2_round.cls ≠ "java/lang/invoke/MethodHandle" ∧ yX2_round.cls ≠ "java/lang/invoke/VarHandle") ∧ (parseMethodDescriptor yX2_round.desc).map (fun d => d.parameters.length) = some 0 := ⟨⟨by decide +kernel, by decide +kernel⟩, by decide +kernel⟩
section
variable {p : Program} {l : Launch} {e : Env} {R : Room} {s : State} {m : MethodId} {args : Array Value} {below : List Frame} {meth : Method} {c : Code} {G : Gam} {M0 : Mem}
theorem l_X2_round_115 {rv : (Int32 × Mem)} (X : Cx p R s m args c G M0 cX2_round yX2_round.cls 3 2 45) (hr : meth.sig.returnType = (some .int)) (hlk : meth.locks = false) (hnm : meth.name = "round") : ∀ {n : Nat} (v0 : Nat) (v1 : Int32) (v2 : Int32) (M : Mem), f_X2_round_115 n v0 v1 v2 M = some rv → Sg p l e R s m args below meth c (Qm below G args s (some (.int rv.1)) M0 rv.2) G M0 3 115 [(0, .ref (gB G + v0)), (1, .int v1), (2, .int v2)] [] M := by
  intro n
  induction n with
  | zero => intro v0 v1 v2 M hf; exact (pk_none hf).elim
  | succ n ih =>
    intro v0 v1 v2 M hf
    rw [f_X2_round_115] at hf
    refine s_iload_n X 2 dX2_round_115 rfl rfl ?_
    refine s_aload_n X 0 dX2_round_116 rfl rfl ?_
    obtain ⟨h1, hf⟩ := pk_chk hf
    obtain ⟨o2, e3, hf⟩ := pk_bnd hf
    obtain ⟨h4, hf⟩ := pk_chk hf
    refine s_getR X (ci := 2) (k := 0) rfl (Nat.le_of_ble_eq_true rfl) h1 wd416 (fun _ _ _ => rfl) (e3 ▸ h4) dX2_round_117 (e3 ▸ ?_)
    refine s_getI X (ci := 7) (k := 3) rfl (Nat.le_of_ble_eq_true rfl) h4 wd166 (fun _ _ _ => rfl) dX2_round_120 ?_
    have hs5 := pk_ite hf
    clear hf
    refine s_icmp_ge X (tgt := 145) dX2_round_123 rfl (fun c6 => ?_) (fun c6 => ?_)
    · have hf := hs5.1 c6
      refine s_iload_n X 1 dX2_round_145 rfl rfl ?_
      cases hf
      exact s_iret X hr hlk dX2_round_146
    · have hf := hs5.2 c6
      refine s_iload_n X 1 dX2_round_126 rfl rfl ?_
      refine s_aload_n X 0 dX2_round_127 rfl rfl ?_
      obtain ⟨o7, e8, hf⟩ := pk_bnd hf
      obtain ⟨h9, hf⟩ := pk_chk hf
      refine s_getR X (ci := 2) (k := 6) rfl (Nat.le_of_ble_eq_true rfl) h1 wd433 (fun _ _ _ => rfl) (e8 ▸ h9) dX2_round_128 (e8 ▸ ?_)
      refine s_iload_n X 2 dX2_round_131 rfl rfl ?_
      obtain ⟨h10, hf⟩ := pk_chk hf
      refine s_iald X h9 h10 dX2_round_132 ?_
      refine s_iconst X (v := (1 : Int32)) dX2_round_133 rfl ?_
      refine s_iload_n X 2 dX2_round_134 rfl rfl ?_
      refine s_ishl X dX2_round_135 ?_
      refine s_iand X dX2_round_136 ?_
      refine s_ior X dX2_round_137 ?_
      obtain ⟨x11, e12, hf⟩ := pk_bnd hf
      refine s_nmI e12 ?_
      refine s_istore_n X (vs' := [(0, .ref (gB G + v0)), (1, .int x11), (2, .int v2)]) dX2_round_138 rfl (Nat.le_of_ble_eq_true rfl) [1, 0, 2] rfl ?_
      obtain ⟨x13, e14, hf⟩ := pk_bnd hf
      refine s_iinc X (vs' := [(0, .ref (gB G + v0)), (1, .int x11), (2, .int x13)]) 2 dX2_round_139 rfl (v := x13) e14.symm (Nat.le_of_ble_eq_true rfl) [1, 2, 0] rfl ?_
      refine s_goto X (tgt := 115) dX2_round_142 rfl ?_
      exact ih _ _ _ _ hf
theorem l_X2_round_60 {k_47 : Nat → Int32 → Mem → Option (Int32 × Mem)} {rv : (Int32 × Mem)} (X : Cx p R s m args c G M0 cX2_round yX2_round.cls 3 2 45) (hr : meth.sig.returnType = (some .int)) (hlk : meth.locks = false) (hnm : meth.name = "round") (hk_47 : ∀ (v0 : Nat), ∀ (v1 : Int32), ∀ M : Mem, k_47 v0 v1 M = some rv → Sg p l e R s m args below meth c (Qm below G args s (some (.int rv.1)) M0 rv.2) G M0 3 47 [(0, .ref (gB G + v0)), (1, .int v1)] [] M) : ∀ {n : Nat} (v0 : Nat) (v1 : Int32) (v2 : Int32) (M : Mem), f_X2_round_60 k_47 n v0 v1 v2 M = some rv → Sg p l e R s m args below meth c (Qm below G args s (some (.int rv.1)) M0 rv.2) G M0 3 60 [(0, .ref (gB G + v0)), (1, .int v1), (2, .int v2)] [] M := by
  intro n
  induction n with
  | zero => intro v0 v1 v2 M hf; exact (pk_none hf).elim
  | succ n ih =>
    intro v0 v1 v2 M hf
    rw [f_X2_round_60] at hf
    refine s_iload_n X 2 dX2_round_60 rfl rfl ?_
    refine s_aload_n X 0 dX2_round_61 rfl rfl ?_
    obtain ⟨h1, hf⟩ := pk_chk hf
    obtain ⟨o2, e3, hf⟩ := pk_bnd hf
    obtain ⟨h4, hf⟩ := pk_chk hf
    refine s_getR X (ci := 2) (k := 0) rfl (Nat.le_of_ble_eq_true rfl) h1 wd416 (fun _ _ _ => rfl) (e3 ▸ h4) dX2_round_62 (e3 ▸ ?_)
    refine s_getI X (ci := 7) (k := 3) rfl (Nat.le_of_ble_eq_true rfl) h4 wd166 (fun _ _ _ => rfl) dX2_round_65 ?_
    have hs5 := pk_ite hf
    clear hf
    refine s_icmp_ge X (tgt := 105) dX2_round_68 rfl (fun c6 => ?_) (fun c6 => ?_)
    · have hf := hs5.1 c6
      obtain ⟨x7, e8, hf⟩ := pk_bnd hf
      refine s_iinc X (vs' := [(0, .ref (gB G + v0)), (1, .int x7), (2, .int v2)]) 1 dX2_round_105 rfl (v := x7) e8.symm (Nat.le_of_ble_eq_true rfl) [1, 0, 2] rfl ?_
      refine s_goto X (tgt := 47) dX2_round_108 rfl ?_
      refine s_drop [0, 1] (vs' := [(0, .ref (gB G + v0)), (1, .int x7)]) rfl ?_
      exact hk_47 _ _ _ hf
    · have hf := hs5.2 c6
      refine s_aload_n X 0 dX2_round_71 rfl rfl ?_
      obtain ⟨o9, e10, hf⟩ := pk_bnd hf
      obtain ⟨h11, hf⟩ := pk_chk hf
      refine s_getR X (ci := 2) (k := 6) rfl (Nat.le_of_ble_eq_true rfl) h1 wd433 (fun _ _ _ => rfl) (e10 ▸ h11) dX2_round_72 (e10 ▸ ?_)
      refine s_iload_n X 2 dX2_round_75 rfl rfl ?_
      obtain ⟨h12, hf⟩ := pk_chk hf
      refine s_iald X h11 h12 dX2_round_76 ?_
      refine s_iload_n X 1 dX2_round_77 rfl rfl ?_
      obtain ⟨r14, hc13, hf⟩ := pk_obd hf
      refine s_callSN X (k_X9_has G hc13) (host := "QuorumGate") ns_8 wd712 wd713 wd126 cd_X9_has ⟨Nat.le_of_ble_eq_true rfl, Nat.le_of_ble_eq_true rfl⟩ (Nat.le_of_ble_eq_true rfl) dX2_round_78 ?_
      have hs15 := pk_ite hf
      clear hf
      refine s_if_eq X (tgt := 99) dX2_round_81 rfl (fun c16 => ?_) (fun c16 => ?_)
      · have hf := hs15.1 c16
        obtain ⟨x17, e18, hf⟩ := pk_bnd hf
        refine s_iinc X (vs' := [(0, .ref (gB G + v0)), (1, .int v1), (2, .int x17)]) 2 dX2_round_99 rfl (v := x17) e18.symm (Nat.le_of_ble_eq_true rfl) [1, 2, 0] rfl ?_
        refine s_goto X (tgt := 60) dX2_round_102 rfl ?_
        exact ih _ _ _ _ hf
      · have hf := hs15.2 c16
        refine s_aload_n X 0 dX2_round_84 rfl rfl ?_
        obtain ⟨o19, e20, hf⟩ := pk_bnd hf
        obtain ⟨h21, hf⟩ := pk_chk hf
        refine s_getR X (ci := 2) (k := 6) rfl (Nat.le_of_ble_eq_true rfl) h1 wd433 (fun _ _ _ => rfl) (e20 ▸ h21) dX2_round_85 (e20 ▸ ?_)
        refine s_iload_n X 2 dX2_round_88 rfl rfl ?_
        refine s_dup2 X dX2_round_89 rfl rfl ?_
        obtain ⟨h22, hf⟩ := pk_chk hf
        refine s_iald X h21 h22 dX2_round_90 ?_
        refine s_aload_n X 0 dX2_round_91 rfl rfl ?_
        obtain ⟨o23, e24, hf⟩ := pk_bnd hf
        obtain ⟨h25, hf⟩ := pk_chk hf
        refine s_getR X (ci := 2) (k := 6) rfl (Nat.le_of_ble_eq_true rfl) h1 wd433 (fun _ _ _ => rfl) (e24 ▸ h25) dX2_round_92 (e24 ▸ ?_)
        refine s_iload_n X 1 dX2_round_95 rfl rfl ?_
        obtain ⟨h26, hf⟩ := pk_chk hf
        refine s_iald X h25 h26 dX2_round_96 ?_
        refine s_ior X dX2_round_97 ?_
        obtain ⟨h27, hf⟩ := pk_chk hf
        obtain ⟨M28, e29, hf⟩ := pk_bnd hf
        refine s_iast X h21 h27 e29 dX2_round_98 ?_
        have h30 := io_sI e29 h1
        have h31 := io_sI e29 h4
        have h32 := io_sI e29 h11
        have h33 := io_sI e29 h21
        have h34 := io_sI e29 h25
        obtain ⟨x35, e36, hf⟩ := pk_bnd hf
        refine s_iinc X (vs' := [(0, .ref (gB G + v0)), (1, .int v1), (2, .int x35)]) 2 dX2_round_99 rfl (v := x35) e36.symm (Nat.le_of_ble_eq_true rfl) [1, 2, 0] rfl ?_
        refine s_goto X (tgt := 60) dX2_round_102 rfl ?_
        exact ih _ _ _ _ hf
theorem l_X2_round_47 {rv : (Int32 × Mem)} (X : Cx p R s m args c G M0 cX2_round yX2_round.cls 3 2 45) (hr : meth.sig.returnType = (some .int)) (hlk : meth.locks = false) (hnm : meth.name = "round") : ∀ {n : Nat} (v0 : Nat) (v1 : Int32) (M : Mem), f_X2_round_47 n v0 v1 M = some rv → Sg p l e R s m args below meth c (Qm below G args s (some (.int rv.1)) M0 rv.2) G M0 3 47 [(0, .ref (gB G + v0)), (1, .int v1)] [] M := by
  intro n
  induction n with
  | zero => intro v0 v1 M hf; exact (pk_none hf).elim
  | succ n ih =>
    intro v0 v1 M hf
    rw [f_X2_round_47] at hf
    refine s_iload_n X 1 dX2_round_47 rfl rfl ?_
    refine s_aload_n X 0 dX2_round_48 rfl rfl ?_
    obtain ⟨h1, hf⟩ := pk_chk hf
    obtain ⟨o2, e3, hf⟩ := pk_bnd hf
    obtain ⟨h4, hf⟩ := pk_chk hf
    refine s_getR X (ci := 2) (k := 0) rfl (Nat.le_of_ble_eq_true rfl) h1 wd416 (fun _ _ _ => rfl) (e3 ▸ h4) dX2_round_49 (e3 ▸ ?_)
    refine s_getI X (ci := 7) (k := 3) rfl (Nat.le_of_ble_eq_true rfl) h4 wd166 (fun _ _ _ => rfl) dX2_round_52 ?_
    have hs5 := pk_ite hf
    clear hf
    refine s_icmp_ge X (tgt := 111) dX2_round_55 rfl (fun c6 => ?_) (fun c6 => ?_)
    · have hf := hs5.1 c6
      refine s_iconst X (v := (0 : Int32)) dX2_round_111 rfl ?_
      refine s_istore_n X (vs' := [(0, .ref (gB G + v0)), (1, .int (0 : Int32))]) dX2_round_112 rfl (Nat.le_of_ble_eq_true rfl) [1, 0] rfl ?_
      refine s_iconst X (v := (0 : Int32)) dX2_round_113 rfl ?_
      refine s_istore_n X (vs' := [(0, .ref (gB G + v0)), (1, .int (0 : Int32)), (2, .int (0 : Int32))]) dX2_round_114 rfl (Nat.le_of_ble_eq_true rfl) [1, 2, 0] rfl ?_
      exact l_X2_round_115 X hr hlk hnm _ _ _ _ hf
    · have hf := hs5.2 c6
      refine s_iconst X (v := (0 : Int32)) dX2_round_58 rfl ?_
      refine s_istore_n X (vs' := [(0, .ref (gB G + v0)), (1, .int v1), (2, .int (0 : Int32))]) dX2_round_59 rfl (Nat.le_of_ble_eq_true rfl) [1, 2, 0] rfl ?_
      exact l_X2_round_60 X hr hlk hnm ih _ _ _ _ hf
theorem l_X2_round_2 {rv : (Int32 × Mem)} (X : Cx p R s m args c G M0 cX2_round yX2_round.cls 3 2 45) (hr : meth.sig.returnType = (some .int)) (hlk : meth.locks = false) (hnm : meth.name = "round") : ∀ {n : Nat} (v0 : Nat) (v1 : Int32) (M : Mem), f_X2_round_2 n v0 v1 M = some rv → Sg p l e R s m args below meth c (Qm below G args s (some (.int rv.1)) M0 rv.2) G M0 3 2 [(0, .ref (gB G + v0)), (1, .int v1)] [] M := by
  intro n
  induction n with
  | zero => intro v0 v1 M hf; exact (pk_none hf).elim
  | succ n ih =>
    intro v0 v1 M hf
    rw [f_X2_round_2] at hf
    refine s_iload_n X 1 dX2_round_2 rfl rfl ?_
    refine s_aload_n X 0 dX2_round_3 rfl rfl ?_
    obtain ⟨h1, hf⟩ := pk_chk hf
    obtain ⟨o2, e3, hf⟩ := pk_bnd hf
    obtain ⟨h4, hf⟩ := pk_chk hf
    refine s_getR X (ci := 2) (k := 0) rfl (Nat.le_of_ble_eq_true rfl) h1 wd416 (fun _ _ _ => rfl) (e3 ▸ h4) dX2_round_4 (e3 ▸ ?_)
    refine s_getI X (ci := 7) (k := 3) rfl (Nat.le_of_ble_eq_true rfl) h4 wd166 (fun _ _ _ => rfl) dX2_round_7 ?_
    have hs5 := pk_ite hf
    clear hf
    refine s_icmp_ge X (tgt := 45) dX2_round_10 rfl (fun c6 => ?_) (fun c6 => ?_)
    · have hf := hs5.1 c6
      refine s_iconst X (v := (0 : Int32)) dX2_round_45 rfl ?_
      refine s_istore_n X (vs' := [(0, .ref (gB G + v0)), (1, .int (0 : Int32))]) dX2_round_46 rfl (Nat.le_of_ble_eq_true rfl) [1, 0] rfl ?_
      exact l_X2_round_47 X hr hlk hnm _ _ _ hf
    · have hf := hs5.2 c6
      refine s_aload_n X 0 dX2_round_13 rfl rfl ?_
      obtain ⟨o7, e8, hf⟩ := pk_bnd hf
      obtain ⟨h9, hf⟩ := pk_chk hf
      refine s_getR X (ci := 2) (k := 6) rfl (Nat.le_of_ble_eq_true rfl) h1 wd433 (fun _ _ _ => rfl) (e8 ▸ h9) dX2_round_14 (e8 ▸ ?_)
      refine s_iload_n X 1 dX2_round_17 rfl rfl ?_
      refine s_aload_n X 0 dX2_round_18 rfl rfl ?_
      refine s_getI X (ci := 2) (k := 8) rfl (Nat.le_of_ble_eq_true rfl) h1 wd438 (fun _ _ _ => rfl) dX2_round_19 ?_
      refine s_iload_n X 1 dX2_round_22 rfl rfl ?_
      obtain ⟨r11, hc10, hf⟩ := pk_obd hf
      refine s_callSN X (k_X9_has G hc10) (host := "QuorumGate") ns_8 wd712 wd713 wd126 cd_X9_has ⟨Nat.le_of_ble_eq_true rfl, Nat.le_of_ble_eq_true rfl⟩ (Nat.le_of_ble_eq_true rfl) dX2_round_23 ?_
      have hs12 := pk_ite hf
      clear hf
      refine s_if_eq X (tgt := 37) dX2_round_26 rfl (fun c13 => ?_) (fun c13 => ?_)
      · have hf := hs12.1 c13
        refine s_iconst X (v := (0 : Int32)) dX2_round_37 rfl ?_
        obtain ⟨h14, hf⟩ := pk_chk hf
        obtain ⟨M15, e16, hf⟩ := pk_bnd hf
        refine s_iast X h9 h14 e16 dX2_round_38 ?_
        have h17 := io_sI e16 h1
        have h18 := io_sI e16 h4
        have h19 := io_sI e16 h9
        obtain ⟨x20, e21, hf⟩ := pk_bnd hf
        refine s_iinc X (vs' := [(0, .ref (gB G + v0)), (1, .int x20)]) 1 dX2_round_39 rfl (v := x20) e21.symm (Nat.le_of_ble_eq_true rfl) [1, 0] rfl ?_
        refine s_goto X (tgt := 2) dX2_round_42 rfl ?_
        exact ih _ _ _ hf
      · have hf := hs12.2 c13
        refine s_aload_n X 0 dX2_round_29 rfl rfl ?_
        refine s_iload_n X 1 dX2_round_30 rfl rfl ?_
        obtain ⟨r23, hc22, hf⟩ := pk_obd hf
        refine s_callV X (ci := 2) (k_X2_awaitedBy G hc22) rfl h1 wd1168 wd1169 wd1170 wd1171 wd130 cd_X2_awaitedBy ⟨Nat.le_of_ble_eq_true rfl, Nat.le_of_ble_eq_true rfl⟩ (Nat.le_of_ble_eq_true rfl) dX2_round_31 ?_
        refine s_goto X (tgt := 38) dX2_round_34 rfl ?_
        obtain ⟨h24, hf⟩ := pk_chk hf
        obtain ⟨M25, e26, hf⟩ := pk_bnd hf
        refine s_iast X h9 h24 e26 dX2_round_38 ?_
        have h27 := io_sI e26 h1
        have h28 := io_sI e26 h4
        have h29 := io_sI e26 h9
        obtain ⟨x30, e31, hf⟩ := pk_bnd hf
        refine s_iinc X (vs' := [(0, .ref (gB G + v0)), (1, .int x30)]) 1 dX2_round_39 rfl (v := x30) e31.symm (Nat.le_of_ble_eq_true rfl) [1, 0] rfl ?_
        refine s_goto X (tgt := 2) dX2_round_42 rfl ?_
        exact ih _ _ _ hf
end
theorem k_X2_round (G : Gam) {n : Nat} {o : Nat} {M : Mem} {rv : (Int32 × Mem)} (hf : f_X2_round n o M = some rv) : Kt yX2_round cX2_round 3 (some .int) 2 45 G [.ref (gB G + o)] M rv.2 (some (.int rv.1)) := by
  refine Kt.of (by decide) (Nat.le_of_ble_eq_true rfl) ?_
  intro p l e R s m args below meth c X hr hlk hnm
  refine s_drop [0] (vs' := [(0, .ref (gB G + o))]) rfl ?_
  rw [f_X2_round] at hf
  refine s_iconst X (v := (0 : Int32)) dX2_round_0 rfl ?_
  refine s_istore_n X (vs' := [(0, .ref (gB G + o)), (1, .int (0 : Int32))]) dX2_round_1 rfl (Nat.le_of_ble_eq_true rfl) [1, 0] rfl ?_
  exact l_X2_round_2 X hr hlk hnm _ _ _ hf
theorem dX9_is_0 : decode cX9_is 0 = .ok (.iload_n 1, 1) := dk_27 (by decide +kernel)
theorem dX9_is_1 : decode cX9_is 1 = .ok (.tableswitch 174 0 12 #[67, 75, 86, 94, 102, 110, 118, 126, 134, 142, 150, 158, 166], 67) := by decide +kernel
theorem dX9_is_68 : decode cX9_is 68 = .ok (.aload_n 0, 1) := dk_42 (by decide +kernel)
theorem dX9_is_69 : decode cX9_is 69 = .ok (.getfield 10, 3) := dk_180 (x := 0) (y := 10) (by decide +kernel) rfl
theorem dX9_is_72 : decode cX9_is 72 = .ok (.getfield 75, 3) := dk_180 (x := 0) (y := 75) (by decide +kernel) rfl
theorem dX9_is_75 : decode cX9_is 75 = .ok (.ireturn, 1) := dk_172 (by decide +kernel)
theorem dX9_is_76 : decode cX9_is 76 = .ok (.aload_n 0, 1) := dk_42 (by decide +kernel)
theorem dX9_is_77 : decode cX9_is 77 = .ok (.getfield 28, 3) := dk_180 (x := 0) (y := 28) (by decide +kernel) rfl
theorem dX9_is_80 : decode cX9_is 80 = .ok (.getfield 243, 3) := dk_180 (x := 0) (y := 243) (by decide +kernel) rfl
theorem dX9_is_83 : decode cX9_is 83 = .ok (.getfield 255, 3) := dk_180 (x := 0) (y := 255) (by decide +kernel) rfl
theorem dX9_is_86 : decode cX9_is 86 = .ok (.ireturn, 1) := dk_172 (by decide +kernel)
theorem dX9_is_87 : decode cX9_is 87 = .ok (.aload_n 0, 1) := dk_42 (by decide +kernel)
theorem dX9_is_88 : decode cX9_is 88 = .ok (.getfield 28, 3) := dk_180 (x := 0) (y := 28) (by decide +kernel) rfl
theorem dX9_is_91 : decode cX9_is 91 = .ok (.getfield 177, 3) := dk_180 (x := 0) (y := 177) (by decide +kernel) rfl
theorem dX9_is_94 : decode cX9_is 94 = .ok (.ireturn, 1) := dk_172 (by decide +kernel)
theorem dX9_is_95 : decode cX9_is 95 = .ok (.aload_n 0, 1) := dk_42 (by decide +kernel)
theorem dX9_is_96 : decode cX9_is 96 = .ok (.getfield 28, 3) := dk_180 (x := 0) (y := 28) (by decide +kernel) rfl
theorem dX9_is_99 : decode cX9_is 99 = .ok (.getfield 191, 3) := dk_180 (x := 0) (y := 191) (by decide +kernel) rfl
theorem dX9_is_102 : decode cX9_is 102 = .ok (.ireturn, 1) := dk_172 (by decide +kernel)
theorem dX9_is_103 : decode cX9_is 103 = .ok (.aload_n 0, 1) := dk_42 (by decide +kernel)
theorem dX9_is_104 : decode cX9_is 104 = .ok (.getfield 28, 3) := dk_180 (x := 0) (y := 28) (by decide +kernel) rfl
theorem dX9_is_107 : decode cX9_is 107 = .ok (.getfield 197, 3) := dk_180 (x := 0) (y := 197) (by decide +kernel) rfl
theorem dX9_is_110 : decode cX9_is 110 = .ok (.ireturn, 1) := dk_172 (by decide +kernel)
theorem dX9_is_111 : decode cX9_is 111 = .ok (.aload_n 0, 1) := dk_42 (by decide +kernel)
theorem dX9_is_112 : decode cX9_is 112 = .ok (.getfield 28, 3) := dk_180 (x := 0) (y := 28) (by decide +kernel) rfl
theorem dX9_is_115 : decode cX9_is 115 = .ok (.getfield 258, 3) := dk_180 (x := 1) (y := 2) (by decide +kernel) rfl
theorem dX9_is_118 : decode cX9_is 118 = .ok (.ireturn, 1) := dk_172 (by decide +kernel)
theorem dX9_is_119 : decode cX9_is 119 = .ok (.aload_n 0, 1) := dk_42 (by decide +kernel)
theorem dX9_is_120 : decode cX9_is 120 = .ok (.getfield 28, 3) := dk_180 (x := 0) (y := 28) (by decide +kernel) rfl
theorem dX9_is_123 : decode cX9_is 123 = .ok (.getfield 259, 3) := dk_180 (x := 1) (y := 3) (by decide +kernel) rfl
theorem dX9_is_126 : decode cX9_is 126 = .ok (.ireturn, 1) := dk_172 (by decide +kernel)
theorem dX9_is_127 : decode cX9_is 127 = .ok (.aload_n 0, 1) := dk_42 (by decide +kernel)
theorem dX9_is_128 : decode cX9_is 128 = .ok (.getfield 28, 3) := dk_180 (x := 0) (y := 28) (by decide +kernel) rfl
theorem dX9_is_131 : decode cX9_is 131 = .ok (.getfield 262, 3) := dk_180 (x := 1) (y := 6) (by decide +kernel) rfl
theorem dX9_is_134 : decode cX9_is 134 = .ok (.ireturn, 1) := dk_172 (by decide +kernel)
theorem dX9_is_135 : decode cX9_is 135 = .ok (.aload_n 0, 1) := dk_42 (by decide +kernel)
theorem dX9_is_136 : decode cX9_is 136 = .ok (.getfield 28, 3) := dk_180 (x := 0) (y := 28) (by decide +kernel) rfl
theorem dX9_is_139 : decode cX9_is 139 = .ok (.getfield 265, 3) := dk_180 (x := 1) (y := 9) (by decide +kernel) rfl
theorem dX9_is_142 : decode cX9_is 142 = .ok (.ireturn, 1) := dk_172 (by decide +kernel)
theorem dX9_is_143 : decode cX9_is 143 = .ok (.aload_n 0, 1) := dk_42 (by decide +kernel)
theorem dX9_is_144 : decode cX9_is 144 = .ok (.getfield 28, 3) := dk_180 (x := 0) (y := 28) (by decide +kernel) rfl
theorem dX9_is_147 : decode cX9_is 147 = .ok (.getfield 268, 3) := dk_180 (x := 1) (y := 12) (by decide +kernel) rfl
theorem dX9_is_150 : decode cX9_is 150 = .ok (.ireturn, 1) := dk_172 (by decide +kernel)
theorem dX9_is_151 : decode cX9_is 151 = .ok (.aload_n 0, 1) := dk_42 (by decide +kernel)
theorem dX9_is_152 : decode cX9_is 152 = .ok (.getfield 28, 3) := dk_180 (x := 0) (y := 28) (by decide +kernel) rfl
theorem dX9_is_155 : decode cX9_is 155 = .ok (.invokevirtual 271, 3) := dk_182 (x := 1) (y := 15) (by decide +kernel) rfl
theorem dX9_is_158 : decode cX9_is 158 = .ok (.ireturn, 1) := dk_172 (by decide +kernel)
theorem dX9_is_159 : decode cX9_is 159 = .ok (.aload_n 0, 1) := dk_42 (by decide +kernel)
theorem dX9_is_160 : decode cX9_is 160 = .ok (.getfield 28, 3) := dk_180 (x := 0) (y := 28) (by decide +kernel) rfl
theorem dX9_is_163 : decode cX9_is 163 = .ok (.getfield 274, 3) := dk_180 (x := 1) (y := 18) (by decide +kernel) rfl
theorem dX9_is_166 : decode cX9_is 166 = .ok (.ireturn, 1) := dk_172 (by decide +kernel)
theorem dX9_is_167 : decode cX9_is 167 = .ok (.aload_n 0, 1) := dk_42 (by decide +kernel)
theorem dX9_is_168 : decode cX9_is 168 = .ok (.getfield 28, 3) := dk_180 (x := 0) (y := 28) (by decide +kernel) rfl
theorem dX9_is_171 : decode cX9_is 171 = .ok (.invokevirtual 277, 3) := dk_182 (x := 1) (y := 21) (by decide +kernel) rfl
theorem dX9_is_174 : decode cX9_is 174 = .ok (.ireturn, 1) := dk_172 (by decide +kernel)
theorem dX9_is_175 : decode cX9_is 175 = .ok (.iconst (-1), 1) := dk_2 (by decide +kernel)
theorem dX9_is_176 : decode cX9_is 176 = .ok (.ireturn, 1) := dk_172 (by decide +kernel)
def f_X9_is (n : Nat) (o : Nat) (a1 : Int32) (M : Mem) : Option (Int32 × Mem) :=
  if a1 = (0 : Int32) then (
    chk (isO M 9 o) <|
    bnd (mR M o 0) fun o4 =>
    chk (isO M 7 o4) <|
    some ((mI M o4 3), M)
    ) else (
  if a1 = (1 : Int32) then (
    chk (isO M 9 o) <|
    bnd (mR M o 2) fun o10 =>
    chk (isO M 2 o10) <|
    bnd (mR M o10 1) fun o13 =>
    chk (isO M 5 o13) <|
    some ((mI M o13 10), M)
    ) else (
  if a1 = (2 : Int32) then (
    chk (isO M 9 o) <|
    bnd (mR M o 2) fun o19 =>
    chk (isO M 2 o19) <|
    some ((mI M o19 7), M)
    ) else (
  if a1 = (3 : Int32) then (
    chk (isO M 9 o) <|
    bnd (mR M o 2) fun o25 =>
    chk (isO M 2 o25) <|
    some ((mI M o25 8), M)
    ) else (
  if a1 = (4 : Int32) then (
    chk (isO M 9 o) <|
    bnd (mR M o 2) fun o31 =>
    chk (isO M 2 o31) <|
    some ((mI M o31 9), M)
    ) else (
  if a1 = (5 : Int32) then (
    chk (isO M 9 o) <|
    bnd (mR M o 2) fun o37 =>
    chk (isO M 2 o37) <|
    some ((mI M o37 11), M)
    ) else (
  if a1 = (6 : Int32) then (
    chk (isO M 9 o) <|
    bnd (mR M o 2) fun o43 =>
    chk (isO M 2 o43) <|
    some ((mI M o43 10), M)
    ) else (
  if a1 = (7 : Int32) then (
    chk (isO M 9 o) <|
    bnd (mR M o 2) fun o49 =>
    chk (isO M 2 o49) <|
    some ((mI M o49 12), M)
    ) else (
  if a1 = (8 : Int32) then (
    chk (isO M 9 o) <|
    bnd (mR M o 2) fun o55 =>
    chk (isO M 2 o55) <|
    some ((mI M o55 14), M)
    ) else (
  if a1 = (9 : Int32) then (
    chk (isO M 9 o) <|
    bnd (mR M o 2) fun o61 =>
    chk (isO M 2 o61) <|
    some ((mI M o61 15), M)
    ) else (
  if a1 = (10 : Int32) then (
    chk (isO M 9 o) <|
    bnd (mR M o 2) fun o67 =>
    chk (isO M 2 o67) <|
    obd (f_X2_countMoves n o67 M) fun r71 =>
    some (r71, M)
    ) else (
  if a1 = (11 : Int32) then (
    chk (isO M 9 o) <|
    bnd (mR M o 2) fun o75 =>
    chk (isO M 2 o75) <|
    some ((mI M o75 13), M)
    ) else (
  if a1 = (12 : Int32) then (
    chk (isO M 9 o) <|
    bnd (mR M o 2) fun o81 =>
    chk (isO M 2 o81) <|
    obd2 (f_X2_round n o81 M) fun r85 M86 =>
    some (r85, M86)
    ) else (
  some ((-1 : Int32), M)
  )
  )
  )
  )
  )
  )
  )
  )
  )
  )
  )
  )
  )
theorem cd_X9_is : (yX9_is.cls ≠ "java/lang/invoke/MethodHandle" ∧ yX9_is.cls ≠ "java/lang/invoke/VarHandle") ∧ (parseMethodDescriptor yX9_is.desc).map (fun d => d.parameters.length) = some 1 := ⟨⟨by decide +kernel, by decide +kernel⟩, by decide +kernel⟩
theorem k_X9_is (G : Gam) {n : Nat} {o : Nat} {a1 : Int32} {M : Mem} {rv : (Int32 × Mem)} (hf : f_X9_is n o a1 M = some rv) : Kt yX9_is cX9_is 2 (some .int) 3 67 G [.ref (gB G + o), .int a1] M rv.2 (some (.int rv.1)) := by
  refine Kt.of (by decide) (Nat.le_of_ble_eq_true rfl) ?_
  intro p l e R s m args below meth c X hr hlk hnm
  refine s_drop [0, 1] (vs' := [(0, .ref (gB G + o)), (1, .int a1)]) rfl ?_
  rw [f_X9_is] at hf
  refine s_iload_n X 1 dX9_is_0 rfl rfl ?_
  have hs1 := pk_ite hf
  clear hf
  by_cases c2 : a1 = (0 : Int32)
  · have hf := hs1.1 c2
    refine s_swC X (v := (0 : Int32)) (tgt := 68) dX9_is_1 c2 (by decide) (by decide) rfl rfl ?_
    refine s_aload_n X 0 dX9_is_68 rfl rfl ?_
    obtain ⟨h3, hf⟩ := pk_chk hf
    obtain ⟨o4, e5, hf⟩ := pk_bnd hf
    obtain ⟨h6, hf⟩ := pk_chk hf
    refine s_getR X (ci := 9) (k := 0) rfl (Nat.le_of_ble_eq_true rfl) h3 wd627 (fun _ _ _ => rfl) (e5 ▸ h6) dX9_is_69 (e5 ▸ ?_)
    refine s_getI X (ci := 7) (k := 3) rfl (Nat.le_of_ble_eq_true rfl) h6 wd170 (fun _ _ _ => rfl) dX9_is_72 ?_
    cases hf
    exact s_iret X hr hlk dX9_is_75
  have hf := hs1.2 c2
  have hs7 := pk_ite hf
  clear hf
  by_cases c8 : a1 = (1 : Int32)
  · have hf := hs7.1 c8
    refine s_swC X (v := (1 : Int32)) (tgt := 76) dX9_is_1 c8 (by decide) (by decide) rfl rfl ?_
    refine s_aload_n X 0 dX9_is_76 rfl rfl ?_
    obtain ⟨h9, hf⟩ := pk_chk hf
    obtain ⟨o10, e11, hf⟩ := pk_bnd hf
    obtain ⟨h12, hf⟩ := pk_chk hf
    refine s_getR X (ci := 9) (k := 2) rfl (Nat.le_of_ble_eq_true rfl) h9 wd629 (fun _ _ _ => rfl) (e11 ▸ h12) dX9_is_77 (e11 ▸ ?_)
    obtain ⟨o13, e14, hf⟩ := pk_bnd hf
    obtain ⟨h15, hf⟩ := pk_chk hf
    refine s_getR X (ci := 2) (k := 1) rfl (Nat.le_of_ble_eq_true rfl) h12 wd422 (fun _ _ _ => rfl) (e14 ▸ h15) dX9_is_80 (e14 ▸ ?_)
    refine s_getI X (ci := 5) (k := 10) rfl (Nat.le_of_ble_eq_true rfl) h15 wd270 (fun _ _ _ => rfl) dX9_is_83 ?_
    cases hf
    exact s_iret X hr hlk dX9_is_86
  have hf := hs7.2 c8
  have hs16 := pk_ite hf
  clear hf
  by_cases c17 : a1 = (2 : Int32)
  · have hf := hs16.1 c17
    refine s_swC X (v := (2 : Int32)) (tgt := 87) dX9_is_1 c17 (by decide) (by decide) rfl rfl ?_
    refine s_aload_n X 0 dX9_is_87 rfl rfl ?_
    obtain ⟨h18, hf⟩ := pk_chk hf
    obtain ⟨o19, e20, hf⟩ := pk_bnd hf
    obtain ⟨h21, hf⟩ := pk_chk hf
    refine s_getR X (ci := 9) (k := 2) rfl (Nat.le_of_ble_eq_true rfl) h18 wd629 (fun _ _ _ => rfl) (e20 ▸ h21) dX9_is_88 (e20 ▸ ?_)
    refine s_getI X (ci := 2) (k := 7) rfl (Nat.le_of_ble_eq_true rfl) h21 wd437 (fun _ _ _ => rfl) dX9_is_91 ?_
    cases hf
    exact s_iret X hr hlk dX9_is_94
  have hf := hs16.2 c17
  have hs22 := pk_ite hf
  clear hf
  by_cases c23 : a1 = (3 : Int32)
  · have hf := hs22.1 c23
    refine s_swC X (v := (3 : Int32)) (tgt := 95) dX9_is_1 c23 (by decide) (by decide) rfl rfl ?_
    refine s_aload_n X 0 dX9_is_95 rfl rfl ?_
    obtain ⟨h24, hf⟩ := pk_chk hf
    obtain ⟨o25, e26, hf⟩ := pk_bnd hf
    obtain ⟨h27, hf⟩ := pk_chk hf
    refine s_getR X (ci := 9) (k := 2) rfl (Nat.le_of_ble_eq_true rfl) h24 wd629 (fun _ _ _ => rfl) (e26 ▸ h27) dX9_is_96 (e26 ▸ ?_)
    refine s_getI X (ci := 2) (k := 8) rfl (Nat.le_of_ble_eq_true rfl) h27 wd440 (fun _ _ _ => rfl) dX9_is_99 ?_
    cases hf
    exact s_iret X hr hlk dX9_is_102
  have hf := hs22.2 c23
  have hs28 := pk_ite hf
  clear hf
  by_cases c29 : a1 = (4 : Int32)
  · have hf := hs28.1 c29
    refine s_swC X (v := (4 : Int32)) (tgt := 103) dX9_is_1 c29 (by decide) (by decide) rfl rfl ?_
    refine s_aload_n X 0 dX9_is_103 rfl rfl ?_
    obtain ⟨h30, hf⟩ := pk_chk hf
    obtain ⟨o31, e32, hf⟩ := pk_bnd hf
    obtain ⟨h33, hf⟩ := pk_chk hf
    refine s_getR X (ci := 9) (k := 2) rfl (Nat.le_of_ble_eq_true rfl) h30 wd629 (fun _ _ _ => rfl) (e32 ▸ h33) dX9_is_104 (e32 ▸ ?_)
    refine s_getI X (ci := 2) (k := 9) rfl (Nat.le_of_ble_eq_true rfl) h33 wd442 (fun _ _ _ => rfl) dX9_is_107 ?_
    cases hf
    exact s_iret X hr hlk dX9_is_110
  have hf := hs28.2 c29
  have hs34 := pk_ite hf
  clear hf
  by_cases c35 : a1 = (5 : Int32)
  · have hf := hs34.1 c35
    refine s_swC X (v := (5 : Int32)) (tgt := 111) dX9_is_1 c35 (by decide) (by decide) rfl rfl ?_
    refine s_aload_n X 0 dX9_is_111 rfl rfl ?_
    obtain ⟨h36, hf⟩ := pk_chk hf
    obtain ⟨o37, e38, hf⟩ := pk_bnd hf
    obtain ⟨h39, hf⟩ := pk_chk hf
    refine s_getR X (ci := 9) (k := 2) rfl (Nat.le_of_ble_eq_true rfl) h36 wd629 (fun _ _ _ => rfl) (e38 ▸ h39) dX9_is_112 (e38 ▸ ?_)
    refine s_getI X (ci := 2) (k := 11) rfl (Nat.le_of_ble_eq_true rfl) h39 wd447 (fun _ _ _ => rfl) dX9_is_115 ?_
    cases hf
    exact s_iret X hr hlk dX9_is_118
  have hf := hs34.2 c35
  have hs40 := pk_ite hf
  clear hf
  by_cases c41 : a1 = (6 : Int32)
  · have hf := hs40.1 c41
    refine s_swC X (v := (6 : Int32)) (tgt := 119) dX9_is_1 c41 (by decide) (by decide) rfl rfl ?_
    refine s_aload_n X 0 dX9_is_119 rfl rfl ?_
    obtain ⟨h42, hf⟩ := pk_chk hf
    obtain ⟨o43, e44, hf⟩ := pk_bnd hf
    obtain ⟨h45, hf⟩ := pk_chk hf
    refine s_getR X (ci := 9) (k := 2) rfl (Nat.le_of_ble_eq_true rfl) h42 wd629 (fun _ _ _ => rfl) (e44 ▸ h45) dX9_is_120 (e44 ▸ ?_)
    refine s_getI X (ci := 2) (k := 10) rfl (Nat.le_of_ble_eq_true rfl) h45 wd444 (fun _ _ _ => rfl) dX9_is_123 ?_
    cases hf
    exact s_iret X hr hlk dX9_is_126
  have hf := hs40.2 c41
  have hs46 := pk_ite hf
  clear hf
  by_cases c47 : a1 = (7 : Int32)
  · have hf := hs46.1 c47
    refine s_swC X (v := (7 : Int32)) (tgt := 127) dX9_is_1 c47 (by decide) (by decide) rfl rfl ?_
    refine s_aload_n X 0 dX9_is_127 rfl rfl ?_
    obtain ⟨h48, hf⟩ := pk_chk hf
    obtain ⟨o49, e50, hf⟩ := pk_bnd hf
    obtain ⟨h51, hf⟩ := pk_chk hf
    refine s_getR X (ci := 9) (k := 2) rfl (Nat.le_of_ble_eq_true rfl) h48 wd629 (fun _ _ _ => rfl) (e50 ▸ h51) dX9_is_128 (e50 ▸ ?_)
    refine s_getI X (ci := 2) (k := 12) rfl (Nat.le_of_ble_eq_true rfl) h51 wd449 (fun _ _ _ => rfl) dX9_is_131 ?_
    cases hf
    exact s_iret X hr hlk dX9_is_134
  have hf := hs46.2 c47
  have hs52 := pk_ite hf
  clear hf
  by_cases c53 : a1 = (8 : Int32)
  · have hf := hs52.1 c53
    refine s_swC X (v := (8 : Int32)) (tgt := 135) dX9_is_1 c53 (by decide) (by decide) rfl rfl ?_
    refine s_aload_n X 0 dX9_is_135 rfl rfl ?_
    obtain ⟨h54, hf⟩ := pk_chk hf
    obtain ⟨o55, e56, hf⟩ := pk_bnd hf
    obtain ⟨h57, hf⟩ := pk_chk hf
    refine s_getR X (ci := 9) (k := 2) rfl (Nat.le_of_ble_eq_true rfl) h54 wd629 (fun _ _ _ => rfl) (e56 ▸ h57) dX9_is_136 (e56 ▸ ?_)
    refine s_getI X (ci := 2) (k := 14) rfl (Nat.le_of_ble_eq_true rfl) h57 wd453 (fun _ _ _ => rfl) dX9_is_139 ?_
    cases hf
    exact s_iret X hr hlk dX9_is_142
  have hf := hs52.2 c53
  have hs58 := pk_ite hf
  clear hf
  by_cases c59 : a1 = (9 : Int32)
  · have hf := hs58.1 c59
    refine s_swC X (v := (9 : Int32)) (tgt := 143) dX9_is_1 c59 (by decide) (by decide) rfl rfl ?_
    refine s_aload_n X 0 dX9_is_143 rfl rfl ?_
    obtain ⟨h60, hf⟩ := pk_chk hf
    obtain ⟨o61, e62, hf⟩ := pk_bnd hf
    obtain ⟨h63, hf⟩ := pk_chk hf
    refine s_getR X (ci := 9) (k := 2) rfl (Nat.le_of_ble_eq_true rfl) h60 wd629 (fun _ _ _ => rfl) (e62 ▸ h63) dX9_is_144 (e62 ▸ ?_)
    refine s_getI X (ci := 2) (k := 15) rfl (Nat.le_of_ble_eq_true rfl) h63 wd455 (fun _ _ _ => rfl) dX9_is_147 ?_
    cases hf
    exact s_iret X hr hlk dX9_is_150
  have hf := hs58.2 c59
  have hs64 := pk_ite hf
  clear hf
  by_cases c65 : a1 = (10 : Int32)
  · have hf := hs64.1 c65
    refine s_swC X (v := (10 : Int32)) (tgt := 151) dX9_is_1 c65 (by decide) (by decide) rfl rfl ?_
    refine s_aload_n X 0 dX9_is_151 rfl rfl ?_
    obtain ⟨h66, hf⟩ := pk_chk hf
    obtain ⟨o67, e68, hf⟩ := pk_bnd hf
    obtain ⟨h69, hf⟩ := pk_chk hf
    refine s_getR X (ci := 9) (k := 2) rfl (Nat.le_of_ble_eq_true rfl) h66 wd629 (fun _ _ _ => rfl) (e68 ▸ h69) dX9_is_152 (e68 ▸ ?_)
    obtain ⟨r71, hc70, hf⟩ := pk_obd hf
    refine s_callV X (ci := 2) (k_X2_countMoves G hc70) rfl h69 wd1160 wd1161 wd1162 wd1163 wd130 cd_X2_countMoves ⟨Nat.le_of_ble_eq_true rfl, Nat.le_of_ble_eq_true rfl⟩ (Nat.le_of_ble_eq_true rfl) dX9_is_155 ?_
    cases hf
    exact s_iret X hr hlk dX9_is_158
  have hf := hs64.2 c65
  have hs72 := pk_ite hf
  clear hf
  by_cases c73 : a1 = (11 : Int32)
  · have hf := hs72.1 c73
    refine s_swC X (v := (11 : Int32)) (tgt := 159) dX9_is_1 c73 (by decide) (by decide) rfl rfl ?_
    refine s_aload_n X 0 dX9_is_159 rfl rfl ?_
    obtain ⟨h74, hf⟩ := pk_chk hf
    obtain ⟨o75, e76, hf⟩ := pk_bnd hf
    obtain ⟨h77, hf⟩ := pk_chk hf
    refine s_getR X (ci := 9) (k := 2) rfl (Nat.le_of_ble_eq_true rfl) h74 wd629 (fun _ _ _ => rfl) (e76 ▸ h77) dX9_is_160 (e76 ▸ ?_)
    refine s_getI X (ci := 2) (k := 13) rfl (Nat.le_of_ble_eq_true rfl) h77 wd451 (fun _ _ _ => rfl) dX9_is_163 ?_
    cases hf
    exact s_iret X hr hlk dX9_is_166
  have hf := hs72.2 c73
  have hs78 := pk_ite hf
  clear hf
  by_cases c79 : a1 = (12 : Int32)
  · have hf := hs78.1 c79
    refine s_swC X (v := (12 : Int32)) (tgt := 167) dX9_is_1 c79 (by decide) (by decide) rfl rfl ?_
    refine s_aload_n X 0 dX9_is_167 rfl rfl ?_
    obtain ⟨h80, hf⟩ := pk_chk hf
    obtain ⟨o81, e82, hf⟩ := pk_bnd hf
    obtain ⟨h83, hf⟩ := pk_chk hf
    refine s_getR X (ci := 9) (k := 2) rfl (Nat.le_of_ble_eq_true rfl) h80 wd629 (fun _ _ _ => rfl) (e82 ▸ h83) dX9_is_168 (e82 ▸ ?_)
    obtain ⟨r85, M86, hc84, hf⟩ := pk_obd2 hf
    refine s_callV X (ci := 2) (k_X2_round G hc84) rfl h83 wd1164 wd1165 wd1166 wd1167 wd130 cd_X2_round ⟨Nat.le_of_ble_eq_true rfl, Nat.le_of_ble_eq_true rfl⟩ (Nat.le_of_ble_eq_true rfl) dX9_is_171 ?_
    cases hf
    exact s_iret X hr hlk dX9_is_174
  have hf := hs78.2 c79
  refine s_swOut X (tgt := 175) dX9_is_1 (by have := sw_ne (v := (0 : Int32)) (z := 0) c2 (by decide); have := sw_ne (v := (1 : Int32)) (z := 1) c8 (by decide); have := sw_ne (v := (2 : Int32)) (z := 2) c17 (by decide); have := sw_ne (v := (3 : Int32)) (z := 3) c23 (by decide); have := sw_ne (v := (4 : Int32)) (z := 4) c29 (by decide); have := sw_ne (v := (5 : Int32)) (z := 5) c35 (by decide); have := sw_ne (v := (6 : Int32)) (z := 6) c41 (by decide); have := sw_ne (v := (7 : Int32)) (z := 7) c47 (by decide); have := sw_ne (v := (8 : Int32)) (z := 8) c53 (by decide); have := sw_ne (v := (9 : Int32)) (z := 9) c59 (by decide); have := sw_ne (v := (10 : Int32)) (z := 10) c65 (by decide); have := sw_ne (v := (11 : Int32)) (z := 11) c73 (by decide); have := sw_ne (v := (12 : Int32)) (z := 12) c79 (by decide); omega) rfl ?_
  refine s_iconst X (v := (-1 : Int32)) dX9_is_175 rfl ?_
  cases hf
  exact s_iret X hr hlk dX9_is_176
theorem dX10_layMoves_0 : decode cX10_layMoves 0 = .ok (.aload_n 0, 1) := dk_42 (by decide +kernel)
theorem dX10_layMoves_1 : decode cX10_layMoves 1 = .ok (.iconst 0, 1) := dk_3 (by decide +kernel)
theorem dX10_layMoves_2 : decode cX10_layMoves 2 = .ok (.putfield 271, 3) := dk_181 (x := 1) (y := 15) (by decide +kernel) rfl
theorem dX10_layMoves_5 : decode cX10_layMoves 5 = .ok (.iconst (-1), 1) := dk_2 (by decide +kernel)
theorem dX10_layMoves_6 : decode cX10_layMoves 6 = .ok (.istore_n 1, 1) := dk_60 (by decide +kernel)
theorem dX10_layMoves_7 : decode cX10_layMoves 7 = .ok (.iconst 0, 1) := dk_3 (by decide +kernel)
theorem dX10_layMoves_8 : decode cX10_layMoves 8 = .ok (.istore_n 2, 1) := dk_61 (by decide +kernel)
theorem dX10_layMoves_9 : decode cX10_layMoves 9 = .ok (.iload_n 2, 1) := dk_28 (by decide +kernel)
theorem dX10_layMoves_10 : decode cX10_layMoves 10 = .ok (.aload_n 0, 1) := dk_42 (by decide +kernel)
theorem dX10_layMoves_11 : decode cX10_layMoves 11 = .ok (.getfield 7, 3) := dk_180 (x := 0) (y := 7) (by decide +kernel) rfl
theorem dX10_layMoves_14 : decode cX10_layMoves 14 = .ok (.sipush 850, 3) := dk_17 (x := 3) (y := 82) (by decide +kernel) rfl
theorem dX10_layMoves_17 : decode cX10_layMoves 17 = .ok (.iaload, 1) := dk_46 (by decide +kernel)
theorem dX10_layMoves_18 : decode cX10_layMoves 18 = .ok (.if_icmp .ge 63, 3) := dk_162 (x := 0) (y := 63) (by decide +kernel) rfl
theorem dX10_layMoves_21 : decode cX10_layMoves 21 = .ok (.aload_n 0, 1) := dk_42 (by decide +kernel)
theorem dX10_layMoves_22 : decode cX10_layMoves 22 = .ok (.getfield 7, 3) := dk_180 (x := 0) (y := 7) (by decide +kernel) rfl
theorem dX10_layMoves_25 : decode cX10_layMoves 25 = .ok (.sipush 851, 3) := dk_17 (x := 3) (y := 83) (by decide +kernel) rfl
theorem dX10_layMoves_28 : decode cX10_layMoves 28 = .ok (.iload_n 2, 1) := dk_28 (by decide +kernel)
theorem dX10_layMoves_29 : decode cX10_layMoves 29 = .ok (.iadd, 1) := dk_96 (by decide +kernel)
theorem dX10_layMoves_30 : decode cX10_layMoves 30 = .ok (.iaload, 1) := dk_46 (by decide +kernel)
theorem dX10_layMoves_31 : decode cX10_layMoves 31 = .ok (.invokestatic 140, 3) := dk_184 (x := 0) (y := 140) (by decide +kernel) rfl
theorem dX10_layMoves_34 : decode cX10_layMoves 34 = .ok (.iload_n 1, 1) := dk_27 (by decide +kernel)
theorem dX10_layMoves_35 : decode cX10_layMoves 35 = .ok (.if_icmp .ne 6, 3) := dk_160 (x := 0) (y := 6) (by decide +kernel) rfl
theorem dX10_layMoves_38 : decode cX10_layMoves 38 = .ok (.goto 37, 3) := dk_167 (x := 0) (y := 37) (by decide +kernel) rfl
theorem dX10_layMoves_41 : decode cX10_layMoves 41 = .ok (.aload_n 0, 1) := dk_42 (by decide +kernel)
theorem dX10_layMoves_42 : decode cX10_layMoves 42 = .ok (.getfield 7, 3) := dk_180 (x := 0) (y := 7) (by decide +kernel) rfl
theorem dX10_layMoves_45 : decode cX10_layMoves 45 = .ok (.sipush 851, 3) := dk_17 (x := 3) (y := 83) (by decide +kernel) rfl
theorem dX10_layMoves_48 : decode cX10_layMoves 48 = .ok (.iload_n 2, 1) := dk_28 (by decide +kernel)
theorem dX10_layMoves_49 : decode cX10_layMoves 49 = .ok (.iadd, 1) := dk_96 (by decide +kernel)
theorem dX10_layMoves_50 : decode cX10_layMoves 50 = .ok (.iaload, 1) := dk_46 (by decide +kernel)
theorem dX10_layMoves_51 : decode cX10_layMoves 51 = .ok (.invokestatic 140, 3) := dk_184 (x := 0) (y := 140) (by decide +kernel) rfl
theorem dX10_layMoves_54 : decode cX10_layMoves 54 = .ok (.istore_n 1, 1) := dk_60 (by decide +kernel)
theorem dX10_layMoves_55 : decode cX10_layMoves 55 = .ok (.aload_n 0, 1) := dk_42 (by decide +kernel)
theorem dX10_layMoves_56 : decode cX10_layMoves 56 = .ok (.getfield 19, 3) := dk_180 (x := 0) (y := 19) (by decide +kernel) rfl
theorem dX10_layMoves_59 : decode cX10_layMoves 59 = .ok (.aload_n 0, 1) := dk_42 (by decide +kernel)
theorem dX10_layMoves_60 : decode cX10_layMoves 60 = .ok (.getfield 271, 3) := dk_180 (x := 1) (y := 15) (by decide +kernel) rfl
theorem dX10_layMoves_63 : decode cX10_layMoves 63 = .ok (.iload_n 1, 1) := dk_27 (by decide +kernel)
theorem dX10_layMoves_64 : decode cX10_layMoves 64 = .ok (.iastore, 1) := dk_79 (by decide +kernel)
theorem dX10_layMoves_65 : decode cX10_layMoves 65 = .ok (.aload_n 0, 1) := dk_42 (by decide +kernel)
theorem dX10_layMoves_66 : decode cX10_layMoves 66 = .ok (.dup, 1) := dk_89 (by decide +kernel)
theorem dX10_layMoves_67 : decode cX10_layMoves 67 = .ok (.getfield 271, 3) := dk_180 (x := 1) (y := 15) (by decide +kernel) rfl
theorem dX10_layMoves_70 : decode cX10_layMoves 70 = .ok (.iconst 1, 1) := dk_4 (by decide +kernel)
theorem dX10_layMoves_71 : decode cX10_layMoves 71 = .ok (.iadd, 1) := dk_96 (by decide +kernel)
theorem dX10_layMoves_72 : decode cX10_layMoves 72 = .ok (.putfield 271, 3) := dk_181 (x := 1) (y := 15) (by decide +kernel) rfl
theorem dX10_layMoves_75 : decode cX10_layMoves 75 = .ok (.iinc 2 1, 3) := dk_132 (x := 2) (y := 1) (by decide +kernel) rfl
theorem dX10_layMoves_78 : decode cX10_layMoves 78 = .ok (.goto (-69), 3) := dk_167 (x := 255) (y := 187) (by decide +kernel) rfl
theorem dX10_layMoves_81 : decode cX10_layMoves 81 = .ok (.iconst 0, 1) := dk_3 (by decide +kernel)
theorem dX10_layMoves_82 : decode cX10_layMoves 82 = .ok (.istore_n 2, 1) := dk_61 (by decide +kernel)
theorem dX10_layMoves_83 : decode cX10_layMoves 83 = .ok (.iload_n 2, 1) := dk_28 (by decide +kernel)
theorem dX10_layMoves_84 : decode cX10_layMoves 84 = .ok (.aload_n 0, 1) := dk_42 (by decide +kernel)
theorem dX10_layMoves_85 : decode cX10_layMoves 85 = .ok (.getfield 7, 3) := dk_180 (x := 0) (y := 7) (by decide +kernel) rfl
theorem dX10_layMoves_88 : decode cX10_layMoves 88 = .ok (.iconst 0, 1) := dk_3 (by decide +kernel)
theorem dX10_layMoves_89 : decode cX10_layMoves 89 = .ok (.iaload, 1) := dk_46 (by decide +kernel)
theorem dX10_layMoves_90 : decode cX10_layMoves 90 = .ok (.if_icmp .ge 44, 3) := dk_162 (x := 0) (y := 44) (by decide +kernel) rfl
theorem dX10_layMoves_93 : decode cX10_layMoves 93 = .ok (.aload_n 0, 1) := dk_42 (by decide +kernel)
theorem dX10_layMoves_94 : decode cX10_layMoves 94 = .ok (.iload_n 2, 1) := dk_28 (by decide +kernel)
theorem dX10_layMoves_95 : decode cX10_layMoves 95 = .ok (.iconst 0, 1) := dk_3 (by decide +kernel)
theorem dX10_layMoves_96 : decode cX10_layMoves 96 = .ok (.invokevirtual 93, 3) := dk_182 (x := 0) (y := 93) (by decide +kernel) rfl
theorem dX10_layMoves_99 : decode cX10_layMoves 99 = .ok (.iconst 2, 1) := dk_5 (by decide +kernel)
theorem dX10_layMoves_100 : decode cX10_layMoves 100 = .ok (.if_icmp .eq 6, 3) := dk_159 (x := 0) (y := 6) (by decide +kernel) rfl
theorem dX10_layMoves_103 : decode cX10_layMoves 103 = .ok (.goto 25, 3) := dk_167 (x := 0) (y := 25) (by decide +kernel) rfl
theorem dX10_layMoves_106 : decode cX10_layMoves 106 = .ok (.aload_n 0, 1) := dk_42 (by decide +kernel)
theorem dX10_layMoves_107 : decode cX10_layMoves 107 = .ok (.getfield 19, 3) := dk_180 (x := 0) (y := 19) (by decide +kernel) rfl
theorem dX10_layMoves_110 : decode cX10_layMoves 110 = .ok (.aload_n 0, 1) := dk_42 (by decide +kernel)
theorem dX10_layMoves_111 : decode cX10_layMoves 111 = .ok (.getfield 271, 3) := dk_180 (x := 1) (y := 15) (by decide +kernel) rfl
theorem dX10_layMoves_114 : decode cX10_layMoves 114 = .ok (.iconst (-1), 1) := dk_2 (by decide +kernel)
theorem dX10_layMoves_115 : decode cX10_layMoves 115 = .ok (.iload_n 2, 1) := dk_28 (by decide +kernel)
theorem dX10_layMoves_116 : decode cX10_layMoves 116 = .ok (.isub, 1) := dk_100 (by decide +kernel)
theorem dX10_layMoves_117 : decode cX10_layMoves 117 = .ok (.iastore, 1) := dk_79 (by decide +kernel)
theorem dX10_layMoves_118 : decode cX10_layMoves 118 = .ok (.aload_n 0, 1) := dk_42 (by decide +kernel)
theorem dX10_layMoves_119 : decode cX10_layMoves 119 = .ok (.dup, 1) := dk_89 (by decide +kernel)
theorem dX10_layMoves_120 : decode cX10_layMoves 120 = .ok (.getfield 271, 3) := dk_180 (x := 1) (y := 15) (by decide +kernel) rfl
theorem dX10_layMoves_123 : decode cX10_layMoves 123 = .ok (.iconst 1, 1) := dk_4 (by decide +kernel)
theorem dX10_layMoves_124 : decode cX10_layMoves 124 = .ok (.iadd, 1) := dk_96 (by decide +kernel)
theorem dX10_layMoves_125 : decode cX10_layMoves 125 = .ok (.putfield 271, 3) := dk_181 (x := 1) (y := 15) (by decide +kernel) rfl
theorem dX10_layMoves_128 : decode cX10_layMoves 128 = .ok (.iinc 2 1, 3) := dk_132 (x := 2) (y := 1) (by decide +kernel) rfl
theorem dX10_layMoves_131 : decode cX10_layMoves 131 = .ok (.goto (-48), 3) := dk_167 (x := 255) (y := 208) (by decide +kernel) rfl
theorem dX10_layMoves_134 : decode cX10_layMoves 134 = .ok (.iconst 0, 1) := dk_3 (by decide +kernel)
theorem dX10_layMoves_135 : decode cX10_layMoves 135 = .ok (.istore_n 2, 1) := dk_61 (by decide +kernel)
theorem dX10_layMoves_136 : decode cX10_layMoves 136 = .ok (.iload_n 2, 1) := dk_28 (by decide +kernel)
theorem dX10_layMoves_137 : decode cX10_layMoves 137 = .ok (.aload_n 0, 1) := dk_42 (by decide +kernel)
theorem dX10_layMoves_138 : decode cX10_layMoves 138 = .ok (.getfield 7, 3) := dk_180 (x := 0) (y := 7) (by decide +kernel) rfl
theorem dX10_layMoves_141 : decode cX10_layMoves 141 = .ok (.iconst 0, 1) := dk_3 (by decide +kernel)
theorem dX10_layMoves_142 : decode cX10_layMoves 142 = .ok (.iaload, 1) := dk_46 (by decide +kernel)
theorem dX10_layMoves_143 : decode cX10_layMoves 143 = .ok (.if_icmp .ge 70, 3) := dk_162 (x := 0) (y := 70) (by decide +kernel) rfl
theorem dX10_layMoves_146 : decode cX10_layMoves 146 = .ok (.aload_n 0, 1) := dk_42 (by decide +kernel)
theorem dX10_layMoves_147 : decode cX10_layMoves 147 = .ok (.getfield 274, 3) := dk_180 (x := 1) (y := 18) (by decide +kernel) rfl
theorem dX10_layMoves_150 : decode cX10_layMoves 150 = .ok (.iload_n 2, 1) := dk_28 (by decide +kernel)
theorem dX10_layMoves_151 : decode cX10_layMoves 151 = .ok (.invokestatic 45, 3) := dk_184 (x := 0) (y := 45) (by decide +kernel) rfl
theorem dX10_layMoves_154 : decode cX10_layMoves 154 = .ok (.ifCond .eq 53, 3) := dk_153 (x := 0) (y := 53) (by decide +kernel) rfl
theorem dX10_layMoves_157 : decode cX10_layMoves 157 = .ok (.aload_n 0, 1) := dk_42 (by decide +kernel)
theorem dX10_layMoves_158 : decode cX10_layMoves 158 = .ok (.iload_n 2, 1) := dk_28 (by decide +kernel)
theorem dX10_layMoves_159 : decode cX10_layMoves 159 = .ok (.invokevirtual 208, 3) := dk_182 (x := 0) (y := 208) (by decide +kernel) rfl
theorem dX10_layMoves_162 : decode cX10_layMoves 162 = .ok (.ifCond .eq 45, 3) := dk_153 (x := 0) (y := 45) (by decide +kernel) rfl
theorem dX10_layMoves_165 : decode cX10_layMoves 165 = .ok (.aload_n 0, 1) := dk_42 (by decide +kernel)
theorem dX10_layMoves_166 : decode cX10_layMoves 166 = .ok (.iload_n 2, 1) := dk_28 (by decide +kernel)
theorem dX10_layMoves_167 : decode cX10_layMoves 167 = .ok (.iconst 2, 1) := dk_5 (by decide +kernel)
theorem dX10_layMoves_168 : decode cX10_layMoves 168 = .ok (.invokevirtual 93, 3) := dk_182 (x := 0) (y := 93) (by decide +kernel) rfl
theorem dX10_layMoves_171 : decode cX10_layMoves 171 = .ok (.aload_n 0, 1) := dk_42 (by decide +kernel)
theorem dX10_layMoves_172 : decode cX10_layMoves 172 = .ok (.getfield 22, 3) := dk_180 (x := 0) (y := 22) (by decide +kernel) rfl
theorem dX10_layMoves_175 : decode cX10_layMoves 175 = .ok (.iload_n 2, 1) := dk_28 (by decide +kernel)
theorem dX10_layMoves_176 : decode cX10_layMoves 176 = .ok (.iaload, 1) := dk_46 (by decide +kernel)
theorem dX10_layMoves_177 : decode cX10_layMoves 177 = .ok (.if_icmp .eq 6, 3) := dk_159 (x := 0) (y := 6) (by decide +kernel) rfl
theorem dX10_layMoves_180 : decode cX10_layMoves 180 = .ok (.goto 27, 3) := dk_167 (x := 0) (y := 27) (by decide +kernel) rfl
theorem dX10_layMoves_183 : decode cX10_layMoves 183 = .ok (.aload_n 0, 1) := dk_42 (by decide +kernel)
theorem dX10_layMoves_184 : decode cX10_layMoves 184 = .ok (.getfield 19, 3) := dk_180 (x := 0) (y := 19) (by decide +kernel) rfl
theorem dX10_layMoves_187 : decode cX10_layMoves 187 = .ok (.aload_n 0, 1) := dk_42 (by decide +kernel)
theorem dX10_layMoves_188 : decode cX10_layMoves 188 = .ok (.getfield 271, 3) := dk_180 (x := 1) (y := 15) (by decide +kernel) rfl
theorem dX10_layMoves_191 : decode cX10_layMoves 191 = .ok (.sipush 256, 3) := dk_17 (x := 1) (y := 0) (by decide +kernel) rfl
theorem dX10_layMoves_194 : decode cX10_layMoves 194 = .ok (.iload_n 2, 1) := dk_28 (by decide +kernel)
theorem dX10_layMoves_195 : decode cX10_layMoves 195 = .ok (.iadd, 1) := dk_96 (by decide +kernel)
theorem dX10_layMoves_196 : decode cX10_layMoves 196 = .ok (.iastore, 1) := dk_79 (by decide +kernel)
theorem dX10_layMoves_197 : decode cX10_layMoves 197 = .ok (.aload_n 0, 1) := dk_42 (by decide +kernel)
theorem dX10_layMoves_198 : decode cX10_layMoves 198 = .ok (.dup, 1) := dk_89 (by decide +kernel)
theorem dX10_layMoves_199 : decode cX10_layMoves 199 = .ok (.getfield 271, 3) := dk_180 (x := 1) (y := 15) (by decide +kernel) rfl
theorem dX10_layMoves_202 : decode cX10_layMoves 202 = .ok (.iconst 1, 1) := dk_4 (by decide +kernel)
theorem dX10_layMoves_203 : decode cX10_layMoves 203 = .ok (.iadd, 1) := dk_96 (by decide +kernel)
theorem dX10_layMoves_204 : decode cX10_layMoves 204 = .ok (.putfield 271, 3) := dk_181 (x := 1) (y := 15) (by decide +kernel) rfl
theorem dX10_layMoves_207 : decode cX10_layMoves 207 = .ok (.iinc 2 1, 3) := dk_132 (x := 2) (y := 1) (by decide +kernel) rfl
theorem dX10_layMoves_210 : decode cX10_layMoves 210 = .ok (.goto (-74), 3) := dk_167 (x := 255) (y := 182) (by decide +kernel) rfl
theorem dX10_layMoves_213 : decode cX10_layMoves 213 = .ok (.return_, 1) := dk_177 (by decide +kernel)
def f_X10_layMoves_136 : Nat → Nat → Int32 → Mem → Option Mem
  | 0, _, _, _ => none
  | n + 1, v0, v2, M =>
    chk (isO M 10 v0) <|
    bnd (mR M v0 0) fun o2 =>
    chk (isO M 100 o2) <|
    chk (inB (0 : Int32) (mLn M o2)) <|
    if (mI M o2 ((0 : Int32)).toNatClampNeg) ≤ v2 then (
      some M
      ) else (
      obd (f_X10_has (mI M v0 7) v2 M) fun r9 =>
      if r9 = 0 then (
        bnd (v2 + (1 : Int32)) fun x12 =>
        f_X10_layMoves_136 n v0 x12 M
        ) else (
        obd2 (f_X10_canAsk n v0 v2 M) fun r15 M16 =>
        if r15 = 0 then (
          bnd (v2 + (1 : Int32)) fun x19 =>
          f_X10_layMoves_136 n v0 x19 M16
          ) else (
          chk (isO M16 10 v0) <|
          obd (f_X10_get v0 v2 (2 : Int32) M16) fun r23 =>
          bnd (mR M16 v0 5) fun o24 =>
          chk (isO M16 100 o24) <|
          chk (inB v2 (mLn M16 o24)) <|
          if r23 = (mI M16 o24 (v2).toNatClampNeg) then (
            bnd (mR M16 v0 4) fun o30 =>
            chk (isO M16 100 o30) <|
            chk (inB (mI M16 v0 6) (mLn M16 o30)) <|
            bnd (sI M16 o30 ((mI M16 v0 6)).toNatClampNeg ((256 : Int32) + v2)) fun M34 =>
            bnd (sI M34 v0 6 ((mI M34 v0 6) + (1 : Int32))) fun M39 =>
            bnd (v2 + (1 : Int32)) fun x44 =>
            f_X10_layMoves_136 n v0 x44 M39
            ) else (
            bnd (v2 + (1 : Int32)) fun x46 =>
            f_X10_layMoves_136 n v0 x46 M16
            )
          )
        )
      )
def f_X10_layMoves_83 : Nat → Nat → Int32 → Mem → Option Mem
  | 0, _, _, _ => none
  | n + 1, v0, v2, M =>
    chk (isO M 10 v0) <|
    bnd (mR M v0 0) fun o2 =>
    chk (isO M 100 o2) <|
    chk (inB (0 : Int32) (mLn M o2)) <|
    if (mI M o2 ((0 : Int32)).toNatClampNeg) ≤ v2 then (
      f_X10_layMoves_136 n v0 (0 : Int32) M
      ) else (
      obd (f_X10_get v0 v2 (0 : Int32) M) fun r9 =>
      if r9 = (2 : Int32) then (
        bnd (mR M v0 4) fun o12 =>
        chk (isO M 100 o12) <|
        chk (inB (mI M v0 6) (mLn M o12)) <|
        bnd (sI M o12 ((mI M v0 6)).toNatClampNeg ((-1 : Int32) - v2)) fun M16 =>
        bnd (sI M16 v0 6 ((mI M16 v0 6) + (1 : Int32))) fun M21 =>
        bnd (v2 + (1 : Int32)) fun x26 =>
        f_X10_layMoves_83 n v0 x26 M21
        ) else (
        bnd (v2 + (1 : Int32)) fun x28 =>
        f_X10_layMoves_83 n v0 x28 M
        )
      )
def f_X10_layMoves_9 : Nat → Nat → Int32 → Int32 → Mem → Option Mem
  | 0, _, _, _, _ => none
  | n + 1, v0, v1, v2, M =>
    chk (isO M 10 v0) <|
    bnd (mR M v0 0) fun o2 =>
    chk (isO M 100 o2) <|
    chk (inB (850 : Int32) (mLn M o2)) <|
    if (mI M o2 ((850 : Int32)).toNatClampNeg) ≤ v2 then (
      f_X10_layMoves_83 n v0 (0 : Int32) M
      ) else (
      bnd (mR M v0 0) fun o8 =>
      chk (isO M 100 o8) <|
      chk (inB ((851 : Int32) + v2) (mLn M o8)) <|
      obd (f_X10_pairOf (mI M o8 (((851 : Int32) + v2)).toNatClampNeg) M) fun r13 =>
      if r13 = v1 then (
        bnd (v2 + (1 : Int32)) fun x42 =>
        f_X10_layMoves_9 n v0 v1 x42 M
        ) else (
        bnd (mR M v0 0) fun o16 =>
        chk (isO M 100 o16) <|
        chk (inB ((851 : Int32) + v2) (mLn M o16)) <|
        obd (f_X10_pairOf (mI M o16 (((851 : Int32) + v2)).toNatClampNeg) M) fun r21 =>
        bnd (mR M v0 4) fun o22 =>
        chk (isO M 100 o22) <|
        chk (inB (mI M v0 6) (mLn M o22)) <|
        bnd (sI M o22 ((mI M v0 6)).toNatClampNeg r21) fun M26 =>
        bnd (sI M26 v0 6 ((mI M26 v0 6) + (1 : Int32))) fun M33 =>
        bnd (v2 + (1 : Int32)) fun x40 =>
        f_X10_layMoves_9 n v0 r21 x40 M33
        )
      )
def f_X10_layMoves (n : Nat) (o : Nat) (M : Mem) : Option Mem :=
  chk (isO M 10 o) <|
  bnd (sI M o 6 (0 : Int32)) fun M2 =>
  f_X10_layMoves_9 n o (-1 : Int32) (0 : Int32) M2
theorem cd_X10_layMoves : (yX10_layMoves.cls ≠ "java/lang/invoke/MethodHandle" ∧ yX10_layMoves.cls ≠ "java/lang/invoke/VarHandle") ∧ (parseMethodDescriptor yX10_layMoves.desc).map (fun d => d.parameters.length) = some 0 := ⟨⟨by decide +kernel, by decide +kernel⟩, by decide +kernel⟩
section
variable {p : Program} {l : Launch} {e : Env} {R : Room} {s : State} {m : MethodId} {args : Array Value} {below : List Frame} {meth : Method} {c : Code} {G : Gam} {M0 : Mem}
theorem l_X10_layMoves_136 {rv : Mem} (X : Cx p R s m args c G M0 cX10_layMoves yX10_layMoves.cls 3 5 111) (hr : meth.sig.returnType = none) (hlk : meth.locks = false) (hnm : meth.name = "layMoves") : ∀ {n : Nat} (v0 : Nat) (v2 : Int32) (M : Mem), f_X10_layMoves_136 n v0 v2 M = some rv → Sg p l e R s m args below meth c (Qm below G args s none M0 rv) G M0 3 136 [(0, .ref (gB G + v0)), (2, .int v2)] [] M := by
  intro n
  induction n with
  | zero => intro v0 v2 M hf; exact (pk_none hf).elim
  | succ n ih =>
    intro v0 v2 M hf
    rw [f_X10_layMoves_136] at hf
    refine s_iload_n X 1 dX10_layMoves_136 rfl rfl ?_
    refine s_aload_n X 0 dX10_layMoves_137 rfl rfl ?_
    obtain ⟨h1, hf⟩ := pk_chk hf
    obtain ⟨o2, e3, hf⟩ := pk_bnd hf
    obtain ⟨h4, hf⟩ := pk_chk hf
    refine s_getR X (ci := 10) (k := 0) rfl (Nat.le_of_ble_eq_true rfl) h1 wd1440 (fun _ _ _ => rfl) (e3 ▸ h4) dX10_layMoves_138 (e3 ▸ ?_)
    refine s_iconst X (v := (0 : Int32)) dX10_layMoves_141 rfl ?_
    obtain ⟨h5, hf⟩ := pk_chk hf
    refine s_iald X h4 h5 dX10_layMoves_142 ?_
    have hs6 := pk_ite hf
    clear hf
    refine s_icmp_ge X (tgt := 213) dX10_layMoves_143 rfl (fun c7 => ?_) (fun c7 => ?_)
    · have hf := hs6.1 c7
      cases hf
      exact s_vret X hr hlk dX10_layMoves_213
    · have hf := hs6.2 c7
      refine s_aload_n X 0 dX10_layMoves_146 rfl rfl ?_
      refine s_getI X (ci := 10) (k := 7) rfl (Nat.le_of_ble_eq_true rfl) h1 wd1447 (fun _ _ _ => rfl) dX10_layMoves_147 ?_
      refine s_iload_n X 1 dX10_layMoves_150 rfl rfl ?_
      obtain ⟨r9, hc8, hf⟩ := pk_obd hf
      refine s_callS X (k_X10_has G hc8) wd1565 wd1566 wd1567 wd138 cd_X10_has ⟨Nat.le_of_ble_eq_true rfl, Nat.le_of_ble_eq_true rfl⟩ (Nat.le_of_ble_eq_true rfl) dX10_layMoves_151 ?_
      have hs10 := pk_ite hf
      clear hf
      refine s_if_eq X (tgt := 207) dX10_layMoves_154 rfl (fun c11 => ?_) (fun c11 => ?_)
      · have hf := hs10.1 c11
        obtain ⟨x12, e13, hf⟩ := pk_bnd hf
        refine s_iinc X (vs' := [(0, .ref (gB G + v0)), (2, .int x12)]) 1 dX10_layMoves_207 rfl (v := x12) e13.symm (Nat.le_of_ble_eq_true rfl) [1, 0] rfl ?_
        refine s_goto X (tgt := 136) dX10_layMoves_210 rfl ?_
        exact ih _ _ _ hf
      · have hf := hs10.2 c11
        refine s_aload_n X 0 dX10_layMoves_157 rfl rfl ?_
        refine s_iload_n X 1 dX10_layMoves_158 rfl rfl ?_
        obtain ⟨r15, M16, hc14, hf⟩ := pk_obd2 hf
        refine s_callV X (ci := 10) (k_X10_canAsk G hc14) rfl h1 wd1684 wd1686 wd66 wd1687 wd138 cd_X10_canAsk ⟨Nat.le_of_ble_eq_true rfl, Nat.le_of_ble_eq_true rfl⟩ (Nat.le_of_ble_eq_true rfl) dX10_layMoves_159 ?_
        have hs17 := pk_ite hf
        clear hf
        refine s_if_eq X (tgt := 207) dX10_layMoves_162 rfl (fun c18 => ?_) (fun c18 => ?_)
        · have hf := hs17.1 c18
          obtain ⟨x19, e20, hf⟩ := pk_bnd hf
          refine s_iinc X (vs' := [(0, .ref (gB G + v0)), (2, .int x19)]) 1 dX10_layMoves_207 rfl (v := x19) e20.symm (Nat.le_of_ble_eq_true rfl) [1, 0] rfl ?_
          refine s_goto X (tgt := 136) dX10_layMoves_210 rfl ?_
          exact ih _ _ _ hf
        · have hf := hs17.2 c18
          refine s_aload_n X 0 dX10_layMoves_165 rfl rfl ?_
          refine s_iload_n X 1 dX10_layMoves_166 rfl rfl ?_
          refine s_iconst X (v := (2 : Int32)) dX10_layMoves_167 rfl ?_
          obtain ⟨h21, hf⟩ := pk_chk hf
          obtain ⟨r23, hc22, hf⟩ := pk_obd hf
          refine s_callV X (ci := 10) (k_X10_get G hc22) rfl h21 wd1588 wd1590 wd57 wd1591 wd138 cd_X10_get ⟨Nat.le_of_ble_eq_true rfl, Nat.le_of_ble_eq_true rfl⟩ (Nat.le_of_ble_eq_true rfl) dX10_layMoves_168 ?_
          refine s_aload_n X 0 dX10_layMoves_171 rfl rfl ?_
          obtain ⟨o24, e25, hf⟩ := pk_bnd hf
          obtain ⟨h26, hf⟩ := pk_chk hf
          refine s_getR X (ci := 10) (k := 5) rfl (Nat.le_of_ble_eq_true rfl) h21 wd1445 (fun _ _ _ => rfl) (e25 ▸ h26) dX10_layMoves_172 (e25 ▸ ?_)
          refine s_iload_n X 1 dX10_layMoves_175 rfl rfl ?_
          obtain ⟨h27, hf⟩ := pk_chk hf
          refine s_iald X h26 h27 dX10_layMoves_176 ?_
          have hs28 := pk_ite hf
          clear hf
          refine s_icmp_eq X (tgt := 183) dX10_layMoves_177 rfl (fun c29 => ?_) (fun c29 => ?_)
          · have hf := hs28.1 c29
            refine s_aload_n X 0 dX10_layMoves_183 rfl rfl ?_
            obtain ⟨o30, e31, hf⟩ := pk_bnd hf
            obtain ⟨h32, hf⟩ := pk_chk hf
            refine s_getR X (ci := 10) (k := 4) rfl (Nat.le_of_ble_eq_true rfl) h21 wd1444 (fun _ _ _ => rfl) (e31 ▸ h32) dX10_layMoves_184 (e31 ▸ ?_)
            refine s_aload_n X 0 dX10_layMoves_187 rfl rfl ?_
            refine s_getI X (ci := 10) (k := 6) rfl (Nat.le_of_ble_eq_true rfl) h21 wd1446 (fun _ _ _ => rfl) dX10_layMoves_188 ?_
            refine s_sipush X (v := (256 : Int32)) dX10_layMoves_191 rfl ?_
            refine s_iload_n X 1 dX10_layMoves_194 rfl rfl ?_
            refine s_iadd X dX10_layMoves_195 ?_
            obtain ⟨h33, hf⟩ := pk_chk hf
            obtain ⟨M34, e35, hf⟩ := pk_bnd hf
            refine s_iast X h32 h33 e35 dX10_layMoves_196 ?_
            have h36 := io_sI e35 h21
            have h37 := io_sI e35 h26
            have h38 := io_sI e35 h32
            refine s_aload_n X 0 dX10_layMoves_197 rfl rfl ?_
            refine s_dup X dX10_layMoves_198 rfl ?_
            refine s_getI X (ci := 10) (k := 6) rfl (Nat.le_of_ble_eq_true rfl) h36 wd1446 (fun _ _ _ => rfl) dX10_layMoves_199 ?_
            refine s_iconst X (v := (1 : Int32)) dX10_layMoves_202 rfl ?_
            refine s_iadd X dX10_layMoves_203 ?_
            obtain ⟨M39, e40, hf⟩ := pk_bnd hf
            refine s_putI X (ci := 10) (k := 6) rfl (Nat.le_of_ble_eq_true rfl) h36 wd1446 (fun _ _ _ => rfl) rfl rfl e40 dX10_layMoves_204 ?_
            have h41 := io_sI e40 h36
            have h42 := io_sI e40 h37
            have h43 := io_sI e40 h38
            obtain ⟨x44, e45, hf⟩ := pk_bnd hf
            refine s_iinc X (vs' := [(0, .ref (gB G + v0)), (2, .int x44)]) 1 dX10_layMoves_207 rfl (v := x44) e45.symm (Nat.le_of_ble_eq_true rfl) [1, 0] rfl ?_
            refine s_goto X (tgt := 136) dX10_layMoves_210 rfl ?_
            exact ih _ _ _ hf
          · have hf := hs28.2 c29
            refine s_goto X (tgt := 207) dX10_layMoves_180 rfl ?_
            obtain ⟨x46, e47, hf⟩ := pk_bnd hf
            refine s_iinc X (vs' := [(0, .ref (gB G + v0)), (2, .int x46)]) 1 dX10_layMoves_207 rfl (v := x46) e47.symm (Nat.le_of_ble_eq_true rfl) [1, 0] rfl ?_
            refine s_goto X (tgt := 136) dX10_layMoves_210 rfl ?_
            exact ih _ _ _ hf
theorem l_X10_layMoves_83 {rv : Mem} (X : Cx p R s m args c G M0 cX10_layMoves yX10_layMoves.cls 3 5 111) (hr : meth.sig.returnType = none) (hlk : meth.locks = false) (hnm : meth.name = "layMoves") : ∀ {n : Nat} (v0 : Nat) (v2 : Int32) (M : Mem), f_X10_layMoves_83 n v0 v2 M = some rv → Sg p l e R s m args below meth c (Qm below G args s none M0 rv) G M0 3 83 [(0, .ref (gB G + v0)), (2, .int v2)] [] M := by
  intro n
  induction n with
  | zero => intro v0 v2 M hf; exact (pk_none hf).elim
  | succ n ih =>
    intro v0 v2 M hf
    rw [f_X10_layMoves_83] at hf
    refine s_iload_n X 1 dX10_layMoves_83 rfl rfl ?_
    refine s_aload_n X 0 dX10_layMoves_84 rfl rfl ?_
    obtain ⟨h1, hf⟩ := pk_chk hf
    obtain ⟨o2, e3, hf⟩ := pk_bnd hf
    obtain ⟨h4, hf⟩ := pk_chk hf
    refine s_getR X (ci := 10) (k := 0) rfl (Nat.le_of_ble_eq_true rfl) h1 wd1440 (fun _ _ _ => rfl) (e3 ▸ h4) dX10_layMoves_85 (e3 ▸ ?_)
    refine s_iconst X (v := (0 : Int32)) dX10_layMoves_88 rfl ?_
    obtain ⟨h5, hf⟩ := pk_chk hf
    refine s_iald X h4 h5 dX10_layMoves_89 ?_
    have hs6 := pk_ite hf
    clear hf
    refine s_icmp_ge X (tgt := 134) dX10_layMoves_90 rfl (fun c7 => ?_) (fun c7 => ?_)
    · have hf := hs6.1 c7
      refine s_iconst X (v := (0 : Int32)) dX10_layMoves_134 rfl ?_
      refine s_istore_n X (vs' := [(0, .ref (gB G + v0)), (2, .int (0 : Int32))]) dX10_layMoves_135 rfl (Nat.le_of_ble_eq_true rfl) [1, 0] rfl ?_
      exact l_X10_layMoves_136 X hr hlk hnm _ _ _ hf
    · have hf := hs6.2 c7
      refine s_aload_n X 0 dX10_layMoves_93 rfl rfl ?_
      refine s_iload_n X 1 dX10_layMoves_94 rfl rfl ?_
      refine s_iconst X (v := (0 : Int32)) dX10_layMoves_95 rfl ?_
      obtain ⟨r9, hc8, hf⟩ := pk_obd hf
      refine s_callV X (ci := 10) (k_X10_get G hc8) rfl h1 wd1588 wd1590 wd57 wd1591 wd138 cd_X10_get ⟨Nat.le_of_ble_eq_true rfl, Nat.le_of_ble_eq_true rfl⟩ (Nat.le_of_ble_eq_true rfl) dX10_layMoves_96 ?_
      refine s_iconst X (v := (2 : Int32)) dX10_layMoves_99 rfl ?_
      have hs10 := pk_ite hf
      clear hf
      refine s_icmp_eq X (tgt := 106) dX10_layMoves_100 rfl (fun c11 => ?_) (fun c11 => ?_)
      · have hf := hs10.1 c11
        refine s_aload_n X 0 dX10_layMoves_106 rfl rfl ?_
        obtain ⟨o12, e13, hf⟩ := pk_bnd hf
        obtain ⟨h14, hf⟩ := pk_chk hf
        refine s_getR X (ci := 10) (k := 4) rfl (Nat.le_of_ble_eq_true rfl) h1 wd1444 (fun _ _ _ => rfl) (e13 ▸ h14) dX10_layMoves_107 (e13 ▸ ?_)
        refine s_aload_n X 0 dX10_layMoves_110 rfl rfl ?_
        refine s_getI X (ci := 10) (k := 6) rfl (Nat.le_of_ble_eq_true rfl) h1 wd1446 (fun _ _ _ => rfl) dX10_layMoves_111 ?_
        refine s_iconst X (v := (-1 : Int32)) dX10_layMoves_114 rfl ?_
        refine s_iload_n X 1 dX10_layMoves_115 rfl rfl ?_
        refine s_isub X dX10_layMoves_116 ?_
        obtain ⟨h15, hf⟩ := pk_chk hf
        obtain ⟨M16, e17, hf⟩ := pk_bnd hf
        refine s_iast X h14 h15 e17 dX10_layMoves_117 ?_
        have h18 := io_sI e17 h1
        have h19 := io_sI e17 h4
        have h20 := io_sI e17 h14
        refine s_aload_n X 0 dX10_layMoves_118 rfl rfl ?_
        refine s_dup X dX10_layMoves_119 rfl ?_
        refine s_getI X (ci := 10) (k := 6) rfl (Nat.le_of_ble_eq_true rfl) h18 wd1446 (fun _ _ _ => rfl) dX10_layMoves_120 ?_
        refine s_iconst X (v := (1 : Int32)) dX10_layMoves_123 rfl ?_
        refine s_iadd X dX10_layMoves_124 ?_
        obtain ⟨M21, e22, hf⟩ := pk_bnd hf
        refine s_putI X (ci := 10) (k := 6) rfl (Nat.le_of_ble_eq_true rfl) h18 wd1446 (fun _ _ _ => rfl) rfl rfl e22 dX10_layMoves_125 ?_
        have h23 := io_sI e22 h18
        have h24 := io_sI e22 h19
        have h25 := io_sI e22 h20
        obtain ⟨x26, e27, hf⟩ := pk_bnd hf
        refine s_iinc X (vs' := [(0, .ref (gB G + v0)), (2, .int x26)]) 1 dX10_layMoves_128 rfl (v := x26) e27.symm (Nat.le_of_ble_eq_true rfl) [1, 0] rfl ?_
        refine s_goto X (tgt := 83) dX10_layMoves_131 rfl ?_
        exact ih _ _ _ hf
      · have hf := hs10.2 c11
        refine s_goto X (tgt := 128) dX10_layMoves_103 rfl ?_
        obtain ⟨x28, e29, hf⟩ := pk_bnd hf
        refine s_iinc X (vs' := [(0, .ref (gB G + v0)), (2, .int x28)]) 1 dX10_layMoves_128 rfl (v := x28) e29.symm (Nat.le_of_ble_eq_true rfl) [1, 0] rfl ?_
        refine s_goto X (tgt := 83) dX10_layMoves_131 rfl ?_
        exact ih _ _ _ hf
theorem l_X10_layMoves_9 {rv : Mem} (X : Cx p R s m args c G M0 cX10_layMoves yX10_layMoves.cls 3 5 111) (hr : meth.sig.returnType = none) (hlk : meth.locks = false) (hnm : meth.name = "layMoves") : ∀ {n : Nat} (v0 : Nat) (v1 : Int32) (v2 : Int32) (M : Mem), f_X10_layMoves_9 n v0 v1 v2 M = some rv → Sg p l e R s m args below meth c (Qm below G args s none M0 rv) G M0 3 9 [(0, .ref (gB G + v0)), (1, .int v1), (2, .int v2)] [] M := by
  intro n
  induction n with
  | zero => intro v0 v1 v2 M hf; exact (pk_none hf).elim
  | succ n ih =>
    intro v0 v1 v2 M hf
    rw [f_X10_layMoves_9] at hf
    refine s_iload_n X 2 dX10_layMoves_9 rfl rfl ?_
    refine s_aload_n X 0 dX10_layMoves_10 rfl rfl ?_
    obtain ⟨h1, hf⟩ := pk_chk hf
    obtain ⟨o2, e3, hf⟩ := pk_bnd hf
    obtain ⟨h4, hf⟩ := pk_chk hf
    refine s_getR X (ci := 10) (k := 0) rfl (Nat.le_of_ble_eq_true rfl) h1 wd1440 (fun _ _ _ => rfl) (e3 ▸ h4) dX10_layMoves_11 (e3 ▸ ?_)
    refine s_sipush X (v := (850 : Int32)) dX10_layMoves_14 rfl ?_
    obtain ⟨h5, hf⟩ := pk_chk hf
    refine s_iald X h4 h5 dX10_layMoves_17 ?_
    have hs6 := pk_ite hf
    clear hf
    refine s_icmp_ge X (tgt := 81) dX10_layMoves_18 rfl (fun c7 => ?_) (fun c7 => ?_)
    · have hf := hs6.1 c7
      refine s_iconst X (v := (0 : Int32)) dX10_layMoves_81 rfl ?_
      refine s_istore_n X (vs' := [(0, .ref (gB G + v0)), (1, .int v1), (2, .int (0 : Int32))]) dX10_layMoves_82 rfl (Nat.le_of_ble_eq_true rfl) [1, 2, 0] rfl ?_
      refine s_drop [0, 2] (vs' := [(0, .ref (gB G + v0)), (2, .int (0 : Int32))]) rfl ?_
      exact l_X10_layMoves_83 X hr hlk hnm _ _ _ hf
    · have hf := hs6.2 c7
      refine s_aload_n X 0 dX10_layMoves_21 rfl rfl ?_
      obtain ⟨o8, e9, hf⟩ := pk_bnd hf
      obtain ⟨h10, hf⟩ := pk_chk hf
      refine s_getR X (ci := 10) (k := 0) rfl (Nat.le_of_ble_eq_true rfl) h1 wd1440 (fun _ _ _ => rfl) (e9 ▸ h10) dX10_layMoves_22 (e9 ▸ ?_)
      refine s_sipush X (v := (851 : Int32)) dX10_layMoves_25 rfl ?_
      refine s_iload_n X 2 dX10_layMoves_28 rfl rfl ?_
      refine s_iadd X dX10_layMoves_29 ?_
      obtain ⟨h11, hf⟩ := pk_chk hf
      refine s_iald X h10 h11 dX10_layMoves_30 ?_
      obtain ⟨r13, hc12, hf⟩ := pk_obd hf
      refine s_callS X (k_X10_pairOf G hc12) wd1704 wd1705 wd1706 wd138 cd_X10_pairOf ⟨Nat.le_of_ble_eq_true rfl, Nat.le_of_ble_eq_true rfl⟩ (Nat.le_of_ble_eq_true rfl) dX10_layMoves_31 ?_
      refine s_iload_n X 1 dX10_layMoves_34 rfl rfl ?_
      have hs14 := pk_ite hf
      clear hf
      refine s_icmp_ne X (tgt := 41) dX10_layMoves_35 rfl (fun c15 => ?_) (fun c15 => ?_)
      · have hf := hs14.2 c15
        refine s_aload_n X 0 dX10_layMoves_41 rfl rfl ?_
        obtain ⟨o16, e17, hf⟩ := pk_bnd hf
        obtain ⟨h18, hf⟩ := pk_chk hf
        refine s_getR X (ci := 10) (k := 0) rfl (Nat.le_of_ble_eq_true rfl) h1 wd1440 (fun _ _ _ => rfl) (e17 ▸ h18) dX10_layMoves_42 (e17 ▸ ?_)
        refine s_sipush X (v := (851 : Int32)) dX10_layMoves_45 rfl ?_
        refine s_iload_n X 2 dX10_layMoves_48 rfl rfl ?_
        refine s_iadd X dX10_layMoves_49 ?_
        obtain ⟨h19, hf⟩ := pk_chk hf
        refine s_iald X h18 h19 dX10_layMoves_50 ?_
        obtain ⟨r21, hc20, hf⟩ := pk_obd hf
        refine s_callS X (k_X10_pairOf G hc20) wd1704 wd1705 wd1706 wd138 cd_X10_pairOf ⟨Nat.le_of_ble_eq_true rfl, Nat.le_of_ble_eq_true rfl⟩ (Nat.le_of_ble_eq_true rfl) dX10_layMoves_51 ?_
        refine s_istore_n X (vs' := [(0, .ref (gB G + v0)), (1, .int r21), (2, .int v2)]) dX10_layMoves_54 rfl (Nat.le_of_ble_eq_true rfl) [1, 0, 2] rfl ?_
        refine s_aload_n X 0 dX10_layMoves_55 rfl rfl ?_
        obtain ⟨o22, e23, hf⟩ := pk_bnd hf
        obtain ⟨h24, hf⟩ := pk_chk hf
        refine s_getR X (ci := 10) (k := 4) rfl (Nat.le_of_ble_eq_true rfl) h1 wd1444 (fun _ _ _ => rfl) (e23 ▸ h24) dX10_layMoves_56 (e23 ▸ ?_)
        refine s_aload_n X 0 dX10_layMoves_59 rfl rfl ?_
        refine s_getI X (ci := 10) (k := 6) rfl (Nat.le_of_ble_eq_true rfl) h1 wd1446 (fun _ _ _ => rfl) dX10_layMoves_60 ?_
        refine s_iload_n X 1 dX10_layMoves_63 rfl rfl ?_
        obtain ⟨h25, hf⟩ := pk_chk hf
        obtain ⟨M26, e27, hf⟩ := pk_bnd hf
        refine s_iast X h24 h25 e27 dX10_layMoves_64 ?_
        have h28 := io_sI e27 h1
        have h29 := io_sI e27 h4
        have h30 := io_sI e27 h10
        have h31 := io_sI e27 h18
        have h32 := io_sI e27 h24
        refine s_aload_n X 0 dX10_layMoves_65 rfl rfl ?_
        refine s_dup X dX10_layMoves_66 rfl ?_
        refine s_getI X (ci := 10) (k := 6) rfl (Nat.le_of_ble_eq_true rfl) h28 wd1446 (fun _ _ _ => rfl) dX10_layMoves_67 ?_
        refine s_iconst X (v := (1 : Int32)) dX10_layMoves_70 rfl ?_
        refine s_iadd X dX10_layMoves_71 ?_
        obtain ⟨M33, e34, hf⟩ := pk_bnd hf
        refine s_putI X (ci := 10) (k := 6) rfl (Nat.le_of_ble_eq_true rfl) h28 wd1446 (fun _ _ _ => rfl) rfl rfl e34 dX10_layMoves_72 ?_
        have h35 := io_sI e34 h28
        have h36 := io_sI e34 h29
        have h37 := io_sI e34 h30
        have h38 := io_sI e34 h31
        have h39 := io_sI e34 h32
        obtain ⟨x40, e41, hf⟩ := pk_bnd hf
        refine s_iinc X (vs' := [(0, .ref (gB G + v0)), (1, .int r21), (2, .int x40)]) 2 dX10_layMoves_75 rfl (v := x40) e41.symm (Nat.le_of_ble_eq_true rfl) [1, 2, 0] rfl ?_
        refine s_goto X (tgt := 9) dX10_layMoves_78 rfl ?_
        exact ih _ _ _ _ hf
      · have hf := hs14.1 c15
        refine s_goto X (tgt := 75) dX10_layMoves_38 rfl ?_
        obtain ⟨x42, e43, hf⟩ := pk_bnd hf
        refine s_iinc X (vs' := [(0, .ref (gB G + v0)), (1, .int v1), (2, .int x42)]) 2 dX10_layMoves_75 rfl (v := x42) e43.symm (Nat.le_of_ble_eq_true rfl) [1, 2, 0] rfl ?_
        refine s_goto X (tgt := 9) dX10_layMoves_78 rfl ?_
        exact ih _ _ _ _ hf
end
theorem k_X10_layMoves (G : Gam) {n : Nat} {o : Nat} {M : Mem} {rv : Mem} (hf : f_X10_layMoves n o M = some rv) : Kt yX10_layMoves cX10_layMoves 3 none 5 111 G [.ref (gB G + o)] M rv none := by
  refine Kt.of (by decide) (Nat.le_of_ble_eq_true rfl) ?_
  intro p l e R s m args below meth c X hr hlk hnm
  refine s_drop [0] (vs' := [(0, .ref (gB G + o))]) rfl ?_
  rw [f_X10_layMoves] at hf
  refine s_aload_n X 0 dX10_layMoves_0 rfl rfl ?_
  refine s_iconst X (v := (0 : Int32)) dX10_layMoves_1 rfl ?_
  obtain ⟨h1, hf⟩ := pk_chk hf
  obtain ⟨M2, e3, hf⟩ := pk_bnd hf
  refine s_putI X (ci := 10) (k := 6) rfl (Nat.le_of_ble_eq_true rfl) h1 wd1446 (fun _ _ _ => rfl) rfl rfl e3 dX10_layMoves_2 ?_
  have h4 := io_sI e3 h1
  refine s_iconst X (v := (-1 : Int32)) dX10_layMoves_5 rfl ?_
  refine s_istore_n X (vs' := [(0, .ref (gB G + o)), (1, .int (-1 : Int32))]) dX10_layMoves_6 rfl (Nat.le_of_ble_eq_true rfl) [1, 0] rfl ?_
  refine s_iconst X (v := (0 : Int32)) dX10_layMoves_7 rfl ?_
  refine s_istore_n X (vs' := [(0, .ref (gB G + o)), (1, .int (-1 : Int32)), (2, .int (0 : Int32))]) dX10_layMoves_8 rfl (Nat.le_of_ble_eq_true rfl) [1, 2, 0] rfl ?_
  exact l_X10_layMoves_9 X hr hlk hnm _ _ _ _ hf
theorem dX10_movesNow_0 : decode cX10_movesNow 0 = .ok (.aload_n 0, 1) := dk_42 (by decide +kernel)
theorem dX10_movesNow_1 : decode cX10_movesNow 1 = .ok (.invokevirtual 280, 3) := dk_182 (x := 1) (y := 24) (by decide +kernel) rfl
theorem dX10_movesNow_4 : decode cX10_movesNow 4 = .ok (.aload_n 0, 1) := dk_42 (by decide +kernel)
theorem dX10_movesNow_5 : decode cX10_movesNow 5 = .ok (.getfield 271, 3) := dk_180 (x := 1) (y := 15) (by decide +kernel) rfl
theorem dX10_movesNow_8 : decode cX10_movesNow 8 = .ok (.ireturn, 1) := dk_172 (by decide +kernel)
def f_X10_movesNow (n : Nat) (o : Nat) (M : Mem) : Option (Int32 × Mem) :=
  chk (isO M 10 o) <|
  obd (f_X10_layMoves n o M) fun M3 =>
  chk (isO M3 10 o) <|
  some ((mI M3 o 6), M3)
theorem cd_X10_movesNow : (yX10_movesNow.cls ≠ "java/lang/invoke/MethodHandle" ∧ yX10_movesNow.cls ≠ "java/lang/invoke/VarHandle") ∧ (parseMethodDescriptor yX10_movesNow.desc).map (fun d => d.parameters.length) = some 0 := ⟨⟨by decide +kernel, by decide +kernel⟩, by decide +kernel⟩
theorem k_X10_movesNow (G : Gam) {n : Nat} {o : Nat} {M : Mem} {rv : (Int32 × Mem)} (hf : f_X10_movesNow n o M = some rv) : Kt yX10_movesNow cX10_movesNow 1 (some .int) 6 133 G [.ref (gB G + o)] M rv.2 (some (.int rv.1)) := by
  refine Kt.of (by decide) (Nat.le_of_ble_eq_true rfl) ?_
  intro p l e R s m args below meth c X hr hlk hnm
  refine s_drop [0] (vs' := [(0, .ref (gB G + o))]) rfl ?_
  rw [f_X10_movesNow] at hf
  refine s_aload_n X 0 dX10_movesNow_0 rfl rfl ?_
  obtain ⟨h1, hf⟩ := pk_chk hf
  obtain ⟨M3, hc2, hf⟩ := pk_obd hf
  refine s_callV X (ci := 10) (k_X10_layMoves G hc2) rfl h1 wd1906 wd1908 wd103 wd1909 wd138 cd_X10_layMoves ⟨Nat.le_of_ble_eq_true rfl, Nat.le_of_ble_eq_true rfl⟩ (Nat.le_of_ble_eq_true rfl) dX10_movesNow_1 ?_
  refine s_aload_n X 0 dX10_movesNow_4 rfl rfl ?_
  obtain ⟨h4, hf⟩ := pk_chk hf
  refine s_getI X (ci := 10) (k := 6) rfl (Nat.le_of_ble_eq_true rfl) h4 wd1446 (fun _ _ _ => rfl) dX10_movesNow_5 ?_
  cases hf
  exact s_iret X hr hlk dX10_movesNow_8
theorem dX10_waitsNow_0 : decode cX10_waitsNow 0 = .ok (.iconst 0, 1) := dk_3 (by decide +kernel)
theorem dX10_waitsNow_1 : decode cX10_waitsNow 1 = .ok (.istore_n 2, 1) := dk_61 (by decide +kernel)
theorem dX10_waitsNow_2 : decode cX10_waitsNow 2 = .ok (.aload_n 0, 1) := dk_42 (by decide +kernel)
theorem dX10_waitsNow_3 : decode cX10_waitsNow 3 = .ok (.iload_n 1, 1) := dk_27 (by decide +kernel)
theorem dX10_waitsNow_4 : decode cX10_waitsNow 4 = .ok (.iconst 3, 1) := dk_6 (by decide +kernel)
theorem dX10_waitsNow_5 : decode cX10_waitsNow 5 = .ok (.invokevirtual 93, 3) := dk_182 (x := 0) (y := 93) (by decide +kernel) rfl
theorem dX10_waitsNow_8 : decode cX10_waitsNow 8 = .ok (.aload_n 0, 1) := dk_42 (by decide +kernel)
theorem dX10_waitsNow_9 : decode cX10_waitsNow 9 = .ok (.iload_n 1, 1) := dk_27 (by decide +kernel)
theorem dX10_waitsNow_10 : decode cX10_waitsNow 10 = .ok (.iconst 4, 1) := dk_7 (by decide +kernel)
theorem dX10_waitsNow_11 : decode cX10_waitsNow 11 = .ok (.invokevirtual 93, 3) := dk_182 (x := 0) (y := 93) (by decide +kernel) rfl
theorem dX10_waitsNow_14 : decode cX10_waitsNow 14 = .ok (.iconst (-1), 1) := dk_2 (by decide +kernel)
theorem dX10_waitsNow_15 : decode cX10_waitsNow 15 = .ok (.ixor, 1) := dk_130 (by decide +kernel)
theorem dX10_waitsNow_16 : decode cX10_waitsNow 16 = .ok (.iand, 1) := dk_126 (by decide +kernel)
theorem dX10_waitsNow_17 : decode cX10_waitsNow 17 = .ok (.istore_n 3, 1) := dk_62 (by decide +kernel)
theorem dX10_waitsNow_18 : decode cX10_waitsNow 18 = .ok (.iconst 0, 1) := dk_3 (by decide +kernel)
theorem dX10_waitsNow_19 : decode cX10_waitsNow 19 = .ok (.istore 4, 2) := dk_54 (x := 4) (by decide +kernel)
theorem dX10_waitsNow_21 : decode cX10_waitsNow 21 = .ok (.iload 4, 2) := dk_21 (x := 4) (by decide +kernel)
theorem dX10_waitsNow_23 : decode cX10_waitsNow 23 = .ok (.aload_n 0, 1) := dk_42 (by decide +kernel)
theorem dX10_waitsNow_24 : decode cX10_waitsNow 24 = .ok (.getfield 7, 3) := dk_180 (x := 0) (y := 7) (by decide +kernel) rfl
theorem dX10_waitsNow_27 : decode cX10_waitsNow 27 = .ok (.iconst 0, 1) := dk_3 (by decide +kernel)
theorem dX10_waitsNow_28 : decode cX10_waitsNow 28 = .ok (.iaload, 1) := dk_46 (by decide +kernel)
theorem dX10_waitsNow_29 : decode cX10_waitsNow 29 = .ok (.if_icmp .ge 52, 3) := dk_162 (x := 0) (y := 52) (by decide +kernel) rfl
theorem dX10_waitsNow_32 : decode cX10_waitsNow 32 = .ok (.iload_n 3, 1) := dk_29 (by decide +kernel)
theorem dX10_waitsNow_33 : decode cX10_waitsNow 33 = .ok (.iload 4, 2) := dk_21 (x := 4) (by decide +kernel)
theorem dX10_waitsNow_35 : decode cX10_waitsNow 35 = .ok (.invokestatic 45, 3) := dk_184 (x := 0) (y := 45) (by decide +kernel) rfl
theorem dX10_waitsNow_38 : decode cX10_waitsNow 38 = .ok (.ifCond .eq 37, 3) := dk_153 (x := 0) (y := 37) (by decide +kernel) rfl
theorem dX10_waitsNow_41 : decode cX10_waitsNow 41 = .ok (.aload_n 0, 1) := dk_42 (by decide +kernel)
theorem dX10_waitsNow_42 : decode cX10_waitsNow 42 = .ok (.iload 4, 2) := dk_21 (x := 4) (by decide +kernel)
theorem dX10_waitsNow_44 : decode cX10_waitsNow 44 = .ok (.iconst 0, 1) := dk_3 (by decide +kernel)
theorem dX10_waitsNow_45 : decode cX10_waitsNow 45 = .ok (.invokevirtual 151, 3) := dk_182 (x := 0) (y := 151) (by decide +kernel) rfl
theorem dX10_waitsNow_48 : decode cX10_waitsNow 48 = .ok (.iconst (-1), 1) := dk_2 (by decide +kernel)
theorem dX10_waitsNow_49 : decode cX10_waitsNow 49 = .ok (.if_icmp .eq 26, 3) := dk_159 (x := 0) (y := 26) (by decide +kernel) rfl
theorem dX10_waitsNow_52 : decode cX10_waitsNow 52 = .ok (.aload_n 0, 1) := dk_42 (by decide +kernel)
theorem dX10_waitsNow_53 : decode cX10_waitsNow 53 = .ok (.iload 4, 2) := dk_21 (x := 4) (by decide +kernel)
theorem dX10_waitsNow_55 : decode cX10_waitsNow 55 = .ok (.iconst 0, 1) := dk_3 (by decide +kernel)
theorem dX10_waitsNow_56 : decode cX10_waitsNow 56 = .ok (.invokevirtual 151, 3) := dk_182 (x := 0) (y := 151) (by decide +kernel) rfl
theorem dX10_waitsNow_59 : decode cX10_waitsNow 59 = .ok (.iload_n 1, 1) := dk_27 (by decide +kernel)
theorem dX10_waitsNow_60 : decode cX10_waitsNow 60 = .ok (.if_icmp .eq 15, 3) := dk_159 (x := 0) (y := 15) (by decide +kernel) rfl
theorem dX10_waitsNow_63 : decode cX10_waitsNow 63 = .ok (.iload_n 2, 1) := dk_28 (by decide +kernel)
theorem dX10_waitsNow_64 : decode cX10_waitsNow 64 = .ok (.iconst 1, 1) := dk_4 (by decide +kernel)
theorem dX10_waitsNow_65 : decode cX10_waitsNow 65 = .ok (.aload_n 0, 1) := dk_42 (by decide +kernel)
theorem dX10_waitsNow_66 : decode cX10_waitsNow 66 = .ok (.iload 4, 2) := dk_21 (x := 4) (by decide +kernel)
theorem dX10_waitsNow_68 : decode cX10_waitsNow 68 = .ok (.iconst 0, 1) := dk_3 (by decide +kernel)
theorem dX10_waitsNow_69 : decode cX10_waitsNow 69 = .ok (.invokevirtual 151, 3) := dk_182 (x := 0) (y := 151) (by decide +kernel) rfl
theorem dX10_waitsNow_72 : decode cX10_waitsNow 72 = .ok (.ishl, 1) := dk_120 (by decide +kernel)
theorem dX10_waitsNow_73 : decode cX10_waitsNow 73 = .ok (.ior, 1) := dk_128 (by decide +kernel)
theorem dX10_waitsNow_74 : decode cX10_waitsNow 74 = .ok (.istore_n 2, 1) := dk_61 (by decide +kernel)
theorem dX10_waitsNow_75 : decode cX10_waitsNow 75 = .ok (.iinc 4 1, 3) := dk_132 (x := 4) (y := 1) (by decide +kernel) rfl
theorem dX10_waitsNow_78 : decode cX10_waitsNow 78 = .ok (.goto (-57), 3) := dk_167 (x := 255) (y := 199) (by decide +kernel) rfl
theorem dX10_waitsNow_81 : decode cX10_waitsNow 81 = .ok (.iload_n 2, 1) := dk_28 (by decide +kernel)
theorem dX10_waitsNow_82 : decode cX10_waitsNow 82 = .ok (.ireturn, 1) := dk_172 (by decide +kernel)
def f_X10_waitsNow_21 (M : Mem) : Nat → Nat → Int32 → Int32 → Int32 → Int32 → Option Int32
  | 0, _, _, _, _, _ => none
  | n + 1, v0, v1, v2, v3, v4 =>
    chk (isO M 10 v0) <|
    bnd (mR M v0 0) fun o2 =>
    chk (isO M 100 o2) <|
    chk (inB (0 : Int32) (mLn M o2)) <|
    if (mI M o2 ((0 : Int32)).toNatClampNeg) ≤ v4 then (
      some v2
      ) else (
      obd (f_X10_has v3 v4 M) fun r9 =>
      if r9 = 0 then (
        bnd (v4 + (1 : Int32)) fun x12 =>
        f_X10_waitsNow_21 M n v0 v1 v2 v3 x12
        ) else (
        obd (f_X10_of v0 v4 (0 : Int32) M) fun r15 =>
        if r15 = (-1 : Int32) then (
          bnd (v4 + (1 : Int32)) fun x18 =>
          f_X10_waitsNow_21 M n v0 v1 v2 v3 x18
          ) else (
          obd (f_X10_of v0 v4 (0 : Int32) M) fun r21 =>
          if r21 = v1 then (
            bnd (v4 + (1 : Int32)) fun x24 =>
            f_X10_waitsNow_21 M n v0 v1 v2 v3 x24
            ) else (
            obd (f_X10_of v0 v4 (0 : Int32) M) fun r27 =>
            bnd (v2 ||| ((1 : Int32) <<< (r27 &&& 31))) fun x28 =>
            bnd (v4 + (1 : Int32)) fun x30 =>
            f_X10_waitsNow_21 M n v0 v1 x28 v3 x30
            )
          )
        )
      )
def f_X10_waitsNow (n : Nat) (o : Nat) (a1 : Int32) (M : Mem) : Option Int32 :=
  chk (isO M 10 o) <|
  obd (f_X10_get o a1 (3 : Int32) M) fun r3 =>
  obd (f_X10_get o a1 (4 : Int32) M) fun r5 =>
  bnd (r3 &&& (r5 ^^^ (-1 : Int32))) fun x6 =>
  f_X10_waitsNow_21 M n o a1 (0 : Int32) x6 (0 : Int32)
theorem cd_X10_waitsNow : (yX10_waitsNow.cls ≠ "java/lang/invoke/MethodHandle" ∧ yX10_waitsNow.cls ≠ "java/lang/invoke/VarHandle") ∧ (parseMethodDescriptor yX10_waitsNow.desc).map (fun d => d.parameters.length) = some 1 := ⟨⟨by decide +kernel, by decide +kernel⟩, by decide +kernel⟩
section
variable {p : Program} {l : Launch} {e : Env} {R : Room} {s : State} {m : MethodId} {args : Array Value} {below : List Frame} {meth : Method} {c : Code} {G : Gam} {M0 : Mem}
theorem l_X10_waitsNow_21 {M : Mem} {rv : Int32} (X : Cx p R s m args c G M0 cX10_waitsNow yX10_waitsNow.cls 5 1 22) (hr : meth.sig.returnType = (some .int)) (hlk : meth.locks = false) (hnm : meth.name = "waitsNow") : ∀ {n : Nat} (v0 : Nat) (v1 : Int32) (v2 : Int32) (v3 : Int32) (v4 : Int32), f_X10_waitsNow_21 M n v0 v1 v2 v3 v4 = some rv → Sg p l e R s m args below meth c (Qm below G args s (some (.int rv)) M0 M) G M0 5 21 [(0, .ref (gB G + v0)), (1, .int v1), (2, .int v2), (3, .int v3), (4, .int v4)] [] M := by
  intro n
  induction n with
  | zero => intro v0 v1 v2 v3 v4 hf; exact (pk_none hf).elim
  | succ n ih =>
    intro v0 v1 v2 v3 v4 hf
    rw [f_X10_waitsNow_21] at hf
    refine s_iload X 4 dX10_waitsNow_21 rfl ?_
    refine s_aload_n X 0 dX10_waitsNow_23 rfl rfl ?_
    obtain ⟨h1, hf⟩ := pk_chk hf
    obtain ⟨o2, e3, hf⟩ := pk_bnd hf
    obtain ⟨h4, hf⟩ := pk_chk hf
    refine s_getR X (ci := 10) (k := 0) rfl (Nat.le_of_ble_eq_true rfl) h1 wd1440 (fun _ _ _ => rfl) (e3 ▸ h4) dX10_waitsNow_24 (e3 ▸ ?_)
    refine s_iconst X (v := (0 : Int32)) dX10_waitsNow_27 rfl ?_
    obtain ⟨h5, hf⟩ := pk_chk hf
    refine s_iald X h4 h5 dX10_waitsNow_28 ?_
    have hs6 := pk_ite hf
    clear hf
    refine s_icmp_ge X (tgt := 81) dX10_waitsNow_29 rfl (fun c7 => ?_) (fun c7 => ?_)
    · have hf := hs6.1 c7
      refine s_iload_n X 2 dX10_waitsNow_81 rfl rfl ?_
      cases hf
      exact s_iret X hr hlk dX10_waitsNow_82
    · have hf := hs6.2 c7
      refine s_iload_n X 3 dX10_waitsNow_32 rfl rfl ?_
      refine s_iload X 4 dX10_waitsNow_33 rfl ?_
      obtain ⟨r9, hc8, hf⟩ := pk_obd hf
      refine s_callS X (k_X10_has G hc8) wd1565 wd1566 wd1567 wd138 cd_X10_has ⟨Nat.le_of_ble_eq_true rfl, Nat.le_of_ble_eq_true rfl⟩ (Nat.le_of_ble_eq_true rfl) dX10_waitsNow_35 ?_
      have hs10 := pk_ite hf
      clear hf
      refine s_if_eq X (tgt := 75) dX10_waitsNow_38 rfl (fun c11 => ?_) (fun c11 => ?_)
      · have hf := hs10.1 c11
        obtain ⟨x12, e13, hf⟩ := pk_bnd hf
        refine s_iinc X (vs' := [(0, .ref (gB G + v0)), (1, .int v1), (2, .int v2), (3, .int v3), (4, .int x12)]) 4 dX10_waitsNow_75 rfl (v := x12) e13.symm (Nat.le_of_ble_eq_true rfl) [1, 2, 3, 4, 0] rfl ?_
        refine s_goto X (tgt := 21) dX10_waitsNow_78 rfl ?_
        exact ih _ _ _ _ _ hf
      · have hf := hs10.2 c11
        refine s_aload_n X 0 dX10_waitsNow_41 rfl rfl ?_
        refine s_iload X 4 dX10_waitsNow_42 rfl ?_
        refine s_iconst X (v := (0 : Int32)) dX10_waitsNow_44 rfl ?_
        obtain ⟨r15, hc14, hf⟩ := pk_obd hf
        refine s_callV X (ci := 10) (k_X10_of G hc14) rfl h1 wd1761 wd1763 wd79 wd1764 wd138 cd_X10_of ⟨Nat.le_of_ble_eq_true rfl, Nat.le_of_ble_eq_true rfl⟩ (Nat.le_of_ble_eq_true rfl) dX10_waitsNow_45 ?_
        refine s_iconst X (v := (-1 : Int32)) dX10_waitsNow_48 rfl ?_
        have hs16 := pk_ite hf
        clear hf
        refine s_icmp_eq X (tgt := 75) dX10_waitsNow_49 rfl (fun c17 => ?_) (fun c17 => ?_)
        · have hf := hs16.1 c17
          obtain ⟨x18, e19, hf⟩ := pk_bnd hf
          refine s_iinc X (vs' := [(0, .ref (gB G + v0)), (1, .int v1), (2, .int v2), (3, .int v3), (4, .int x18)]) 4 dX10_waitsNow_75 rfl (v := x18) e19.symm (Nat.le_of_ble_eq_true rfl) [1, 2, 3, 4, 0] rfl ?_
          refine s_goto X (tgt := 21) dX10_waitsNow_78 rfl ?_
          exact ih _ _ _ _ _ hf
        · have hf := hs16.2 c17
          refine s_aload_n X 0 dX10_waitsNow_52 rfl rfl ?_
          refine s_iload X 4 dX10_waitsNow_53 rfl ?_
          refine s_iconst X (v := (0 : Int32)) dX10_waitsNow_55 rfl ?_
          obtain ⟨r21, hc20, hf⟩ := pk_obd hf
          refine s_callV X (ci := 10) (k_X10_of G hc20) rfl h1 wd1761 wd1763 wd79 wd1764 wd138 cd_X10_of ⟨Nat.le_of_ble_eq_true rfl, Nat.le_of_ble_eq_true rfl⟩ (Nat.le_of_ble_eq_true rfl) dX10_waitsNow_56 ?_
          refine s_iload_n X 1 dX10_waitsNow_59 rfl rfl ?_
          have hs22 := pk_ite hf
          clear hf
          refine s_icmp_eq X (tgt := 75) dX10_waitsNow_60 rfl (fun c23 => ?_) (fun c23 => ?_)
          · have hf := hs22.1 c23
            obtain ⟨x24, e25, hf⟩ := pk_bnd hf
            refine s_iinc X (vs' := [(0, .ref (gB G + v0)), (1, .int v1), (2, .int v2), (3, .int v3), (4, .int x24)]) 4 dX10_waitsNow_75 rfl (v := x24) e25.symm (Nat.le_of_ble_eq_true rfl) [1, 2, 3, 4, 0] rfl ?_
            refine s_goto X (tgt := 21) dX10_waitsNow_78 rfl ?_
            exact ih _ _ _ _ _ hf
          · have hf := hs22.2 c23
            refine s_iload_n X 2 dX10_waitsNow_63 rfl rfl ?_
            refine s_iconst X (v := (1 : Int32)) dX10_waitsNow_64 rfl ?_
            refine s_aload_n X 0 dX10_waitsNow_65 rfl rfl ?_
            refine s_iload X 4 dX10_waitsNow_66 rfl ?_
            refine s_iconst X (v := (0 : Int32)) dX10_waitsNow_68 rfl ?_
            obtain ⟨r27, hc26, hf⟩ := pk_obd hf
            refine s_callV X (ci := 10) (k_X10_of G hc26) rfl h1 wd1761 wd1763 wd79 wd1764 wd138 cd_X10_of ⟨Nat.le_of_ble_eq_true rfl, Nat.le_of_ble_eq_true rfl⟩ (Nat.le_of_ble_eq_true rfl) dX10_waitsNow_69 ?_
            refine s_ishl X dX10_waitsNow_72 ?_
            refine s_ior X dX10_waitsNow_73 ?_
            obtain ⟨x28, e29, hf⟩ := pk_bnd hf
            refine s_nmI e29 ?_
            refine s_istore_n X (vs' := [(0, .ref (gB G + v0)), (1, .int v1), (2, .int x28), (3, .int v3), (4, .int v4)]) dX10_waitsNow_74 rfl (Nat.le_of_ble_eq_true rfl) [1, 2, 0, 3, 4] rfl ?_
            obtain ⟨x30, e31, hf⟩ := pk_bnd hf
            refine s_iinc X (vs' := [(0, .ref (gB G + v0)), (1, .int v1), (2, .int x28), (3, .int v3), (4, .int x30)]) 4 dX10_waitsNow_75 rfl (v := x30) e31.symm (Nat.le_of_ble_eq_true rfl) [1, 2, 3, 4, 0] rfl ?_
            refine s_goto X (tgt := 21) dX10_waitsNow_78 rfl ?_
            exact ih _ _ _ _ _ hf
end
theorem k_X10_waitsNow (G : Gam) {n : Nat} {o : Nat} {a1 : Int32} {M : Mem} {rv : Int32} (hf : f_X10_waitsNow n o a1 M = some rv) : Kt yX10_waitsNow cX10_waitsNow 5 (some .int) 1 22 G [.ref (gB G + o), .int a1] M M (some (.int rv)) := by
  refine Kt.of (by decide) (Nat.le_of_ble_eq_true rfl) ?_
  intro p l e R s m args below meth c X hr hlk hnm
  refine s_drop [0, 1] (vs' := [(0, .ref (gB G + o)), (1, .int a1)]) rfl ?_
  rw [f_X10_waitsNow] at hf
  refine s_iconst X (v := (0 : Int32)) dX10_waitsNow_0 rfl ?_
  refine s_istore_n X (vs' := [(0, .ref (gB G + o)), (1, .int a1), (2, .int (0 : Int32))]) dX10_waitsNow_1 rfl (Nat.le_of_ble_eq_true rfl) [1, 2, 0] rfl ?_
  refine s_aload_n X 0 dX10_waitsNow_2 rfl rfl ?_
  refine s_iload_n X 1 dX10_waitsNow_3 rfl rfl ?_
  refine s_iconst X (v := (3 : Int32)) dX10_waitsNow_4 rfl ?_
  obtain ⟨h1, hf⟩ := pk_chk hf
  obtain ⟨r3, hc2, hf⟩ := pk_obd hf
  refine s_callV X (ci := 10) (k_X10_get G hc2) rfl h1 wd1588 wd1590 wd57 wd1591 wd138 cd_X10_get ⟨Nat.le_of_ble_eq_true rfl, Nat.le_of_ble_eq_true rfl⟩ (Nat.le_of_ble_eq_true rfl) dX10_waitsNow_5 ?_
  refine s_aload_n X 0 dX10_waitsNow_8 rfl rfl ?_
  refine s_iload_n X 1 dX10_waitsNow_9 rfl rfl ?_
  refine s_iconst X (v := (4 : Int32)) dX10_waitsNow_10 rfl ?_
  obtain ⟨r5, hc4, hf⟩ := pk_obd hf
  refine s_callV X (ci := 10) (k_X10_get G hc4) rfl h1 wd1588 wd1590 wd57 wd1591 wd138 cd_X10_get ⟨Nat.le_of_ble_eq_true rfl, Nat.le_of_ble_eq_true rfl⟩ (Nat.le_of_ble_eq_true rfl) dX10_waitsNow_11 ?_
  refine s_iconst X (v := (-1 : Int32)) dX10_waitsNow_14 rfl ?_
  refine s_ixor X dX10_waitsNow_15 ?_
  refine s_iand X dX10_waitsNow_16 ?_
  obtain ⟨x6, e7, hf⟩ := pk_bnd hf
  refine s_nmI e7 ?_
  refine s_istore_n X (vs' := [(0, .ref (gB G + o)), (1, .int a1), (2, .int (0 : Int32)), (3, .int x6)]) dX10_waitsNow_17 rfl (Nat.le_of_ble_eq_true rfl) [1, 2, 3, 0] rfl ?_
  refine s_iconst X (v := (0 : Int32)) dX10_waitsNow_18 rfl ?_
  refine s_istore X (vs' := [(0, .ref (gB G + o)), (1, .int a1), (2, .int (0 : Int32)), (3, .int x6), (4, .int (0 : Int32))]) dX10_waitsNow_19 (Nat.le_of_ble_eq_true rfl) [1, 2, 3, 4, 0] rfl ?_
  exact l_X10_waitsNow_21 X hr hlk hnm _ _ _ _ _ hf
theorem dX10_reached_0 : decode cX10_reached 0 = .ok (.aload_n 0, 1) := dk_42 (by decide +kernel)
theorem dX10_reached_1 : decode cX10_reached 1 = .ok (.iload_n 1, 1) := dk_27 (by decide +kernel)
theorem dX10_reached_2 : decode cX10_reached 2 = .ok (.invokevirtual 283, 3) := dk_182 (x := 1) (y := 27) (by decide +kernel) rfl
theorem dX10_reached_5 : decode cX10_reached 5 = .ok (.istore_n 2, 1) := dk_61 (by decide +kernel)
theorem dX10_reached_6 : decode cX10_reached 6 = .ok (.iconst 1, 1) := dk_4 (by decide +kernel)
theorem dX10_reached_7 : decode cX10_reached 7 = .ok (.istore_n 3, 1) := dk_62 (by decide +kernel)
theorem dX10_reached_8 : decode cX10_reached 8 = .ok (.iload_n 3, 1) := dk_29 (by decide +kernel)
theorem dX10_reached_9 : decode cX10_reached 9 = .ok (.ifCond .eq 71, 3) := dk_153 (x := 0) (y := 71) (by decide +kernel) rfl
theorem dX10_reached_12 : decode cX10_reached 12 = .ok (.iload_n 2, 1) := dk_28 (by decide +kernel)
theorem dX10_reached_13 : decode cX10_reached 13 = .ok (.istore 4, 2) := dk_54 (x := 4) (by decide +kernel)
theorem dX10_reached_15 : decode cX10_reached 15 = .ok (.iconst 0, 1) := dk_3 (by decide +kernel)
theorem dX10_reached_16 : decode cX10_reached 16 = .ok (.istore 5, 2) := dk_54 (x := 5) (by decide +kernel)
theorem dX10_reached_18 : decode cX10_reached 18 = .ok (.iload 5, 2) := dk_21 (x := 5) (by decide +kernel)
theorem dX10_reached_20 : decode cX10_reached 20 = .ok (.aload_n 0, 1) := dk_42 (by decide +kernel)
theorem dX10_reached_21 : decode cX10_reached 21 = .ok (.getfield 7, 3) := dk_180 (x := 0) (y := 7) (by decide +kernel) rfl
theorem dX10_reached_24 : decode cX10_reached 24 = .ok (.iconst 0, 1) := dk_3 (by decide +kernel)
theorem dX10_reached_25 : decode cX10_reached 25 = .ok (.iaload, 1) := dk_46 (by decide +kernel)
theorem dX10_reached_26 : decode cX10_reached 26 = .ok (.if_icmp .ge 39, 3) := dk_162 (x := 0) (y := 39) (by decide +kernel) rfl
theorem dX10_reached_29 : decode cX10_reached 29 = .ok (.iload 4, 2) := dk_21 (x := 4) (by decide +kernel)
theorem dX10_reached_31 : decode cX10_reached 31 = .ok (.iload 5, 2) := dk_21 (x := 5) (by decide +kernel)
theorem dX10_reached_33 : decode cX10_reached 33 = .ok (.invokestatic 45, 3) := dk_184 (x := 0) (y := 45) (by decide +kernel) rfl
theorem dX10_reached_36 : decode cX10_reached 36 = .ok (.ifCond .eq 23, 3) := dk_153 (x := 0) (y := 23) (by decide +kernel) rfl
theorem dX10_reached_39 : decode cX10_reached 39 = .ok (.aload_n 0, 1) := dk_42 (by decide +kernel)
theorem dX10_reached_40 : decode cX10_reached 40 = .ok (.iload 5, 2) := dk_21 (x := 5) (by decide +kernel)
theorem dX10_reached_42 : decode cX10_reached 42 = .ok (.iconst 0, 1) := dk_3 (by decide +kernel)
theorem dX10_reached_43 : decode cX10_reached 43 = .ok (.invokevirtual 93, 3) := dk_182 (x := 0) (y := 93) (by decide +kernel) rfl
theorem dX10_reached_46 : decode cX10_reached 46 = .ok (.iconst 1, 1) := dk_4 (by decide +kernel)
theorem dX10_reached_47 : decode cX10_reached 47 = .ok (.if_icmp .ne 12, 3) := dk_160 (x := 0) (y := 12) (by decide +kernel) rfl
theorem dX10_reached_50 : decode cX10_reached 50 = .ok (.iload_n 2, 1) := dk_28 (by decide +kernel)
theorem dX10_reached_51 : decode cX10_reached 51 = .ok (.aload_n 0, 1) := dk_42 (by decide +kernel)
theorem dX10_reached_52 : decode cX10_reached 52 = .ok (.iload 5, 2) := dk_21 (x := 5) (by decide +kernel)
theorem dX10_reached_54 : decode cX10_reached 54 = .ok (.invokevirtual 283, 3) := dk_182 (x := 1) (y := 27) (by decide +kernel) rfl
theorem dX10_reached_57 : decode cX10_reached 57 = .ok (.ior, 1) := dk_128 (by decide +kernel)
theorem dX10_reached_58 : decode cX10_reached 58 = .ok (.istore_n 2, 1) := dk_61 (by decide +kernel)
theorem dX10_reached_59 : decode cX10_reached 59 = .ok (.iinc 5 1, 3) := dk_132 (x := 5) (y := 1) (by decide +kernel) rfl
theorem dX10_reached_62 : decode cX10_reached 62 = .ok (.goto (-44), 3) := dk_167 (x := 255) (y := 212) (by decide +kernel) rfl
theorem dX10_reached_65 : decode cX10_reached 65 = .ok (.iload_n 2, 1) := dk_28 (by decide +kernel)
theorem dX10_reached_66 : decode cX10_reached 66 = .ok (.iload 4, 2) := dk_21 (x := 4) (by decide +kernel)
theorem dX10_reached_68 : decode cX10_reached 68 = .ok (.if_icmp .eq 7, 3) := dk_159 (x := 0) (y := 7) (by decide +kernel) rfl
theorem dX10_reached_71 : decode cX10_reached 71 = .ok (.iconst 1, 1) := dk_4 (by decide +kernel)
theorem dX10_reached_72 : decode cX10_reached 72 = .ok (.goto 4, 3) := dk_167 (x := 0) (y := 4) (by decide +kernel) rfl
theorem dX10_reached_75 : decode cX10_reached 75 = .ok (.iconst 0, 1) := dk_3 (by decide +kernel)
theorem dX10_reached_76 : decode cX10_reached 76 = .ok (.istore_n 3, 1) := dk_62 (by decide +kernel)
theorem dX10_reached_77 : decode cX10_reached 77 = .ok (.goto (-69), 3) := dk_167 (x := 255) (y := 187) (by decide +kernel) rfl
theorem dX10_reached_80 : decode cX10_reached 80 = .ok (.iload_n 2, 1) := dk_28 (by decide +kernel)
theorem dX10_reached_81 : decode cX10_reached 81 = .ok (.ireturn, 1) := dk_172 (by decide +kernel)
def f_X10_reached_18 (k_8 : Nat → Int32 → Int32 → Option Int32) (M : Mem) : Nat → Nat → Int32 → Int32 → Int32 → Option Int32
  | 0, _, _, _, _ => none
  | n + 1, v0, v2, v4, v5 =>
    chk (isO M 10 v0) <|
    bnd (mR M v0 0) fun o2 =>
    chk (isO M 100 o2) <|
    chk (inB (0 : Int32) (mLn M o2)) <|
    if (mI M o2 ((0 : Int32)).toNatClampNeg) ≤ v5 then (
      if v2 = v4 then (
        k_8 v0 v2 (0 : Int32)
        ) else (
        k_8 v0 v2 (1 : Int32)
        )
      ) else (
      obd (f_X10_has v4 v5 M) fun r11 =>
      if r11 = 0 then (
        bnd (v5 + (1 : Int32)) fun x14 =>
        f_X10_reached_18 k_8 M n v0 v2 v4 x14
        ) else (
        obd (f_X10_get v0 v5 (0 : Int32) M) fun r17 =>
        if r17 = (1 : Int32) then (
          obd (f_X10_waitsNow n v0 v5 M) fun r23 =>
          bnd (v2 ||| r23) fun x24 =>
          bnd (v5 + (1 : Int32)) fun x26 =>
          f_X10_reached_18 k_8 M n v0 x24 v4 x26
          ) else (
          bnd (v5 + (1 : Int32)) fun x20 =>
          f_X10_reached_18 k_8 M n v0 v2 v4 x20
          )
        )
      )
def f_X10_reached_8 (M : Mem) : Nat → Nat → Int32 → Int32 → Option Int32
  | 0, _, _, _ => none
  | n + 1, v0, v2, v3 =>
    if v3 = 0 then (
      some v2
      ) else (
      f_X10_reached_18 (f_X10_reached_8 M n) M n v0 v2 v2 (0 : Int32)
      )
def f_X10_reached (n : Nat) (o : Nat) (a1 : Int32) (M : Mem) : Option Int32 :=
  chk (isO M 10 o) <|
  obd (f_X10_waitsNow n o a1 M) fun r3 =>
  f_X10_reached_8 M n o r3 (1 : Int32)
theorem cd_X10_reached : (yX10_reached.cls ≠ "java/lang/invoke/MethodHandle" ∧ yX10_reached.cls ≠ "java/lang/invoke/VarHandle") ∧ (parseMethodDescriptor yX10_reached.desc).map (fun d => d.parameters.length) = some 1 := ⟨⟨by decide +kernel, by decide +kernel⟩, by decide +kernel⟩
section
variable {p : Program} {l : Launch} {e : Env} {R : Room} {s : State} {m : MethodId} {args : Array Value} {below : List Frame} {meth : Method} {c : Code} {G : Gam} {M0 : Mem}
theorem l_X10_reached_18 {k_8 : Nat → Int32 → Int32 → Option Int32} {M : Mem} {rv : Int32} (X : Cx p R s m args c G M0 cX10_reached yX10_reached.cls 6 2 46) (hr : meth.sig.returnType = (some .int)) (hlk : meth.locks = false) (hnm : meth.name = "reached") (hk_8 : ∀ (v0 : Nat), ∀ (v2 : Int32), ∀ (v3 : Int32), k_8 v0 v2 v3 = some rv → Sg p l e R s m args below meth c (Qm below G args s (some (.int rv)) M0 M) G M0 6 8 [(0, .ref (gB G + v0)), (2, .int v2), (3, .int v3)] [] M) : ∀ {n : Nat} (v0 : Nat) (v2 : Int32) (v4 : Int32) (v5 : Int32), f_X10_reached_18 k_8 M n v0 v2 v4 v5 = some rv → Sg p l e R s m args below meth c (Qm below G args s (some (.int rv)) M0 M) G M0 6 18 [(0, .ref (gB G + v0)), (2, .int v2), (4, .int v4), (5, .int v5)] [] M := by
  intro n
  induction n with
  | zero => intro v0 v2 v4 v5 hf; exact (pk_none hf).elim
  | succ n ih =>
    intro v0 v2 v4 v5 hf
    rw [f_X10_reached_18] at hf
    refine s_iload X 3 dX10_reached_18 rfl ?_
    refine s_aload_n X 0 dX10_reached_20 rfl rfl ?_
    obtain ⟨h1, hf⟩ := pk_chk hf
    obtain ⟨o2, e3, hf⟩ := pk_bnd hf
    obtain ⟨h4, hf⟩ := pk_chk hf
    refine s_getR X (ci := 10) (k := 0) rfl (Nat.le_of_ble_eq_true rfl) h1 wd1440 (fun _ _ _ => rfl) (e3 ▸ h4) dX10_reached_21 (e3 ▸ ?_)
    refine s_iconst X (v := (0 : Int32)) dX10_reached_24 rfl ?_
    obtain ⟨h5, hf⟩ := pk_chk hf
    refine s_iald X h4 h5 dX10_reached_25 ?_
    have hs6 := pk_ite hf
    clear hf
    refine s_icmp_ge X (tgt := 65) dX10_reached_26 rfl (fun c7 => ?_) (fun c7 => ?_)
    · have hf := hs6.1 c7
      refine s_iload_n X 1 dX10_reached_65 rfl rfl ?_
      refine s_iload X 2 dX10_reached_66 rfl ?_
      have hs8 := pk_ite hf
      clear hf
      refine s_icmp_eq X (tgt := 75) dX10_reached_68 rfl (fun c9 => ?_) (fun c9 => ?_)
      · have hf := hs8.1 c9
        refine s_iconst X (v := (0 : Int32)) dX10_reached_75 rfl ?_
        refine s_istore_n X (vs' := [(0, .ref (gB G + v0)), (2, .int v2), (3, .int (0 : Int32)), (4, .int v4), (5, .int v5)]) dX10_reached_76 rfl (Nat.le_of_ble_eq_true rfl) [1, 2, 0, 3, 4] rfl ?_
        refine s_goto X (tgt := 8) dX10_reached_77 rfl ?_
        refine s_drop [0, 1, 2] (vs' := [(0, .ref (gB G + v0)), (2, .int v2), (3, .int (0 : Int32))]) rfl ?_
        exact hk_8 _ _ _ hf
      · have hf := hs8.2 c9
        refine s_iconst X (v := (1 : Int32)) dX10_reached_71 rfl ?_
        refine s_goto X (tgt := 76) dX10_reached_72 rfl ?_
        refine s_istore_n X (vs' := [(0, .ref (gB G + v0)), (2, .int v2), (3, .int (1 : Int32)), (4, .int v4), (5, .int v5)]) dX10_reached_76 rfl (Nat.le_of_ble_eq_true rfl) [1, 2, 0, 3, 4] rfl ?_
        refine s_goto X (tgt := 8) dX10_reached_77 rfl ?_
        refine s_drop [0, 1, 2] (vs' := [(0, .ref (gB G + v0)), (2, .int v2), (3, .int (1 : Int32))]) rfl ?_
        exact hk_8 _ _ _ hf
    · have hf := hs6.2 c7
      refine s_iload X 2 dX10_reached_29 rfl ?_
      refine s_iload X 3 dX10_reached_31 rfl ?_
      obtain ⟨r11, hc10, hf⟩ := pk_obd hf
      refine s_callS X (k_X10_has G hc10) wd1565 wd1566 wd1567 wd138 cd_X10_has ⟨Nat.le_of_ble_eq_true rfl, Nat.le_of_ble_eq_true rfl⟩ (Nat.le_of_ble_eq_true rfl) dX10_reached_33 ?_
      have hs12 := pk_ite hf
      clear hf
      refine s_if_eq X (tgt := 59) dX10_reached_36 rfl (fun c13 => ?_) (fun c13 => ?_)
      · have hf := hs12.1 c13
        obtain ⟨x14, e15, hf⟩ := pk_bnd hf
        refine s_iinc X (vs' := [(0, .ref (gB G + v0)), (2, .int v2), (4, .int v4), (5, .int x14)]) 3 dX10_reached_59 rfl (v := x14) e15.symm (Nat.le_of_ble_eq_true rfl) [1, 2, 3, 0] rfl ?_
        refine s_goto X (tgt := 18) dX10_reached_62 rfl ?_
        exact ih _ _ _ _ hf
      · have hf := hs12.2 c13
        refine s_aload_n X 0 dX10_reached_39 rfl rfl ?_
        refine s_iload X 3 dX10_reached_40 rfl ?_
        refine s_iconst X (v := (0 : Int32)) dX10_reached_42 rfl ?_
        obtain ⟨r17, hc16, hf⟩ := pk_obd hf
        refine s_callV X (ci := 10) (k_X10_get G hc16) rfl h1 wd1588 wd1590 wd57 wd1591 wd138 cd_X10_get ⟨Nat.le_of_ble_eq_true rfl, Nat.le_of_ble_eq_true rfl⟩ (Nat.le_of_ble_eq_true rfl) dX10_reached_43 ?_
        refine s_iconst X (v := (1 : Int32)) dX10_reached_46 rfl ?_
        have hs18 := pk_ite hf
        clear hf
        refine s_icmp_ne X (tgt := 59) dX10_reached_47 rfl (fun c19 => ?_) (fun c19 => ?_)
        · have hf := hs18.2 c19
          obtain ⟨x20, e21, hf⟩ := pk_bnd hf
          refine s_iinc X (vs' := [(0, .ref (gB G + v0)), (2, .int v2), (4, .int v4), (5, .int x20)]) 3 dX10_reached_59 rfl (v := x20) e21.symm (Nat.le_of_ble_eq_true rfl) [1, 2, 3, 0] rfl ?_
          refine s_goto X (tgt := 18) dX10_reached_62 rfl ?_
          exact ih _ _ _ _ hf
        · have hf := hs18.1 c19
          refine s_iload_n X 1 dX10_reached_50 rfl rfl ?_
          refine s_aload_n X 0 dX10_reached_51 rfl rfl ?_
          refine s_iload X 3 dX10_reached_52 rfl ?_
          obtain ⟨r23, hc22, hf⟩ := pk_obd hf
          refine s_callV X (ci := 10) (k_X10_waitsNow G hc22) rfl h1 wd1886 wd1888 wd101 wd1889 wd138 cd_X10_waitsNow ⟨Nat.le_of_ble_eq_true rfl, Nat.le_of_ble_eq_true rfl⟩ (Nat.le_of_ble_eq_true rfl) dX10_reached_54 ?_
          refine s_ior X dX10_reached_57 ?_
          obtain ⟨x24, e25, hf⟩ := pk_bnd hf
          refine s_nmI e25 ?_
          refine s_istore_n X (vs' := [(0, .ref (gB G + v0)), (2, .int x24), (4, .int v4), (5, .int v5)]) dX10_reached_58 rfl (Nat.le_of_ble_eq_true rfl) [1, 0, 2, 3] rfl ?_
          obtain ⟨x26, e27, hf⟩ := pk_bnd hf
          refine s_iinc X (vs' := [(0, .ref (gB G + v0)), (2, .int x24), (4, .int v4), (5, .int x26)]) 3 dX10_reached_59 rfl (v := x26) e27.symm (Nat.le_of_ble_eq_true rfl) [1, 2, 3, 0] rfl ?_
          refine s_goto X (tgt := 18) dX10_reached_62 rfl ?_
          exact ih _ _ _ _ hf
theorem l_X10_reached_8 {M : Mem} {rv : Int32} (X : Cx p R s m args c G M0 cX10_reached yX10_reached.cls 6 2 46) (hr : meth.sig.returnType = (some .int)) (hlk : meth.locks = false) (hnm : meth.name = "reached") : ∀ {n : Nat} (v0 : Nat) (v2 : Int32) (v3 : Int32), f_X10_reached_8 M n v0 v2 v3 = some rv → Sg p l e R s m args below meth c (Qm below G args s (some (.int rv)) M0 M) G M0 6 8 [(0, .ref (gB G + v0)), (2, .int v2), (3, .int v3)] [] M := by
  intro n
  induction n with
  | zero => intro v0 v2 v3 hf; exact (pk_none hf).elim
  | succ n ih =>
    intro v0 v2 v3 hf
    rw [f_X10_reached_8] at hf
    refine s_iload_n X 2 dX10_reached_8 rfl rfl ?_
    have hs1 := pk_ite hf
    clear hf
    refine s_if_eq X (tgt := 80) dX10_reached_9 rfl (fun c2 => ?_) (fun c2 => ?_)
    · have hf := hs1.1 c2
      refine s_iload_n X 1 dX10_reached_80 rfl rfl ?_
      cases hf
      exact s_iret X hr hlk dX10_reached_81
    · have hf := hs1.2 c2
      refine s_iload_n X 1 dX10_reached_12 rfl rfl ?_
      refine s_istore X (vs' := [(0, .ref (gB G + v0)), (2, .int v2), (3, .int v3), (4, .int v2)]) dX10_reached_13 (Nat.le_of_ble_eq_true rfl) [1, 2, 3, 0] rfl ?_
      refine s_iconst X (v := (0 : Int32)) dX10_reached_15 rfl ?_
      refine s_istore X (vs' := [(0, .ref (gB G + v0)), (2, .int v2), (3, .int v3), (4, .int v2), (5, .int (0 : Int32))]) dX10_reached_16 (Nat.le_of_ble_eq_true rfl) [1, 2, 3, 4, 0] rfl ?_
      refine s_drop [0, 1, 3, 4] (vs' := [(0, .ref (gB G + v0)), (2, .int v2), (4, .int v2), (5, .int (0 : Int32))]) rfl ?_
      exact l_X10_reached_18 X hr hlk hnm ih _ _ _ _ hf
end
theorem k_X10_reached (G : Gam) {n : Nat} {o : Nat} {a1 : Int32} {M : Mem} {rv : Int32} (hf : f_X10_reached n o a1 M = some rv) : Kt yX10_reached cX10_reached 6 (some .int) 2 46 G [.ref (gB G + o), .int a1] M M (some (.int rv)) := by
  refine Kt.of (by decide) (Nat.le_of_ble_eq_true rfl) ?_
  intro p l e R s m args below meth c X hr hlk hnm
  refine s_drop [0, 1] (vs' := [(0, .ref (gB G + o)), (1, .int a1)]) rfl ?_
  rw [f_X10_reached] at hf
  refine s_aload_n X 0 dX10_reached_0 rfl rfl ?_
  refine s_iload_n X 1 dX10_reached_1 rfl rfl ?_
  obtain ⟨h1, hf⟩ := pk_chk hf
  obtain ⟨r3, hc2, hf⟩ := pk_obd hf
  refine s_callV X (ci := 10) (k_X10_waitsNow G hc2) rfl h1 wd1886 wd1888 wd101 wd1889 wd138 cd_X10_waitsNow ⟨Nat.le_of_ble_eq_true rfl, Nat.le_of_ble_eq_true rfl⟩ (Nat.le_of_ble_eq_true rfl) dX10_reached_2 ?_
  refine s_istore_n X (vs' := [(0, .ref (gB G + o)), (1, .int a1), (2, .int r3)]) dX10_reached_5 rfl (Nat.le_of_ble_eq_true rfl) [1, 2, 0] rfl ?_
  refine s_iconst X (v := (1 : Int32)) dX10_reached_6 rfl ?_
  refine s_istore_n X (vs' := [(0, .ref (gB G + o)), (1, .int a1), (2, .int r3), (3, .int (1 : Int32))]) dX10_reached_7 rfl (Nat.le_of_ble_eq_true rfl) [1, 2, 3, 0] rfl ?_
  refine s_drop [0, 2, 3] (vs' := [(0, .ref (gB G + o)), (2, .int r3), (3, .int (1 : Int32))]) rfl ?_
  exact l_X10_reached_8 X hr hlk hnm _ _ _ hf
theorem dX10_roundOnes_0 : decode cX10_roundOnes 0 = .ok (.iconst 0, 1) := dk_3 (by decide +kernel)
theorem dX10_roundOnes_1 : decode cX10_roundOnes 1 = .ok (.istore_n 1, 1) := dk_60 (by decide +kernel)
theorem dX10_roundOnes_2 : decode cX10_roundOnes 2 = .ok (.iconst 0, 1) := dk_3 (by decide +kernel)
theorem dX10_roundOnes_3 : decode cX10_roundOnes 3 = .ok (.istore_n 2, 1) := dk_61 (by decide +kernel)
theorem dX10_roundOnes_4 : decode cX10_roundOnes 4 = .ok (.iload_n 2, 1) := dk_28 (by decide +kernel)
theorem dX10_roundOnes_5 : decode cX10_roundOnes 5 = .ok (.aload_n 0, 1) := dk_42 (by decide +kernel)
theorem dX10_roundOnes_6 : decode cX10_roundOnes 6 = .ok (.getfield 7, 3) := dk_180 (x := 0) (y := 7) (by decide +kernel) rfl
theorem dX10_roundOnes_9 : decode cX10_roundOnes 9 = .ok (.iconst 0, 1) := dk_3 (by decide +kernel)
theorem dX10_roundOnes_10 : decode cX10_roundOnes 10 = .ok (.iaload, 1) := dk_46 (by decide +kernel)
theorem dX10_roundOnes_11 : decode cX10_roundOnes 11 = .ok (.if_icmp .ge 37, 3) := dk_162 (x := 0) (y := 37) (by decide +kernel) rfl
theorem dX10_roundOnes_14 : decode cX10_roundOnes 14 = .ok (.aload_n 0, 1) := dk_42 (by decide +kernel)
theorem dX10_roundOnes_15 : decode cX10_roundOnes 15 = .ok (.iload_n 2, 1) := dk_28 (by decide +kernel)
theorem dX10_roundOnes_16 : decode cX10_roundOnes 16 = .ok (.iconst 0, 1) := dk_3 (by decide +kernel)
theorem dX10_roundOnes_17 : decode cX10_roundOnes 17 = .ok (.invokevirtual 93, 3) := dk_182 (x := 0) (y := 93) (by decide +kernel) rfl
theorem dX10_roundOnes_20 : decode cX10_roundOnes 20 = .ok (.iconst 1, 1) := dk_4 (by decide +kernel)
theorem dX10_roundOnes_21 : decode cX10_roundOnes 21 = .ok (.if_icmp .ne 21, 3) := dk_160 (x := 0) (y := 21) (by decide +kernel) rfl
theorem dX10_roundOnes_24 : decode cX10_roundOnes 24 = .ok (.aload_n 0, 1) := dk_42 (by decide +kernel)
theorem dX10_roundOnes_25 : decode cX10_roundOnes 25 = .ok (.iload_n 2, 1) := dk_28 (by decide +kernel)
theorem dX10_roundOnes_26 : decode cX10_roundOnes 26 = .ok (.invokevirtual 286, 3) := dk_182 (x := 1) (y := 30) (by decide +kernel) rfl
theorem dX10_roundOnes_29 : decode cX10_roundOnes 29 = .ok (.iload_n 2, 1) := dk_28 (by decide +kernel)
theorem dX10_roundOnes_30 : decode cX10_roundOnes 30 = .ok (.invokestatic 45, 3) := dk_184 (x := 0) (y := 45) (by decide +kernel) rfl
theorem dX10_roundOnes_33 : decode cX10_roundOnes 33 = .ok (.ifCond .eq 9, 3) := dk_153 (x := 0) (y := 9) (by decide +kernel) rfl
theorem dX10_roundOnes_36 : decode cX10_roundOnes 36 = .ok (.iload_n 1, 1) := dk_27 (by decide +kernel)
theorem dX10_roundOnes_37 : decode cX10_roundOnes 37 = .ok (.iconst 1, 1) := dk_4 (by decide +kernel)
theorem dX10_roundOnes_38 : decode cX10_roundOnes 38 = .ok (.iload_n 2, 1) := dk_28 (by decide +kernel)
theorem dX10_roundOnes_39 : decode cX10_roundOnes 39 = .ok (.ishl, 1) := dk_120 (by decide +kernel)
theorem dX10_roundOnes_40 : decode cX10_roundOnes 40 = .ok (.ior, 1) := dk_128 (by decide +kernel)
theorem dX10_roundOnes_41 : decode cX10_roundOnes 41 = .ok (.istore_n 1, 1) := dk_60 (by decide +kernel)
theorem dX10_roundOnes_42 : decode cX10_roundOnes 42 = .ok (.iinc 2 1, 3) := dk_132 (x := 2) (y := 1) (by decide +kernel) rfl
theorem dX10_roundOnes_45 : decode cX10_roundOnes 45 = .ok (.goto (-41), 3) := dk_167 (x := 255) (y := 215) (by decide +kernel) rfl
theorem dX10_roundOnes_48 : decode cX10_roundOnes 48 = .ok (.iload_n 1, 1) := dk_27 (by decide +kernel)
theorem dX10_roundOnes_49 : decode cX10_roundOnes 49 = .ok (.ireturn, 1) := dk_172 (by decide +kernel)
def f_X10_roundOnes_4 (M : Mem) : Nat → Nat → Int32 → Int32 → Option Int32
  | 0, _, _, _ => none
  | n + 1, v0, v1, v2 =>
    chk (isO M 10 v0) <|
    bnd (mR M v0 0) fun o2 =>
    chk (isO M 100 o2) <|
    chk (inB (0 : Int32) (mLn M o2)) <|
    if (mI M o2 ((0 : Int32)).toNatClampNeg) ≤ v2 then (
      some v1
      ) else (
      obd (f_X10_get v0 v2 (0 : Int32) M) fun r9 =>
      if r9 = (1 : Int32) then (
        obd (f_X10_reached n v0 v2 M) fun r15 =>
        obd (f_X10_has r15 v2 M) fun r17 =>
        if r17 = 0 then (
          bnd (v2 + (1 : Int32)) fun x20 =>
          f_X10_roundOnes_4 M n v0 v1 x20
          ) else (
          bnd (v1 ||| ((1 : Int32) <<< (v2 &&& 31))) fun x22 =>
          bnd (v2 + (1 : Int32)) fun x24 =>
          f_X10_roundOnes_4 M n v0 x22 x24
          )
        ) else (
        bnd (v2 + (1 : Int32)) fun x12 =>
        f_X10_roundOnes_4 M n v0 v1 x12
        )
      )
def f_X10_roundOnes (n : Nat) (o : Nat) (M : Mem) : Option Int32 :=
  f_X10_roundOnes_4 M n o (0 : Int32) (0 : Int32)
theorem cd_X10_roundOnes : (yX10_roundOnes.cls ≠ "java/lang/invoke/MethodHandle" ∧ yX10_roundOnes.cls ≠ "java/lang/invoke/VarHandle") ∧ (parseMethodDescriptor yX10_roundOnes.desc).map (fun d => d.parameters.length) = some 0 := ⟨⟨by decide +kernel, by decide +kernel⟩, by decide +kernel⟩
section
variable {p : Program} {l : Launch} {e : Env} {R : Room} {s : State} {m : MethodId} {args : Array Value} {below : List Frame} {meth : Method} {c : Code} {G : Gam} {M0 : Mem}
theorem l_X10_roundOnes_4 {M : Mem} {rv : Int32} (X : Cx p R s m args c G M0 cX10_roundOnes yX10_roundOnes.cls 3 3 71) (hr : meth.sig.returnType = (some .int)) (hlk : meth.locks = false) (hnm : meth.name = "roundOnes") : ∀ {n : Nat} (v0 : Nat) (v1 : Int32) (v2 : Int32), f_X10_roundOnes_4 M n v0 v1 v2 = some rv → Sg p l e R s m args below meth c (Qm below G args s (some (.int rv)) M0 M) G M0 3 4 [(0, .ref (gB G + v0)), (1, .int v1), (2, .int v2)] [] M := by
  intro n
  induction n with
  | zero => intro v0 v1 v2 hf; exact (pk_none hf).elim
  | succ n ih =>
    intro v0 v1 v2 hf
    rw [f_X10_roundOnes_4] at hf
    refine s_iload_n X 2 dX10_roundOnes_4 rfl rfl ?_
    refine s_aload_n X 0 dX10_roundOnes_5 rfl rfl ?_
    obtain ⟨h1, hf⟩ := pk_chk hf
    obtain ⟨o2, e3, hf⟩ := pk_bnd hf
    obtain ⟨h4, hf⟩ := pk_chk hf
    refine s_getR X (ci := 10) (k := 0) rfl (Nat.le_of_ble_eq_true rfl) h1 wd1440 (fun _ _ _ => rfl) (e3 ▸ h4) dX10_roundOnes_6 (e3 ▸ ?_)
    refine s_iconst X (v := (0 : Int32)) dX10_roundOnes_9 rfl ?_
    obtain ⟨h5, hf⟩ := pk_chk hf
    refine s_iald X h4 h5 dX10_roundOnes_10 ?_
    have hs6 := pk_ite hf
    clear hf
    refine s_icmp_ge X (tgt := 48) dX10_roundOnes_11 rfl (fun c7 => ?_) (fun c7 => ?_)
    · have hf := hs6.1 c7
      refine s_iload_n X 1 dX10_roundOnes_48 rfl rfl ?_
      cases hf
      exact s_iret X hr hlk dX10_roundOnes_49
    · have hf := hs6.2 c7
      refine s_aload_n X 0 dX10_roundOnes_14 rfl rfl ?_
      refine s_iload_n X 2 dX10_roundOnes_15 rfl rfl ?_
      refine s_iconst X (v := (0 : Int32)) dX10_roundOnes_16 rfl ?_
      obtain ⟨r9, hc8, hf⟩ := pk_obd hf
      refine s_callV X (ci := 10) (k_X10_get G hc8) rfl h1 wd1588 wd1590 wd57 wd1591 wd138 cd_X10_get ⟨Nat.le_of_ble_eq_true rfl, Nat.le_of_ble_eq_true rfl⟩ (Nat.le_of_ble_eq_true rfl) dX10_roundOnes_17 ?_
      refine s_iconst X (v := (1 : Int32)) dX10_roundOnes_20 rfl ?_
      have hs10 := pk_ite hf
      clear hf
      refine s_icmp_ne X (tgt := 42) dX10_roundOnes_21 rfl (fun c11 => ?_) (fun c11 => ?_)
      · have hf := hs10.2 c11
        obtain ⟨x12, e13, hf⟩ := pk_bnd hf
        refine s_iinc X (vs' := [(0, .ref (gB G + v0)), (1, .int v1), (2, .int x12)]) 2 dX10_roundOnes_42 rfl (v := x12) e13.symm (Nat.le_of_ble_eq_true rfl) [1, 2, 0] rfl ?_
        refine s_goto X (tgt := 4) dX10_roundOnes_45 rfl ?_
        exact ih _ _ _ hf
      · have hf := hs10.1 c11
        refine s_aload_n X 0 dX10_roundOnes_24 rfl rfl ?_
        refine s_iload_n X 2 dX10_roundOnes_25 rfl rfl ?_
        obtain ⟨r15, hc14, hf⟩ := pk_obd hf
        refine s_callV X (ci := 10) (k_X10_reached G hc14) rfl h1 wd1914 wd1916 wd105 wd1917 wd138 cd_X10_reached ⟨Nat.le_of_ble_eq_true rfl, Nat.le_of_ble_eq_true rfl⟩ (Nat.le_of_ble_eq_true rfl) dX10_roundOnes_26 ?_
        refine s_iload_n X 2 dX10_roundOnes_29 rfl rfl ?_
        obtain ⟨r17, hc16, hf⟩ := pk_obd hf
        refine s_callS X (k_X10_has G hc16) wd1565 wd1566 wd1567 wd138 cd_X10_has ⟨Nat.le_of_ble_eq_true rfl, Nat.le_of_ble_eq_true rfl⟩ (Nat.le_of_ble_eq_true rfl) dX10_roundOnes_30 ?_
        have hs18 := pk_ite hf
        clear hf
        refine s_if_eq X (tgt := 42) dX10_roundOnes_33 rfl (fun c19 => ?_) (fun c19 => ?_)
        · have hf := hs18.1 c19
          obtain ⟨x20, e21, hf⟩ := pk_bnd hf
          refine s_iinc X (vs' := [(0, .ref (gB G + v0)), (1, .int v1), (2, .int x20)]) 2 dX10_roundOnes_42 rfl (v := x20) e21.symm (Nat.le_of_ble_eq_true rfl) [1, 2, 0] rfl ?_
          refine s_goto X (tgt := 4) dX10_roundOnes_45 rfl ?_
          exact ih _ _ _ hf
        · have hf := hs18.2 c19
          refine s_iload_n X 1 dX10_roundOnes_36 rfl rfl ?_
          refine s_iconst X (v := (1 : Int32)) dX10_roundOnes_37 rfl ?_
          refine s_iload_n X 2 dX10_roundOnes_38 rfl rfl ?_
          refine s_ishl X dX10_roundOnes_39 ?_
          refine s_ior X dX10_roundOnes_40 ?_
          obtain ⟨x22, e23, hf⟩ := pk_bnd hf
          refine s_nmI e23 ?_
          refine s_istore_n X (vs' := [(0, .ref (gB G + v0)), (1, .int x22), (2, .int v2)]) dX10_roundOnes_41 rfl (Nat.le_of_ble_eq_true rfl) [1, 0, 2] rfl ?_
          obtain ⟨x24, e25, hf⟩ := pk_bnd hf
          refine s_iinc X (vs' := [(0, .ref (gB G + v0)), (1, .int x22), (2, .int x24)]) 2 dX10_roundOnes_42 rfl (v := x24) e25.symm (Nat.le_of_ble_eq_true rfl) [1, 2, 0] rfl ?_
          refine s_goto X (tgt := 4) dX10_roundOnes_45 rfl ?_
          exact ih _ _ _ hf
end
theorem k_X10_roundOnes (G : Gam) {n : Nat} {o : Nat} {M : Mem} {rv : Int32} (hf : f_X10_roundOnes n o M = some rv) : Kt yX10_roundOnes cX10_roundOnes 3 (some .int) 3 71 G [.ref (gB G + o)] M M (some (.int rv)) := by
  refine Kt.of (by decide) (Nat.le_of_ble_eq_true rfl) ?_
  intro p l e R s m args below meth c X hr hlk hnm
  refine s_drop [0] (vs' := [(0, .ref (gB G + o))]) rfl ?_
  rw [f_X10_roundOnes] at hf
  refine s_iconst X (v := (0 : Int32)) dX10_roundOnes_0 rfl ?_
  refine s_istore_n X (vs' := [(0, .ref (gB G + o)), (1, .int (0 : Int32))]) dX10_roundOnes_1 rfl (Nat.le_of_ble_eq_true rfl) [1, 0] rfl ?_
  refine s_iconst X (v := (0 : Int32)) dX10_roundOnes_2 rfl ?_
  refine s_istore_n X (vs' := [(0, .ref (gB G + o)), (1, .int (0 : Int32)), (2, .int (0 : Int32))]) dX10_roundOnes_3 rfl (Nat.le_of_ble_eq_true rfl) [1, 2, 0] rfl ?_
  exact l_X10_roundOnes_4 X hr hlk hnm _ _ _ hf
theorem dX10_is_0 : decode cX10_is 0 = .ok (.iload_n 1, 1) := dk_27 (by decide +kernel)
theorem dX10_is_1 : decode cX10_is 1 = .ok (.tableswitch 162 0 12 #[67, 74, 83, 88, 93, 98, 107, 116, 125, 134, 143, 148, 157], 67) := by decide +kernel
theorem dX10_is_68 : decode cX10_is 68 = .ok (.aload_n 0, 1) := dk_42 (by decide +kernel)
theorem dX10_is_69 : decode cX10_is 69 = .ok (.getfield 7, 3) := dk_180 (x := 0) (y := 7) (by decide +kernel) rfl
theorem dX10_is_72 : decode cX10_is 72 = .ok (.iconst 0, 1) := dk_3 (by decide +kernel)
theorem dX10_is_73 : decode cX10_is 73 = .ok (.iaload, 1) := dk_46 (by decide +kernel)
theorem dX10_is_74 : decode cX10_is 74 = .ok (.ireturn, 1) := dk_172 (by decide +kernel)
theorem dX10_is_75 : decode cX10_is 75 = .ok (.aload_n 0, 1) := dk_42 (by decide +kernel)
theorem dX10_is_76 : decode cX10_is 76 = .ok (.getfield 7, 3) := dk_180 (x := 0) (y := 7) (by decide +kernel) rfl
theorem dX10_is_79 : decode cX10_is 79 = .ok (.sipush 850, 3) := dk_17 (x := 3) (y := 82) (by decide +kernel) rfl
theorem dX10_is_82 : decode cX10_is 82 = .ok (.iaload, 1) := dk_46 (by decide +kernel)
theorem dX10_is_83 : decode cX10_is 83 = .ok (.ireturn, 1) := dk_172 (by decide +kernel)
theorem dX10_is_84 : decode cX10_is 84 = .ok (.aload_n 0, 1) := dk_42 (by decide +kernel)
theorem dX10_is_85 : decode cX10_is 85 = .ok (.invokevirtual 196, 3) := dk_182 (x := 0) (y := 196) (by decide +kernel) rfl
theorem dX10_is_88 : decode cX10_is 88 = .ok (.ireturn, 1) := dk_172 (by decide +kernel)
theorem dX10_is_89 : decode cX10_is 89 = .ok (.aload_n 0, 1) := dk_42 (by decide +kernel)
theorem dX10_is_90 : decode cX10_is 90 = .ok (.invokevirtual 268, 3) := dk_182 (x := 1) (y := 12) (by decide +kernel) rfl
theorem dX10_is_93 : decode cX10_is 93 = .ok (.ireturn, 1) := dk_172 (by decide +kernel)
theorem dX10_is_94 : decode cX10_is 94 = .ok (.aload_n 0, 1) := dk_42 (by decide +kernel)
theorem dX10_is_95 : decode cX10_is 95 = .ok (.invokevirtual 96, 3) := dk_182 (x := 0) (y := 96) (by decide +kernel) rfl
theorem dX10_is_98 : decode cX10_is 98 = .ok (.ireturn, 1) := dk_172 (by decide +kernel)
theorem dX10_is_99 : decode cX10_is 99 = .ok (.aload_n 0, 1) := dk_42 (by decide +kernel)
theorem dX10_is_100 : decode cX10_is 100 = .ok (.getfield 7, 3) := dk_180 (x := 0) (y := 7) (by decide +kernel) rfl
theorem dX10_is_103 : decode cX10_is 103 = .ok (.sipush 9851, 3) := dk_17 (x := 38) (y := 123) (by decide +kernel) rfl
theorem dX10_is_106 : decode cX10_is 106 = .ok (.iaload, 1) := dk_46 (by decide +kernel)
theorem dX10_is_107 : decode cX10_is 107 = .ok (.ireturn, 1) := dk_172 (by decide +kernel)
theorem dX10_is_108 : decode cX10_is 108 = .ok (.aload_n 0, 1) := dk_42 (by decide +kernel)
theorem dX10_is_109 : decode cX10_is 109 = .ok (.getfield 7, 3) := dk_180 (x := 0) (y := 7) (by decide +kernel) rfl
theorem dX10_is_112 : decode cX10_is 112 = .ok (.sipush 9852, 3) := dk_17 (x := 38) (y := 124) (by decide +kernel) rfl
theorem dX10_is_115 : decode cX10_is 115 = .ok (.iaload, 1) := dk_46 (by decide +kernel)
theorem dX10_is_116 : decode cX10_is 116 = .ok (.ireturn, 1) := dk_172 (by decide +kernel)
theorem dX10_is_117 : decode cX10_is 117 = .ok (.aload_n 0, 1) := dk_42 (by decide +kernel)
theorem dX10_is_118 : decode cX10_is 118 = .ok (.getfield 7, 3) := dk_180 (x := 0) (y := 7) (by decide +kernel) rfl
theorem dX10_is_121 : decode cX10_is 121 = .ok (.sipush 9853, 3) := dk_17 (x := 38) (y := 125) (by decide +kernel) rfl
theorem dX10_is_124 : decode cX10_is 124 = .ok (.iaload, 1) := dk_46 (by decide +kernel)
theorem dX10_is_125 : decode cX10_is 125 = .ok (.ireturn, 1) := dk_172 (by decide +kernel)
theorem dX10_is_126 : decode cX10_is 126 = .ok (.aload_n 0, 1) := dk_42 (by decide +kernel)
theorem dX10_is_127 : decode cX10_is 127 = .ok (.getfield 7, 3) := dk_180 (x := 0) (y := 7) (by decide +kernel) rfl
theorem dX10_is_130 : decode cX10_is 130 = .ok (.sipush 9854, 3) := dk_17 (x := 38) (y := 126) (by decide +kernel) rfl
theorem dX10_is_133 : decode cX10_is 133 = .ok (.iaload, 1) := dk_46 (by decide +kernel)
theorem dX10_is_134 : decode cX10_is 134 = .ok (.ireturn, 1) := dk_172 (by decide +kernel)
theorem dX10_is_135 : decode cX10_is 135 = .ok (.aload_n 0, 1) := dk_42 (by decide +kernel)
theorem dX10_is_136 : decode cX10_is 136 = .ok (.getfield 7, 3) := dk_180 (x := 0) (y := 7) (by decide +kernel) rfl
theorem dX10_is_139 : decode cX10_is 139 = .ok (.sipush 9855, 3) := dk_17 (x := 38) (y := 127) (by decide +kernel) rfl
theorem dX10_is_142 : decode cX10_is 142 = .ok (.iaload, 1) := dk_46 (by decide +kernel)
theorem dX10_is_143 : decode cX10_is 143 = .ok (.ireturn, 1) := dk_172 (by decide +kernel)
theorem dX10_is_144 : decode cX10_is 144 = .ok (.aload_n 0, 1) := dk_42 (by decide +kernel)
theorem dX10_is_145 : decode cX10_is 145 = .ok (.invokevirtual 289, 3) := dk_182 (x := 1) (y := 33) (by decide +kernel) rfl
theorem dX10_is_148 : decode cX10_is 148 = .ok (.ireturn, 1) := dk_172 (by decide +kernel)
theorem dX10_is_149 : decode cX10_is 149 = .ok (.aload_n 0, 1) := dk_42 (by decide +kernel)
theorem dX10_is_150 : decode cX10_is 150 = .ok (.getfield 7, 3) := dk_180 (x := 0) (y := 7) (by decide +kernel) rfl
theorem dX10_is_153 : decode cX10_is 153 = .ok (.sipush 9856, 3) := dk_17 (x := 38) (y := 128) (by decide +kernel) rfl
theorem dX10_is_156 : decode cX10_is 156 = .ok (.iaload, 1) := dk_46 (by decide +kernel)
theorem dX10_is_157 : decode cX10_is 157 = .ok (.ireturn, 1) := dk_172 (by decide +kernel)
theorem dX10_is_158 : decode cX10_is 158 = .ok (.aload_n 0, 1) := dk_42 (by decide +kernel)
theorem dX10_is_159 : decode cX10_is 159 = .ok (.invokevirtual 292, 3) := dk_182 (x := 1) (y := 36) (by decide +kernel) rfl
theorem dX10_is_162 : decode cX10_is 162 = .ok (.ireturn, 1) := dk_172 (by decide +kernel)
theorem dX10_is_163 : decode cX10_is 163 = .ok (.iconst (-1), 1) := dk_2 (by decide +kernel)
theorem dX10_is_164 : decode cX10_is 164 = .ok (.ireturn, 1) := dk_172 (by decide +kernel)
def f_X10_is (n : Nat) (o : Nat) (a1 : Int32) (M : Mem) : Option (Int32 × Mem) :=
  if a1 = (0 : Int32) then (
    chk (isO M 10 o) <|
    bnd (mR M o 0) fun o4 =>
    chk (isO M 100 o4) <|
    chk (inB (0 : Int32) (mLn M o4)) <|
    some ((mI M o4 ((0 : Int32)).toNatClampNeg), M)
    ) else (
  if a1 = (1 : Int32) then (
    chk (isO M 10 o) <|
    bnd (mR M o 0) fun o11 =>
    chk (isO M 100 o11) <|
    chk (inB (850 : Int32) (mLn M o11)) <|
    some ((mI M o11 ((850 : Int32)).toNatClampNeg), M)
    ) else (
  if a1 = (2 : Int32) then (
    chk (isO M 10 o) <|
    obd (f_X10_insides n o M) fun r19 =>
    some (r19, M)
    ) else (
  if a1 = (3 : Int32) then (
    chk (isO M 10 o) <|
    obd (f_X10_askings n o M) fun r24 =>
    some (r24, M)
    ) else (
  if a1 = (4 : Int32) then (
    chk (isO M 10 o) <|
    obd (f_X10_brokenOnes n o M) fun r29 =>
    some (r29, M)
    ) else (
  if a1 = (5 : Int32) then (
    chk (isO M 10 o) <|
    bnd (mR M o 0) fun o33 =>
    chk (isO M 100 o33) <|
    chk (inB (9851 : Int32) (mLn M o33)) <|
    some ((mI M o33 ((9851 : Int32)).toNatClampNeg), M)
    ) else (
  if a1 = (6 : Int32) then (
    chk (isO M 10 o) <|
    bnd (mR M o 0) fun o40 =>
    chk (isO M 100 o40) <|
    chk (inB (9852 : Int32) (mLn M o40)) <|
    some ((mI M o40 ((9852 : Int32)).toNatClampNeg), M)
    ) else (
  if a1 = (7 : Int32) then (
    chk (isO M 10 o) <|
    bnd (mR M o 0) fun o47 =>
    chk (isO M 100 o47) <|
    chk (inB (9853 : Int32) (mLn M o47)) <|
    some ((mI M o47 ((9853 : Int32)).toNatClampNeg), M)
    ) else (
  if a1 = (8 : Int32) then (
    chk (isO M 10 o) <|
    bnd (mR M o 0) fun o54 =>
    chk (isO M 100 o54) <|
    chk (inB (9854 : Int32) (mLn M o54)) <|
    some ((mI M o54 ((9854 : Int32)).toNatClampNeg), M)
    ) else (
  if a1 = (9 : Int32) then (
    chk (isO M 10 o) <|
    bnd (mR M o 0) fun o61 =>
    chk (isO M 100 o61) <|
    chk (inB (9855 : Int32) (mLn M o61)) <|
    some ((mI M o61 ((9855 : Int32)).toNatClampNeg), M)
    ) else (
  if a1 = (10 : Int32) then (
    chk (isO M 10 o) <|
    obd2 (f_X10_movesNow n o M) fun r69 M70 =>
    some (r69, M70)
    ) else (
  if a1 = (11 : Int32) then (
    chk (isO M 10 o) <|
    bnd (mR M o 0) fun o74 =>
    chk (isO M 100 o74) <|
    chk (inB (9856 : Int32) (mLn M o74)) <|
    some ((mI M o74 ((9856 : Int32)).toNatClampNeg), M)
    ) else (
  if a1 = (12 : Int32) then (
    chk (isO M 10 o) <|
    obd (f_X10_roundOnes n o M) fun r82 =>
    some (r82, M)
    ) else (
  some ((-1 : Int32), M)
  )
  )
  )
  )
  )
  )
  )
  )
  )
  )
  )
  )
  )
theorem cd_X10_is : (yX10_is.cls ≠ "java/lang/invoke/MethodHandle" ∧ yX10_is.cls ≠ "java/lang/invoke/VarHandle") ∧ (parseMethodDescriptor yX10_is.desc).map (fun d => d.parameters.length) = some 1 := ⟨⟨by decide +kernel, by decide +kernel⟩, by decide +kernel⟩
theorem k_X10_is (G : Gam) {n : Nat} {o : Nat} {a1 : Int32} {M : Mem} {rv : (Int32 × Mem)} (hf : f_X10_is n o a1 M = some rv) : Kt yX10_is cX10_is 2 (some .int) 7 153 G [.ref (gB G + o), .int a1] M rv.2 (some (.int rv.1)) := by
  refine Kt.of (by decide) (Nat.le_of_ble_eq_true rfl) ?_
  intro p l e R s m args below meth c X hr hlk hnm
  refine s_drop [0, 1] (vs' := [(0, .ref (gB G + o)), (1, .int a1)]) rfl ?_
  rw [f_X10_is] at hf
  refine s_iload_n X 1 dX10_is_0 rfl rfl ?_
  have hs1 := pk_ite hf
  clear hf
  by_cases c2 : a1 = (0 : Int32)
  · have hf := hs1.1 c2
    refine s_swC X (v := (0 : Int32)) (tgt := 68) dX10_is_1 c2 (by decide) (by decide) rfl rfl ?_
    refine s_aload_n X 0 dX10_is_68 rfl rfl ?_
    obtain ⟨h3, hf⟩ := pk_chk hf
    obtain ⟨o4, e5, hf⟩ := pk_bnd hf
    obtain ⟨h6, hf⟩ := pk_chk hf
    refine s_getR X (ci := 10) (k := 0) rfl (Nat.le_of_ble_eq_true rfl) h3 wd1440 (fun _ _ _ => rfl) (e5 ▸ h6) dX10_is_69 (e5 ▸ ?_)
    refine s_iconst X (v := (0 : Int32)) dX10_is_72 rfl ?_
    obtain ⟨h7, hf⟩ := pk_chk hf
    refine s_iald X h6 h7 dX10_is_73 ?_
    cases hf
    exact s_iret X hr hlk dX10_is_74
  have hf := hs1.2 c2
  have hs8 := pk_ite hf
  clear hf
  by_cases c9 : a1 = (1 : Int32)
  · have hf := hs8.1 c9
    refine s_swC X (v := (1 : Int32)) (tgt := 75) dX10_is_1 c9 (by decide) (by decide) rfl rfl ?_
    refine s_aload_n X 0 dX10_is_75 rfl rfl ?_
    obtain ⟨h10, hf⟩ := pk_chk hf
    obtain ⟨o11, e12, hf⟩ := pk_bnd hf
    obtain ⟨h13, hf⟩ := pk_chk hf
    refine s_getR X (ci := 10) (k := 0) rfl (Nat.le_of_ble_eq_true rfl) h10 wd1440 (fun _ _ _ => rfl) (e12 ▸ h13) dX10_is_76 (e12 ▸ ?_)
    refine s_sipush X (v := (850 : Int32)) dX10_is_79 rfl ?_
    obtain ⟨h14, hf⟩ := pk_chk hf
    refine s_iald X h13 h14 dX10_is_82 ?_
    cases hf
    exact s_iret X hr hlk dX10_is_83
  have hf := hs8.2 c9
  have hs15 := pk_ite hf
  clear hf
  by_cases c16 : a1 = (2 : Int32)
  · have hf := hs15.1 c16
    refine s_swC X (v := (2 : Int32)) (tgt := 84) dX10_is_1 c16 (by decide) (by decide) rfl rfl ?_
    refine s_aload_n X 0 dX10_is_84 rfl rfl ?_
    obtain ⟨h17, hf⟩ := pk_chk hf
    obtain ⟨r19, hc18, hf⟩ := pk_obd hf
    refine s_callV X (ci := 10) (k_X10_insides G hc18) rfl h17 wd1826 wd1828 wd93 wd1829 wd138 cd_X10_insides ⟨Nat.le_of_ble_eq_true rfl, Nat.le_of_ble_eq_true rfl⟩ (Nat.le_of_ble_eq_true rfl) dX10_is_85 ?_
    cases hf
    exact s_iret X hr hlk dX10_is_88
  have hf := hs15.2 c16
  have hs20 := pk_ite hf
  clear hf
  by_cases c21 : a1 = (3 : Int32)
  · have hf := hs20.1 c21
    refine s_swC X (v := (3 : Int32)) (tgt := 89) dX10_is_1 c21 (by decide) (by decide) rfl rfl ?_
    refine s_aload_n X 0 dX10_is_89 rfl rfl ?_
    obtain ⟨h22, hf⟩ := pk_chk hf
    obtain ⟨r24, hc23, hf⟩ := pk_obd hf
    refine s_callV X (ci := 10) (k_X10_askings G hc23) rfl h22 wd1862 wd1864 wd100 wd1865 wd138 cd_X10_askings ⟨Nat.le_of_ble_eq_true rfl, Nat.le_of_ble_eq_true rfl⟩ (Nat.le_of_ble_eq_true rfl) dX10_is_90 ?_
    cases hf
    exact s_iret X hr hlk dX10_is_93
  have hf := hs20.2 c21
  have hs25 := pk_ite hf
  clear hf
  by_cases c26 : a1 = (4 : Int32)
  · have hf := hs25.1 c26
    refine s_swC X (v := (4 : Int32)) (tgt := 94) dX10_is_1 c26 (by decide) (by decide) rfl rfl ?_
    refine s_aload_n X 0 dX10_is_94 rfl rfl ?_
    obtain ⟨h27, hf⟩ := pk_chk hf
    obtain ⟨r29, hc28, hf⟩ := pk_obd hf
    refine s_callV X (ci := 10) (k_X10_brokenOnes G hc28) rfl h27 wd1584 wd1586 wd56 wd1587 wd138 cd_X10_brokenOnes ⟨Nat.le_of_ble_eq_true rfl, Nat.le_of_ble_eq_true rfl⟩ (Nat.le_of_ble_eq_true rfl) dX10_is_95 ?_
    cases hf
    exact s_iret X hr hlk dX10_is_98
  have hf := hs25.2 c26
  have hs30 := pk_ite hf
  clear hf
  by_cases c31 : a1 = (5 : Int32)
  · have hf := hs30.1 c31
    refine s_swC X (v := (5 : Int32)) (tgt := 99) dX10_is_1 c31 (by decide) (by decide) rfl rfl ?_
    refine s_aload_n X 0 dX10_is_99 rfl rfl ?_
    obtain ⟨h32, hf⟩ := pk_chk hf
    obtain ⟨o33, e34, hf⟩ := pk_bnd hf
    obtain ⟨h35, hf⟩ := pk_chk hf
    refine s_getR X (ci := 10) (k := 0) rfl (Nat.le_of_ble_eq_true rfl) h32 wd1440 (fun _ _ _ => rfl) (e34 ▸ h35) dX10_is_100 (e34 ▸ ?_)
    refine s_sipush X (v := (9851 : Int32)) dX10_is_103 rfl ?_
    obtain ⟨h36, hf⟩ := pk_chk hf
    refine s_iald X h35 h36 dX10_is_106 ?_
    cases hf
    exact s_iret X hr hlk dX10_is_107
  have hf := hs30.2 c31
  have hs37 := pk_ite hf
  clear hf
  by_cases c38 : a1 = (6 : Int32)
  · have hf := hs37.1 c38
    refine s_swC X (v := (6 : Int32)) (tgt := 108) dX10_is_1 c38 (by decide) (by decide) rfl rfl ?_
    refine s_aload_n X 0 dX10_is_108 rfl rfl ?_
    obtain ⟨h39, hf⟩ := pk_chk hf
    obtain ⟨o40, e41, hf⟩ := pk_bnd hf
    obtain ⟨h42, hf⟩ := pk_chk hf
    refine s_getR X (ci := 10) (k := 0) rfl (Nat.le_of_ble_eq_true rfl) h39 wd1440 (fun _ _ _ => rfl) (e41 ▸ h42) dX10_is_109 (e41 ▸ ?_)
    refine s_sipush X (v := (9852 : Int32)) dX10_is_112 rfl ?_
    obtain ⟨h43, hf⟩ := pk_chk hf
    refine s_iald X h42 h43 dX10_is_115 ?_
    cases hf
    exact s_iret X hr hlk dX10_is_116
  have hf := hs37.2 c38
  have hs44 := pk_ite hf
  clear hf
  by_cases c45 : a1 = (7 : Int32)
  · have hf := hs44.1 c45
    refine s_swC X (v := (7 : Int32)) (tgt := 117) dX10_is_1 c45 (by decide) (by decide) rfl rfl ?_
    refine s_aload_n X 0 dX10_is_117 rfl rfl ?_
    obtain ⟨h46, hf⟩ := pk_chk hf
    obtain ⟨o47, e48, hf⟩ := pk_bnd hf
    obtain ⟨h49, hf⟩ := pk_chk hf
    refine s_getR X (ci := 10) (k := 0) rfl (Nat.le_of_ble_eq_true rfl) h46 wd1440 (fun _ _ _ => rfl) (e48 ▸ h49) dX10_is_118 (e48 ▸ ?_)
    refine s_sipush X (v := (9853 : Int32)) dX10_is_121 rfl ?_
    obtain ⟨h50, hf⟩ := pk_chk hf
    refine s_iald X h49 h50 dX10_is_124 ?_
    cases hf
    exact s_iret X hr hlk dX10_is_125
  have hf := hs44.2 c45
  have hs51 := pk_ite hf
  clear hf
  by_cases c52 : a1 = (8 : Int32)
  · have hf := hs51.1 c52
    refine s_swC X (v := (8 : Int32)) (tgt := 126) dX10_is_1 c52 (by decide) (by decide) rfl rfl ?_
    refine s_aload_n X 0 dX10_is_126 rfl rfl ?_
    obtain ⟨h53, hf⟩ := pk_chk hf
    obtain ⟨o54, e55, hf⟩ := pk_bnd hf
    obtain ⟨h56, hf⟩ := pk_chk hf
    refine s_getR X (ci := 10) (k := 0) rfl (Nat.le_of_ble_eq_true rfl) h53 wd1440 (fun _ _ _ => rfl) (e55 ▸ h56) dX10_is_127 (e55 ▸ ?_)
    refine s_sipush X (v := (9854 : Int32)) dX10_is_130 rfl ?_
    obtain ⟨h57, hf⟩ := pk_chk hf
    refine s_iald X h56 h57 dX10_is_133 ?_
    cases hf
    exact s_iret X hr hlk dX10_is_134
  have hf := hs51.2 c52
  have hs58 := pk_ite hf
  clear hf
  by_cases c59 : a1 = (9 : Int32)
  · have hf := hs58.1 c59
    refine s_swC X (v := (9 : Int32)) (tgt := 135) dX10_is_1 c59 (by decide) (by decide) rfl rfl ?_
    refine s_aload_n X 0 dX10_is_135 rfl rfl ?_
    obtain ⟨h60, hf⟩ := pk_chk hf
    obtain ⟨o61, e62, hf⟩ := pk_bnd hf
    obtain ⟨h63, hf⟩ := pk_chk hf
    refine s_getR X (ci := 10) (k := 0) rfl (Nat.le_of_ble_eq_true rfl) h60 wd1440 (fun _ _ _ => rfl) (e62 ▸ h63) dX10_is_136 (e62 ▸ ?_)
    refine s_sipush X (v := (9855 : Int32)) dX10_is_139 rfl ?_
    obtain ⟨h64, hf⟩ := pk_chk hf
    refine s_iald X h63 h64 dX10_is_142 ?_
    cases hf
    exact s_iret X hr hlk dX10_is_143
  have hf := hs58.2 c59
  have hs65 := pk_ite hf
  clear hf
  by_cases c66 : a1 = (10 : Int32)
  · have hf := hs65.1 c66
    refine s_swC X (v := (10 : Int32)) (tgt := 144) dX10_is_1 c66 (by decide) (by decide) rfl rfl ?_
    refine s_aload_n X 0 dX10_is_144 rfl rfl ?_
    obtain ⟨h67, hf⟩ := pk_chk hf
    obtain ⟨r69, M70, hc68, hf⟩ := pk_obd2 hf
    refine s_callV X (ci := 10) (k_X10_movesNow G hc68) rfl h67 wd1902 wd1904 wd102 wd1905 wd138 cd_X10_movesNow ⟨Nat.le_of_ble_eq_true rfl, Nat.le_of_ble_eq_true rfl⟩ (Nat.le_of_ble_eq_true rfl) dX10_is_145 ?_
    cases hf
    exact s_iret X hr hlk dX10_is_148
  have hf := hs65.2 c66
  have hs71 := pk_ite hf
  clear hf
  by_cases c72 : a1 = (11 : Int32)
  · have hf := hs71.1 c72
    refine s_swC X (v := (11 : Int32)) (tgt := 149) dX10_is_1 c72 (by decide) (by decide) rfl rfl ?_
    refine s_aload_n X 0 dX10_is_149 rfl rfl ?_
    obtain ⟨h73, hf⟩ := pk_chk hf
    obtain ⟨o74, e75, hf⟩ := pk_bnd hf
    obtain ⟨h76, hf⟩ := pk_chk hf
    refine s_getR X (ci := 10) (k := 0) rfl (Nat.le_of_ble_eq_true rfl) h73 wd1440 (fun _ _ _ => rfl) (e75 ▸ h76) dX10_is_150 (e75 ▸ ?_)
    refine s_sipush X (v := (9856 : Int32)) dX10_is_153 rfl ?_
    obtain ⟨h77, hf⟩ := pk_chk hf
    refine s_iald X h76 h77 dX10_is_156 ?_
    cases hf
    exact s_iret X hr hlk dX10_is_157
  have hf := hs71.2 c72
  have hs78 := pk_ite hf
  clear hf
  by_cases c79 : a1 = (12 : Int32)
  · have hf := hs78.1 c79
    refine s_swC X (v := (12 : Int32)) (tgt := 158) dX10_is_1 c79 (by decide) (by decide) rfl rfl ?_
    refine s_aload_n X 0 dX10_is_158 rfl rfl ?_
    obtain ⟨h80, hf⟩ := pk_chk hf
    obtain ⟨r82, hc81, hf⟩ := pk_obd hf
    refine s_callV X (ci := 10) (k_X10_roundOnes G hc81) rfl h80 wd1910 wd1912 wd104 wd1913 wd138 cd_X10_roundOnes ⟨Nat.le_of_ble_eq_true rfl, Nat.le_of_ble_eq_true rfl⟩ (Nat.le_of_ble_eq_true rfl) dX10_is_159 ?_
    cases hf
    exact s_iret X hr hlk dX10_is_162
  have hf := hs78.2 c79
  refine s_swOut X (tgt := 163) dX10_is_1 (by have := sw_ne (v := (0 : Int32)) (z := 0) c2 (by decide); have := sw_ne (v := (1 : Int32)) (z := 1) c9 (by decide); have := sw_ne (v := (2 : Int32)) (z := 2) c16 (by decide); have := sw_ne (v := (3 : Int32)) (z := 3) c21 (by decide); have := sw_ne (v := (4 : Int32)) (z := 4) c26 (by decide); have := sw_ne (v := (5 : Int32)) (z := 5) c31 (by decide); have := sw_ne (v := (6 : Int32)) (z := 6) c38 (by decide); have := sw_ne (v := (7 : Int32)) (z := 7) c45 (by decide); have := sw_ne (v := (8 : Int32)) (z := 8) c52 (by decide); have := sw_ne (v := (9 : Int32)) (z := 9) c59 (by decide); have := sw_ne (v := (10 : Int32)) (z := 10) c66 (by decide); have := sw_ne (v := (11 : Int32)) (z := 11) c72 (by decide); have := sw_ne (v := (12 : Int32)) (z := 12) c79 (by decide); omega) rfl ?_
  refine s_iconst X (v := (-1 : Int32)) dX10_is_163 rfl ?_
  cases hf
  exact s_iret X hr hlk dX10_is_164
theorem dX9_handled_0 : decode cX9_handled 0 = .ok (.aload_n 0, 1) := dk_42 (by decide +kernel)
theorem dX9_handled_1 : decode cX9_handled 1 = .ok (.getfield 10, 3) := dk_180 (x := 0) (y := 10) (by decide +kernel) rfl
theorem dX9_handled_4 : decode cX9_handled 4 = .ok (.iload_n 1, 1) := dk_27 (by decide +kernel)
theorem dX9_handled_5 : decode cX9_handled 5 = .ok (.invokevirtual 71, 3) := dk_182 (x := 0) (y := 71) (by decide +kernel) rfl
theorem dX9_handled_8 : decode cX9_handled 8 = .ok (.ifCond .eq 18, 3) := dk_153 (x := 0) (y := 18) (by decide +kernel) rfl
theorem dX9_handled_11 : decode cX9_handled 11 = .ok (.aload_n 0, 1) := dk_42 (by decide +kernel)
theorem dX9_handled_12 : decode cX9_handled 12 = .ok (.getfield 28, 3) := dk_180 (x := 0) (y := 28) (by decide +kernel) rfl
theorem dX9_handled_15 : decode cX9_handled 15 = .ok (.getfield 99, 3) := dk_180 (x := 0) (y := 99) (by decide +kernel) rfl
theorem dX9_handled_18 : decode cX9_handled 18 = .ok (.iload_n 1, 1) := dk_27 (by decide +kernel)
theorem dX9_handled_19 : decode cX9_handled 19 = .ok (.aaload, 1) := dk_50 (by decide +kernel)
theorem dX9_handled_20 : decode cX9_handled 20 = .ok (.getfield 280, 3) := dk_180 (x := 1) (y := 24) (by decide +kernel) rfl
theorem dX9_handled_23 : decode cX9_handled 23 = .ok (.goto 4, 3) := dk_167 (x := 0) (y := 4) (by decide +kernel) rfl
theorem dX9_handled_26 : decode cX9_handled 26 = .ok (.iconst (-1), 1) := dk_2 (by decide +kernel)
theorem dX9_handled_27 : decode cX9_handled 27 = .ok (.ireturn, 1) := dk_172 (by decide +kernel)
def f_X9_handled (o : Nat) (a1 : Int32) (M : Mem) : Option Int32 :=
  chk (isO M 9 o) <|
  bnd (mR M o 0) fun o2 =>
  chk (isO M 7 o2) <|
  obd (f_X7_isNode o2 a1 M) fun r6 =>
  if r6 = 0 then (
    some (-1 : Int32)
    ) else (
    bnd (mR M o 2) fun o9 =>
    chk (isO M 2 o9) <|
    bnd (mR M o9 2) fun o12 =>
    chk (isO M 102 o12) <|
    chk (inB a1 (mLn M o12)) <|
    bnd (mR M o12 (a1).toNatClampNeg) fun o16 =>
    chk (isO M 4 o16) <|
    some (mI M o16 12)
    )
theorem cd_X9_handled : (yX9_handled.cls ≠ "java/lang/invoke/MethodHandle" ∧ yX9_handled.cls ≠ "java/lang/invoke/VarHandle") ∧ (parseMethodDescriptor yX9_handled.desc).map (fun d => d.parameters.length) = some 1 := ⟨⟨by decide +kernel, by decide +kernel⟩, by decide +kernel⟩
theorem k_X9_handled (G : Gam) {o : Nat} {a1 : Int32} {M : Mem} {rv : Int32} (hf : f_X9_handled o a1 M = some rv) : Kt yX9_handled cX9_handled 2 (some .int) 1 21 G [.ref (gB G + o), .int a1] M M (some (.int rv)) := by
  refine Kt.of (by decide) (Nat.le_of_ble_eq_true rfl) ?_
  intro p l e R s m args below meth c X hr hlk hnm
  refine s_drop [0, 1] (vs' := [(0, .ref (gB G + o)), (1, .int a1)]) rfl ?_
  rw [f_X9_handled] at hf
  refine s_aload_n X 0 dX9_handled_0 rfl rfl ?_
  obtain ⟨h1, hf⟩ := pk_chk hf
  obtain ⟨o2, e3, hf⟩ := pk_bnd hf
  obtain ⟨h4, hf⟩ := pk_chk hf
  refine s_getR X (ci := 9) (k := 0) rfl (Nat.le_of_ble_eq_true rfl) h1 wd627 (fun _ _ _ => rfl) (e3 ▸ h4) dX9_handled_1 (e3 ▸ ?_)
  refine s_iload_n X 1 dX9_handled_4 rfl rfl ?_
  obtain ⟨r6, hc5, hf⟩ := pk_obd hf
  refine s_callV X (ci := 7) (k_X7_isNode G hc5) rfl h4 wd699 wd700 wd701 wd702 wd127 cd_X7_isNode ⟨Nat.le_of_ble_eq_true rfl, Nat.le_of_ble_eq_true rfl⟩ (Nat.le_of_ble_eq_true rfl) dX9_handled_5 ?_
  have hs7 := pk_ite hf
  clear hf
  refine s_if_eq X (tgt := 26) dX9_handled_8 rfl (fun c8 => ?_) (fun c8 => ?_)
  · have hf := hs7.1 c8
    refine s_iconst X (v := (-1 : Int32)) dX9_handled_26 rfl ?_
    cases hf
    exact s_iret X hr hlk dX9_handled_27
  · have hf := hs7.2 c8
    refine s_aload_n X 0 dX9_handled_11 rfl rfl ?_
    obtain ⟨o9, e10, hf⟩ := pk_bnd hf
    obtain ⟨h11, hf⟩ := pk_chk hf
    refine s_getR X (ci := 9) (k := 2) rfl (Nat.le_of_ble_eq_true rfl) h1 wd629 (fun _ _ _ => rfl) (e10 ▸ h11) dX9_handled_12 (e10 ▸ ?_)
    obtain ⟨o12, e13, hf⟩ := pk_bnd hf
    obtain ⟨h14, hf⟩ := pk_chk hf
    refine s_getR X (ci := 2) (k := 2) rfl (Nat.le_of_ble_eq_true rfl) h11 wd426 (fun _ _ _ => rfl) (e13 ▸ h14) dX9_handled_15 (e13 ▸ ?_)
    refine s_iload_n X 1 dX9_handled_18 rfl rfl ?_
    obtain ⟨h15, hf⟩ := pk_chk hf
    obtain ⟨o16, e17, hf⟩ := pk_bnd hf
    obtain ⟨h18, hf⟩ := pk_chk hf
    refine s_aald X h14 h15 (e17 ▸ h18) dX9_handled_19 (e17 ▸ ?_)
    refine s_getI X (ci := 4) (k := 12) rfl (Nat.le_of_ble_eq_true rfl) h18 wd374 (fun _ _ _ => rfl) dX9_handled_20 ?_
    refine s_goto X (tgt := 27) dX9_handled_23 rfl ?_
    cases hf
    exact s_iret X hr hlk dX9_handled_27
theorem dX10_handled_0 : decode cX10_handled 0 = .ok (.aload_n 0, 1) := dk_42 (by decide +kernel)
theorem dX10_handled_1 : decode cX10_handled 1 = .ok (.iload_n 1, 1) := dk_27 (by decide +kernel)
theorem dX10_handled_2 : decode cX10_handled 2 = .ok (.invokevirtual 76, 3) := dk_182 (x := 0) (y := 76) (by decide +kernel) rfl
theorem dX10_handled_5 : decode cX10_handled 5 = .ok (.ifCond .eq 16, 3) := dk_153 (x := 0) (y := 16) (by decide +kernel) rfl
theorem dX10_handled_8 : decode cX10_handled 8 = .ok (.aload_n 0, 1) := dk_42 (by decide +kernel)
theorem dX10_handled_9 : decode cX10_handled 9 = .ok (.getfield 7, 3) := dk_180 (x := 0) (y := 7) (by decide +kernel) rfl
theorem dX10_handled_12 : decode cX10_handled 12 = .ok (.sipush 10193, 3) := dk_17 (x := 39) (y := 209) (by decide +kernel) rfl
theorem dX10_handled_15 : decode cX10_handled 15 = .ok (.iload_n 1, 1) := dk_27 (by decide +kernel)
theorem dX10_handled_16 : decode cX10_handled 16 = .ok (.iadd, 1) := dk_96 (by decide +kernel)
theorem dX10_handled_17 : decode cX10_handled 17 = .ok (.iaload, 1) := dk_46 (by decide +kernel)
theorem dX10_handled_18 : decode cX10_handled 18 = .ok (.goto 4, 3) := dk_167 (x := 0) (y := 4) (by decide +kernel) rfl
theorem dX10_handled_21 : decode cX10_handled 21 = .ok (.iconst (-1), 1) := dk_2 (by decide +kernel)
theorem dX10_handled_22 : decode cX10_handled 22 = .ok (.ireturn, 1) := dk_172 (by decide +kernel)
def f_X10_handled (o : Nat) (a1 : Int32) (M : Mem) : Option Int32 :=
  chk (isO M 10 o) <|
  obd (f_X10_isNode o a1 M) fun r3 =>
  if r3 = 0 then (
    some (-1 : Int32)
    ) else (
    bnd (mR M o 0) fun o6 =>
    chk (isO M 100 o6) <|
    chk (inB ((10193 : Int32) + a1) (mLn M o6)) <|
    some (mI M o6 (((10193 : Int32) + a1)).toNatClampNeg)
    )
theorem cd_X10_handled : (yX10_handled.cls ≠ "java/lang/invoke/MethodHandle" ∧ yX10_handled.cls ≠ "java/lang/invoke/VarHandle") ∧ (parseMethodDescriptor yX10_handled.desc).map (fun d => d.parameters.length) = some 1 := ⟨⟨by decide +kernel, by decide +kernel⟩, by decide +kernel⟩
theorem k_X10_handled (G : Gam) {o : Nat} {a1 : Int32} {M : Mem} {rv : Int32} (hf : f_X10_handled o a1 M = some rv) : Kt yX10_handled cX10_handled 2 (some .int) 2 43 G [.ref (gB G + o), .int a1] M M (some (.int rv)) := by
  refine Kt.of (by decide) (Nat.le_of_ble_eq_true rfl) ?_
  intro p l e R s m args below meth c X hr hlk hnm
  refine s_drop [0, 1] (vs' := [(0, .ref (gB G + o)), (1, .int a1)]) rfl ?_
  rw [f_X10_handled] at hf
  refine s_aload_n X 0 dX10_handled_0 rfl rfl ?_
  refine s_iload_n X 1 dX10_handled_1 rfl rfl ?_
  obtain ⟨h1, hf⟩ := pk_chk hf
  obtain ⟨r3, hc2, hf⟩ := pk_obd hf
  refine s_callV X (ci := 10) (k_X10_isNode G hc2) rfl h1 wd1554 wd1556 wd53 wd1557 wd138 cd_X10_isNode ⟨Nat.le_of_ble_eq_true rfl, Nat.le_of_ble_eq_true rfl⟩ (Nat.le_of_ble_eq_true rfl) dX10_handled_2 ?_
  have hs4 := pk_ite hf
  clear hf
  refine s_if_eq X (tgt := 21) dX10_handled_5 rfl (fun c5 => ?_) (fun c5 => ?_)
  · have hf := hs4.1 c5
    refine s_iconst X (v := (-1 : Int32)) dX10_handled_21 rfl ?_
    cases hf
    exact s_iret X hr hlk dX10_handled_22
  · have hf := hs4.2 c5
    refine s_aload_n X 0 dX10_handled_8 rfl rfl ?_
    obtain ⟨o6, e7, hf⟩ := pk_bnd hf
    obtain ⟨h8, hf⟩ := pk_chk hf
    refine s_getR X (ci := 10) (k := 0) rfl (Nat.le_of_ble_eq_true rfl) h1 wd1440 (fun _ _ _ => rfl) (e7 ▸ h8) dX10_handled_9 (e7 ▸ ?_)
    refine s_sipush X (v := (10193 : Int32)) dX10_handled_12 rfl ?_
    refine s_iload_n X 1 dX10_handled_15 rfl rfl ?_
    refine s_iadd X dX10_handled_16 ?_
    obtain ⟨h9, hf⟩ := pk_chk hf
    refine s_iald X h8 h9 dX10_handled_17 ?_
    refine s_goto X (tgt := 22) dX10_handled_18 rfl ?_
    cases hf
    exact s_iret X hr hlk dX10_handled_22
theorem dX5_sentInAll_0 : decode cX5_sentInAll 0 = .ok (.iconst 0, 1) := dk_3 (by decide +kernel)
theorem dX5_sentInAll_1 : decode cX5_sentInAll 1 = .ok (.istore_n 1, 1) := dk_60 (by decide +kernel)
theorem dX5_sentInAll_2 : decode cX5_sentInAll 2 = .ok (.iconst 0, 1) := dk_3 (by decide +kernel)
theorem dX5_sentInAll_3 : decode cX5_sentInAll 3 = .ok (.istore_n 2, 1) := dk_61 (by decide +kernel)
theorem dX5_sentInAll_4 : decode cX5_sentInAll 4 = .ok (.iload_n 2, 1) := dk_28 (by decide +kernel)
theorem dX5_sentInAll_5 : decode cX5_sentInAll 5 = .ok (.bipush 6, 2) := dk_16 (x := 6) (by decide +kernel) rfl
theorem dX5_sentInAll_7 : decode cX5_sentInAll 7 = .ok (.if_icmp .ge 18, 3) := dk_162 (x := 0) (y := 18) (by decide +kernel) rfl
theorem dX5_sentInAll_10 : decode cX5_sentInAll 10 = .ok (.iload_n 1, 1) := dk_27 (by decide +kernel)
theorem dX5_sentInAll_11 : decode cX5_sentInAll 11 = .ok (.aload_n 0, 1) := dk_42 (by decide +kernel)
theorem dX5_sentInAll_12 : decode cX5_sentInAll 12 = .ok (.getfield 24, 3) := dk_180 (x := 0) (y := 24) (by decide +kernel) rfl
theorem dX5_sentInAll_15 : decode cX5_sentInAll 15 = .ok (.iload_n 2, 1) := dk_28 (by decide +kernel)
theorem dX5_sentInAll_16 : decode cX5_sentInAll 16 = .ok (.iaload, 1) := dk_46 (by decide +kernel)
theorem dX5_sentInAll_17 : decode cX5_sentInAll 17 = .ok (.iadd, 1) := dk_96 (by decide +kernel)
theorem dX5_sentInAll_18 : decode cX5_sentInAll 18 = .ok (.istore_n 1, 1) := dk_60 (by decide +kernel)
theorem dX5_sentInAll_19 : decode cX5_sentInAll 19 = .ok (.iinc 2 1, 3) := dk_132 (x := 2) (y := 1) (by decide +kernel) rfl
theorem dX5_sentInAll_22 : decode cX5_sentInAll 22 = .ok (.goto (-18), 3) := dk_167 (x := 255) (y := 238) (by decide +kernel) rfl
theorem dX5_sentInAll_25 : decode cX5_sentInAll 25 = .ok (.iload_n 1, 1) := dk_27 (by decide +kernel)
theorem dX5_sentInAll_26 : decode cX5_sentInAll 26 = .ok (.ireturn, 1) := dk_172 (by decide +kernel)
def f_X5_sentInAll_4 (M : Mem) : Nat → Nat → Int32 → Int32 → Option Int32
  | 0, _, _, _ => none
  | n + 1, v0, v1, v2 =>
    if (6 : Int32) ≤ v2 then (
      some v1
      ) else (
      chk (isO M 5 v0) <|
      bnd (mR M v0 4) fun o4 =>
      chk (isO M 100 o4) <|
      chk (inB v2 (mLn M o4)) <|
      bnd (v1 + (mI M o4 (v2).toNatClampNeg)) fun x8 =>
      bnd (v2 + (1 : Int32)) fun x10 =>
      f_X5_sentInAll_4 M n v0 x8 x10
      )
def f_X5_sentInAll (n : Nat) (o : Nat) (M : Mem) : Option Int32 :=
  f_X5_sentInAll_4 M n o (0 : Int32) (0 : Int32)
theorem cd_X5_sentInAll : (yX5_sentInAll.cls ≠ "java/lang/invoke/MethodHandle" ∧ yX5_sentInAll.cls ≠ "java/lang/invoke/VarHandle") ∧ (parseMethodDescriptor yX5_sentInAll.desc).map (fun d => d.parameters.length) = some 0 := ⟨⟨by decide +kernel, by decide +kernel⟩, by decide +kernel⟩
section
variable {p : Program} {l : Launch} {e : Env} {R : Room} {s : State} {m : MethodId} {args : Array Value} {below : List Frame} {meth : Method} {c : Code} {G : Gam} {M0 : Mem}
theorem l_X5_sentInAll_4 {M : Mem} {rv : Int32} (X : Cx p R s m args c G M0 cX5_sentInAll yX5_sentInAll.cls 3 0 0) (hr : meth.sig.returnType = (some .int)) (hlk : meth.locks = false) (hnm : meth.name = "sentInAll") : ∀ {n : Nat} (v0 : Nat) (v1 : Int32) (v2 : Int32), f_X5_sentInAll_4 M n v0 v1 v2 = some rv → Sg p l e R s m args below meth c (Qm below G args s (some (.int rv)) M0 M) G M0 3 4 [(0, .ref (gB G + v0)), (1, .int v1), (2, .int v2)] [] M := by
  intro n
  induction n with
  | zero => intro v0 v1 v2 hf; exact (pk_none hf).elim
  | succ n ih =>
    intro v0 v1 v2 hf
    rw [f_X5_sentInAll_4] at hf
    refine s_iload_n X 2 dX5_sentInAll_4 rfl rfl ?_
    refine s_bipush X (v := (6 : Int32)) dX5_sentInAll_5 rfl ?_
    have hs1 := pk_ite hf
    clear hf
    refine s_icmp_ge X (tgt := 25) dX5_sentInAll_7 rfl (fun c2 => ?_) (fun c2 => ?_)
    · have hf := hs1.1 c2
      refine s_iload_n X 1 dX5_sentInAll_25 rfl rfl ?_
      cases hf
      exact s_iret X hr hlk dX5_sentInAll_26
    · have hf := hs1.2 c2
      refine s_iload_n X 1 dX5_sentInAll_10 rfl rfl ?_
      refine s_aload_n X 0 dX5_sentInAll_11 rfl rfl ?_
      obtain ⟨h3, hf⟩ := pk_chk hf
      obtain ⟨o4, e5, hf⟩ := pk_bnd hf
      obtain ⟨h6, hf⟩ := pk_chk hf
      refine s_getR X (ci := 5) (k := 4) rfl (Nat.le_of_ble_eq_true rfl) h3 wd257 (fun _ _ _ => rfl) (e5 ▸ h6) dX5_sentInAll_12 (e5 ▸ ?_)
      refine s_iload_n X 2 dX5_sentInAll_15 rfl rfl ?_
      obtain ⟨h7, hf⟩ := pk_chk hf
      refine s_iald X h6 h7 dX5_sentInAll_16 ?_
      refine s_iadd X dX5_sentInAll_17 ?_
      obtain ⟨x8, e9, hf⟩ := pk_bnd hf
      refine s_nmI e9 ?_
      refine s_istore_n X (vs' := [(0, .ref (gB G + v0)), (1, .int x8), (2, .int v2)]) dX5_sentInAll_18 rfl (Nat.le_of_ble_eq_true rfl) [1, 0, 2] rfl ?_
      obtain ⟨x10, e11, hf⟩ := pk_bnd hf
      refine s_iinc X (vs' := [(0, .ref (gB G + v0)), (1, .int x8), (2, .int x10)]) 2 dX5_sentInAll_19 rfl (v := x10) e11.symm (Nat.le_of_ble_eq_true rfl) [1, 2, 0] rfl ?_
      refine s_goto X (tgt := 4) dX5_sentInAll_22 rfl ?_
      exact ih _ _ _ hf
end
theorem k_X5_sentInAll (G : Gam) {n : Nat} {o : Nat} {M : Mem} {rv : Int32} (hf : f_X5_sentInAll n o M = some rv) : Kt yX5_sentInAll cX5_sentInAll 3 (some .int) 0 0 G [.ref (gB G + o)] M M (some (.int rv)) := by
  refine Kt.of (by decide) (Nat.le_of_ble_eq_true rfl) ?_
  intro p l e R s m args below meth c X hr hlk hnm
  refine s_drop [0] (vs' := [(0, .ref (gB G + o))]) rfl ?_
  rw [f_X5_sentInAll] at hf
  refine s_iconst X (v := (0 : Int32)) dX5_sentInAll_0 rfl ?_
  refine s_istore_n X (vs' := [(0, .ref (gB G + o)), (1, .int (0 : Int32))]) dX5_sentInAll_1 rfl (Nat.le_of_ble_eq_true rfl) [1, 0] rfl ?_
  refine s_iconst X (v := (0 : Int32)) dX5_sentInAll_2 rfl ?_
  refine s_istore_n X (vs' := [(0, .ref (gB G + o)), (1, .int (0 : Int32)), (2, .int (0 : Int32))]) dX5_sentInAll_3 rfl (Nat.le_of_ble_eq_true rfl) [1, 2, 0] rfl ?_
  exact l_X5_sentInAll_4 X hr hlk hnm _ _ _ hf
theorem dX9_sent_0 : decode cX9_sent 0 = .ok (.iload_n 1, 1) := dk_27 (by decide +kernel)
theorem dX9_sent_1 : decode cX9_sent 1 = .ok (.ifCond .lt 9, 3) := dk_155 (x := 0) (y := 9) (by decide +kernel) rfl
theorem dX9_sent_4 : decode cX9_sent 4 = .ok (.iload_n 1, 1) := dk_27 (by decide +kernel)
theorem dX9_sent_5 : decode cX9_sent 5 = .ok (.bipush 6, 2) := dk_16 (x := 6) (by decide +kernel) rfl
theorem dX9_sent_7 : decode cX9_sent 7 = .ok (.if_icmp .le 5, 3) := dk_164 (x := 0) (y := 5) (by decide +kernel) rfl
theorem dX9_sent_10 : decode cX9_sent 10 = .ok (.iconst (-1), 1) := dk_2 (by decide +kernel)
theorem dX9_sent_11 : decode cX9_sent 11 = .ok (.ireturn, 1) := dk_172 (by decide +kernel)
theorem dX9_sent_12 : decode cX9_sent 12 = .ok (.iload_n 1, 1) := dk_27 (by decide +kernel)
theorem dX9_sent_13 : decode cX9_sent 13 = .ok (.bipush 6, 2) := dk_16 (x := 6) (by decide +kernel) rfl
theorem dX9_sent_15 : decode cX9_sent 15 = .ok (.if_icmp .ne 16, 3) := dk_160 (x := 0) (y := 16) (by decide +kernel) rfl
theorem dX9_sent_18 : decode cX9_sent 18 = .ok (.aload_n 0, 1) := dk_42 (by decide +kernel)
theorem dX9_sent_19 : decode cX9_sent 19 = .ok (.getfield 28, 3) := dk_180 (x := 0) (y := 28) (by decide +kernel) rfl
theorem dX9_sent_22 : decode cX9_sent 22 = .ok (.getfield 243, 3) := dk_180 (x := 0) (y := 243) (by decide +kernel) rfl
theorem dX9_sent_25 : decode cX9_sent 25 = .ok (.invokevirtual 283, 3) := dk_182 (x := 1) (y := 27) (by decide +kernel) rfl
theorem dX9_sent_28 : decode cX9_sent 28 = .ok (.goto 15, 3) := dk_167 (x := 0) (y := 15) (by decide +kernel) rfl
theorem dX9_sent_31 : decode cX9_sent 31 = .ok (.aload_n 0, 1) := dk_42 (by decide +kernel)
theorem dX9_sent_32 : decode cX9_sent 32 = .ok (.getfield 28, 3) := dk_180 (x := 0) (y := 28) (by decide +kernel) rfl
theorem dX9_sent_35 : decode cX9_sent 35 = .ok (.getfield 243, 3) := dk_180 (x := 0) (y := 243) (by decide +kernel) rfl
theorem dX9_sent_38 : decode cX9_sent 38 = .ok (.getfield 286, 3) := dk_180 (x := 1) (y := 30) (by decide +kernel) rfl
theorem dX9_sent_41 : decode cX9_sent 41 = .ok (.iload_n 1, 1) := dk_27 (by decide +kernel)
theorem dX9_sent_42 : decode cX9_sent 42 = .ok (.iaload, 1) := dk_46 (by decide +kernel)
theorem dX9_sent_43 : decode cX9_sent 43 = .ok (.ireturn, 1) := dk_172 (by decide +kernel)
def f_X9_sent (n : Nat) (o : Nat) (a1 : Int32) (M : Mem) : Option Int32 :=
  if a1 < 0 then (
    some (-1 : Int32)
    ) else (
    if a1 ≤ (6 : Int32) then (
      if a1 = (6 : Int32) then (
        chk (isO M 9 o) <|
        bnd (mR M o 2) fun o19 =>
        chk (isO M 2 o19) <|
        bnd (mR M o19 1) fun o22 =>
        chk (isO M 5 o22) <|
        obd (f_X5_sentInAll n o22 M) fun r26 =>
        some r26
        ) else (
        chk (isO M 9 o) <|
        bnd (mR M o 2) fun o8 =>
        chk (isO M 2 o8) <|
        bnd (mR M o8 1) fun o11 =>
        chk (isO M 5 o11) <|
        bnd (mR M o11 4) fun o14 =>
        chk (isO M 100 o14) <|
        chk (inB a1 (mLn M o14)) <|
        some (mI M o14 (a1).toNatClampNeg)
        )
      ) else (
      some (-1 : Int32)
      )
    )
theorem cd_X9_sent : (yX9_sent.cls ≠ "java/lang/invoke/MethodHandle" ∧ yX9_sent.cls ≠ "java/lang/invoke/VarHandle") ∧ (parseMethodDescriptor yX9_sent.desc).map (fun d => d.parameters.length) = some 1 := ⟨⟨by decide +kernel, by decide +kernel⟩, by decide +kernel⟩
theorem k_X9_sent (G : Gam) {n : Nat} {o : Nat} {a1 : Int32} {M : Mem} {rv : Int32} (hf : f_X9_sent n o a1 M = some rv) : Kt yX9_sent cX9_sent 2 (some .int) 1 22 G [.ref (gB G + o), .int a1] M M (some (.int rv)) := by
  refine Kt.of (by decide) (Nat.le_of_ble_eq_true rfl) ?_
  intro p l e R s m args below meth c X hr hlk hnm
  refine s_drop [0, 1] (vs' := [(0, .ref (gB G + o)), (1, .int a1)]) rfl ?_
  rw [f_X9_sent] at hf
  refine s_iload_n X 1 dX9_sent_0 rfl rfl ?_
  have hs1 := pk_ite hf
  clear hf
  refine s_if_lt X (tgt := 10) dX9_sent_1 rfl (fun c2 => ?_) (fun c2 => ?_)
  · have hf := hs1.1 c2
    refine s_iconst X (v := (-1 : Int32)) dX9_sent_10 rfl ?_
    cases hf
    exact s_iret X hr hlk dX9_sent_11
  · have hf := hs1.2 c2
    refine s_iload_n X 1 dX9_sent_4 rfl rfl ?_
    refine s_bipush X (v := (6 : Int32)) dX9_sent_5 rfl ?_
    have hs3 := pk_ite hf
    clear hf
    refine s_icmp_le X (tgt := 12) dX9_sent_7 rfl (fun c4 => ?_) (fun c4 => ?_)
    · have hf := hs3.1 c4
      refine s_iload_n X 1 dX9_sent_12 rfl rfl ?_
      refine s_bipush X (v := (6 : Int32)) dX9_sent_13 rfl ?_
      have hs5 := pk_ite hf
      clear hf
      refine s_icmp_ne X (tgt := 31) dX9_sent_15 rfl (fun c6 => ?_) (fun c6 => ?_)
      · have hf := hs5.2 c6
        refine s_aload_n X 0 dX9_sent_31 rfl rfl ?_
        obtain ⟨h7, hf⟩ := pk_chk hf
        obtain ⟨o8, e9, hf⟩ := pk_bnd hf
        obtain ⟨h10, hf⟩ := pk_chk hf
        refine s_getR X (ci := 9) (k := 2) rfl (Nat.le_of_ble_eq_true rfl) h7 wd629 (fun _ _ _ => rfl) (e9 ▸ h10) dX9_sent_32 (e9 ▸ ?_)
        obtain ⟨o11, e12, hf⟩ := pk_bnd hf
        obtain ⟨h13, hf⟩ := pk_chk hf
        refine s_getR X (ci := 2) (k := 1) rfl (Nat.le_of_ble_eq_true rfl) h10 wd422 (fun _ _ _ => rfl) (e12 ▸ h13) dX9_sent_35 (e12 ▸ ?_)
        obtain ⟨o14, e15, hf⟩ := pk_bnd hf
        obtain ⟨h16, hf⟩ := pk_chk hf
        refine s_getR X (ci := 5) (k := 4) rfl (Nat.le_of_ble_eq_true rfl) h13 wd258 (fun _ _ _ => rfl) (e15 ▸ h16) dX9_sent_38 (e15 ▸ ?_)
        refine s_iload_n X 1 dX9_sent_41 rfl rfl ?_
        obtain ⟨h17, hf⟩ := pk_chk hf
        refine s_iald X h16 h17 dX9_sent_42 ?_
        cases hf
        exact s_iret X hr hlk dX9_sent_43
      · have hf := hs5.1 c6
        refine s_aload_n X 0 dX9_sent_18 rfl rfl ?_
        obtain ⟨h18, hf⟩ := pk_chk hf
        obtain ⟨o19, e20, hf⟩ := pk_bnd hf
        obtain ⟨h21, hf⟩ := pk_chk hf
        refine s_getR X (ci := 9) (k := 2) rfl (Nat.le_of_ble_eq_true rfl) h18 wd629 (fun _ _ _ => rfl) (e20 ▸ h21) dX9_sent_19 (e20 ▸ ?_)
        obtain ⟨o22, e23, hf⟩ := pk_bnd hf
        obtain ⟨h24, hf⟩ := pk_chk hf
        refine s_getR X (ci := 2) (k := 1) rfl (Nat.le_of_ble_eq_true rfl) h21 wd422 (fun _ _ _ => rfl) (e23 ▸ h24) dX9_sent_22 (e23 ▸ ?_)
        obtain ⟨r26, hc25, hf⟩ := pk_obd hf
        refine s_callV X (ci := 5) (k_X5_sentInAll G hc25) rfl h24 wd1180 wd1181 wd1182 wd1183 wd131 cd_X5_sentInAll ⟨Nat.le_of_ble_eq_true rfl, Nat.le_of_ble_eq_true rfl⟩ (Nat.le_of_ble_eq_true rfl) dX9_sent_25 ?_
        refine s_goto X (tgt := 43) dX9_sent_28 rfl ?_
        cases hf
        exact s_iret X hr hlk dX9_sent_43
    · have hf := hs3.2 c4
      refine s_iconst X (v := (-1 : Int32)) dX9_sent_10 rfl ?_
      cases hf
      exact s_iret X hr hlk dX9_sent_11
theorem dX10_sentAll_0 : decode cX10_sentAll 0 = .ok (.iconst 0, 1) := dk_3 (by decide +kernel)
theorem dX10_sentAll_1 : decode cX10_sentAll 1 = .ok (.istore_n 1, 1) := dk_60 (by decide +kernel)
theorem dX10_sentAll_2 : decode cX10_sentAll 2 = .ok (.iconst 0, 1) := dk_3 (by decide +kernel)
theorem dX10_sentAll_3 : decode cX10_sentAll 3 = .ok (.istore_n 2, 1) := dk_61 (by decide +kernel)
theorem dX10_sentAll_4 : decode cX10_sentAll 4 = .ok (.iload_n 2, 1) := dk_28 (by decide +kernel)
theorem dX10_sentAll_5 : decode cX10_sentAll 5 = .ok (.bipush 6, 2) := dk_16 (x := 6) (by decide +kernel) rfl
theorem dX10_sentAll_7 : decode cX10_sentAll 7 = .ok (.if_icmp .ge 22, 3) := dk_162 (x := 0) (y := 22) (by decide +kernel) rfl
theorem dX10_sentAll_10 : decode cX10_sentAll 10 = .ok (.iload_n 1, 1) := dk_27 (by decide +kernel)
theorem dX10_sentAll_11 : decode cX10_sentAll 11 = .ok (.aload_n 0, 1) := dk_42 (by decide +kernel)
theorem dX10_sentAll_12 : decode cX10_sentAll 12 = .ok (.getfield 7, 3) := dk_180 (x := 0) (y := 7) (by decide +kernel) rfl
theorem dX10_sentAll_15 : decode cX10_sentAll 15 = .ok (.sipush 9859, 3) := dk_17 (x := 38) (y := 131) (by decide +kernel) rfl
theorem dX10_sentAll_18 : decode cX10_sentAll 18 = .ok (.iload_n 2, 1) := dk_28 (by decide +kernel)
theorem dX10_sentAll_19 : decode cX10_sentAll 19 = .ok (.iadd, 1) := dk_96 (by decide +kernel)
theorem dX10_sentAll_20 : decode cX10_sentAll 20 = .ok (.iaload, 1) := dk_46 (by decide +kernel)
theorem dX10_sentAll_21 : decode cX10_sentAll 21 = .ok (.iadd, 1) := dk_96 (by decide +kernel)
theorem dX10_sentAll_22 : decode cX10_sentAll 22 = .ok (.istore_n 1, 1) := dk_60 (by decide +kernel)
theorem dX10_sentAll_23 : decode cX10_sentAll 23 = .ok (.iinc 2 1, 3) := dk_132 (x := 2) (y := 1) (by decide +kernel) rfl
theorem dX10_sentAll_26 : decode cX10_sentAll 26 = .ok (.goto (-22), 3) := dk_167 (x := 255) (y := 234) (by decide +kernel) rfl
theorem dX10_sentAll_29 : decode cX10_sentAll 29 = .ok (.iload_n 1, 1) := dk_27 (by decide +kernel)
theorem dX10_sentAll_30 : decode cX10_sentAll 30 = .ok (.ireturn, 1) := dk_172 (by decide +kernel)
def f_X10_sentAll_4 (M : Mem) : Nat → Nat → Int32 → Int32 → Option Int32
  | 0, _, _, _ => none
  | n + 1, v0, v1, v2 =>
    if (6 : Int32) ≤ v2 then (
      some v1
      ) else (
      chk (isO M 10 v0) <|
      bnd (mR M v0 0) fun o4 =>
      chk (isO M 100 o4) <|
      chk (inB ((9859 : Int32) + v2) (mLn M o4)) <|
      bnd (v1 + (mI M o4 (((9859 : Int32) + v2)).toNatClampNeg)) fun x8 =>
      bnd (v2 + (1 : Int32)) fun x10 =>
      f_X10_sentAll_4 M n v0 x8 x10
      )
def f_X10_sentAll (n : Nat) (o : Nat) (M : Mem) : Option Int32 :=
  f_X10_sentAll_4 M n o (0 : Int32) (0 : Int32)
theorem cd_X10_sentAll : (yX10_sentAll.cls ≠ "java/lang/invoke/MethodHandle" ∧ yX10_sentAll.cls ≠ "java/lang/invoke/VarHandle") ∧ (parseMethodDescriptor yX10_sentAll.desc).map (fun d => d.parameters.length) = some 0 := ⟨⟨by decide +kernel, by decide +kernel⟩, by decide +kernel⟩
section
variable {p : Program} {l : Launch} {e : Env} {R : Room} {s : State} {m : MethodId} {args : Array Value} {below : List Frame} {meth : Method} {c : Code} {G : Gam} {M0 : Mem}
theorem l_X10_sentAll_4 {M : Mem} {rv : Int32} (X : Cx p R s m args c G M0 cX10_sentAll yX10_sentAll.cls 3 0 0) (hr : meth.sig.returnType = (some .int)) (hlk : meth.locks = false) (hnm : meth.name = "sentAll") : ∀ {n : Nat} (v0 : Nat) (v1 : Int32) (v2 : Int32), f_X10_sentAll_4 M n v0 v1 v2 = some rv → Sg p l e R s m args below meth c (Qm below G args s (some (.int rv)) M0 M) G M0 3 4 [(0, .ref (gB G + v0)), (1, .int v1), (2, .int v2)] [] M := by
  intro n
  induction n with
  | zero => intro v0 v1 v2 hf; exact (pk_none hf).elim
  | succ n ih =>
    intro v0 v1 v2 hf
    rw [f_X10_sentAll_4] at hf
    refine s_iload_n X 2 dX10_sentAll_4 rfl rfl ?_
    refine s_bipush X (v := (6 : Int32)) dX10_sentAll_5 rfl ?_
    have hs1 := pk_ite hf
    clear hf
    refine s_icmp_ge X (tgt := 29) dX10_sentAll_7 rfl (fun c2 => ?_) (fun c2 => ?_)
    · have hf := hs1.1 c2
      refine s_iload_n X 1 dX10_sentAll_29 rfl rfl ?_
      cases hf
      exact s_iret X hr hlk dX10_sentAll_30
    · have hf := hs1.2 c2
      refine s_iload_n X 1 dX10_sentAll_10 rfl rfl ?_
      refine s_aload_n X 0 dX10_sentAll_11 rfl rfl ?_
      obtain ⟨h3, hf⟩ := pk_chk hf
      obtain ⟨o4, e5, hf⟩ := pk_bnd hf
      obtain ⟨h6, hf⟩ := pk_chk hf
      refine s_getR X (ci := 10) (k := 0) rfl (Nat.le_of_ble_eq_true rfl) h3 wd1440 (fun _ _ _ => rfl) (e5 ▸ h6) dX10_sentAll_12 (e5 ▸ ?_)
      refine s_sipush X (v := (9859 : Int32)) dX10_sentAll_15 rfl ?_
      refine s_iload_n X 2 dX10_sentAll_18 rfl rfl ?_
      refine s_iadd X dX10_sentAll_19 ?_
      obtain ⟨h7, hf⟩ := pk_chk hf
      refine s_iald X h6 h7 dX10_sentAll_20 ?_
      refine s_iadd X dX10_sentAll_21 ?_
      obtain ⟨x8, e9, hf⟩ := pk_bnd hf
      refine s_nmI e9 ?_
      refine s_istore_n X (vs' := [(0, .ref (gB G + v0)), (1, .int x8), (2, .int v2)]) dX10_sentAll_22 rfl (Nat.le_of_ble_eq_true rfl) [1, 0, 2] rfl ?_
      obtain ⟨x10, e11, hf⟩ := pk_bnd hf
      refine s_iinc X (vs' := [(0, .ref (gB G + v0)), (1, .int x8), (2, .int x10)]) 2 dX10_sentAll_23 rfl (v := x10) e11.symm (Nat.le_of_ble_eq_true rfl) [1, 2, 0] rfl ?_
      refine s_goto X (tgt := 4) dX10_sentAll_26 rfl ?_
      exact ih _ _ _ hf
end
theorem k_X10_sentAll (G : Gam) {n : Nat} {o : Nat} {M : Mem} {rv : Int32} (hf : f_X10_sentAll n o M = some rv) : Kt yX10_sentAll cX10_sentAll 3 (some .int) 0 0 G [.ref (gB G + o)] M M (some (.int rv)) := by
  refine Kt.of (by decide) (Nat.le_of_ble_eq_true rfl) ?_
  intro p l e R s m args below meth c X hr hlk hnm
  refine s_drop [0] (vs' := [(0, .ref (gB G + o))]) rfl ?_
  rw [f_X10_sentAll] at hf
  refine s_iconst X (v := (0 : Int32)) dX10_sentAll_0 rfl ?_
  refine s_istore_n X (vs' := [(0, .ref (gB G + o)), (1, .int (0 : Int32))]) dX10_sentAll_1 rfl (Nat.le_of_ble_eq_true rfl) [1, 0] rfl ?_
  refine s_iconst X (v := (0 : Int32)) dX10_sentAll_2 rfl ?_
  refine s_istore_n X (vs' := [(0, .ref (gB G + o)), (1, .int (0 : Int32)), (2, .int (0 : Int32))]) dX10_sentAll_3 rfl (Nat.le_of_ble_eq_true rfl) [1, 2, 0] rfl ?_
  exact l_X10_sentAll_4 X hr hlk hnm _ _ _ hf
theorem dX10_sent_0 : decode cX10_sent 0 = .ok (.iload_n 1, 1) := dk_27 (by decide +kernel)
theorem dX10_sent_1 : decode cX10_sent 1 = .ok (.bipush 6, 2) := dk_16 (x := 6) (by decide +kernel) rfl
theorem dX10_sent_3 : decode cX10_sent 3 = .ok (.if_icmp .ne 10, 3) := dk_160 (x := 0) (y := 10) (by decide +kernel) rfl
theorem dX10_sent_6 : decode cX10_sent 6 = .ok (.aload_n 0, 1) := dk_42 (by decide +kernel)
theorem dX10_sent_7 : decode cX10_sent 7 = .ok (.invokevirtual 295, 3) := dk_182 (x := 1) (y := 39) (by decide +kernel) rfl
theorem dX10_sent_10 : decode cX10_sent 10 = .ok (.goto 26, 3) := dk_167 (x := 0) (y := 26) (by decide +kernel) rfl
theorem dX10_sent_13 : decode cX10_sent 13 = .ok (.iload_n 1, 1) := dk_27 (by decide +kernel)
theorem dX10_sent_14 : decode cX10_sent 14 = .ok (.iconst 0, 1) := dk_3 (by decide +kernel)
theorem dX10_sent_15 : decode cX10_sent 15 = .ok (.iconst 5, 1) := dk_8 (by decide +kernel)
theorem dX10_sent_16 : decode cX10_sent 16 = .ok (.invokestatic 49, 3) := dk_184 (x := 0) (y := 49) (by decide +kernel) rfl
theorem dX10_sent_19 : decode cX10_sent 19 = .ok (.ifCond .eq 16, 3) := dk_153 (x := 0) (y := 16) (by decide +kernel) rfl
theorem dX10_sent_22 : decode cX10_sent 22 = .ok (.aload_n 0, 1) := dk_42 (by decide +kernel)
theorem dX10_sent_23 : decode cX10_sent 23 = .ok (.getfield 7, 3) := dk_180 (x := 0) (y := 7) (by decide +kernel) rfl
theorem dX10_sent_26 : decode cX10_sent 26 = .ok (.sipush 9859, 3) := dk_17 (x := 38) (y := 131) (by decide +kernel) rfl
theorem dX10_sent_29 : decode cX10_sent 29 = .ok (.iload_n 1, 1) := dk_27 (by decide +kernel)
theorem dX10_sent_30 : decode cX10_sent 30 = .ok (.iadd, 1) := dk_96 (by decide +kernel)
theorem dX10_sent_31 : decode cX10_sent 31 = .ok (.iaload, 1) := dk_46 (by decide +kernel)
theorem dX10_sent_32 : decode cX10_sent 32 = .ok (.goto 4, 3) := dk_167 (x := 0) (y := 4) (by decide +kernel) rfl
theorem dX10_sent_35 : decode cX10_sent 35 = .ok (.iconst (-1), 1) := dk_2 (by decide +kernel)
theorem dX10_sent_36 : decode cX10_sent 36 = .ok (.ireturn, 1) := dk_172 (by decide +kernel)
def f_X10_sent (n : Nat) (o : Nat) (a1 : Int32) (M : Mem) : Option Int32 :=
  if a1 = (6 : Int32) then (
    chk (isO M 10 o) <|
    obd (f_X10_sentAll n o M) fun r14 =>
    some r14
    ) else (
    obd (f_X10_isIn a1 (0 : Int32) (5 : Int32) M) fun r4 =>
    if r4 = 0 then (
      some (-1 : Int32)
      ) else (
      chk (isO M 10 o) <|
      bnd (mR M o 0) fun o8 =>
      chk (isO M 100 o8) <|
      chk (inB ((9859 : Int32) + a1) (mLn M o8)) <|
      some (mI M o8 (((9859 : Int32) + a1)).toNatClampNeg)
      )
    )
theorem cd_X10_sent : (yX10_sent.cls ≠ "java/lang/invoke/MethodHandle" ∧ yX10_sent.cls ≠ "java/lang/invoke/VarHandle") ∧ (parseMethodDescriptor yX10_sent.desc).map (fun d => d.parameters.length) = some 1 := ⟨⟨by decide +kernel, by decide +kernel⟩, by decide +kernel⟩
theorem k_X10_sent (G : Gam) {n : Nat} {o : Nat} {a1 : Int32} {M : Mem} {rv : Int32} (hf : f_X10_sent n o a1 M = some rv) : Kt yX10_sent cX10_sent 2 (some .int) 1 22 G [.ref (gB G + o), .int a1] M M (some (.int rv)) := by
  refine Kt.of (by decide) (Nat.le_of_ble_eq_true rfl) ?_
  intro p l e R s m args below meth c X hr hlk hnm
  refine s_drop [0, 1] (vs' := [(0, .ref (gB G + o)), (1, .int a1)]) rfl ?_
  rw [f_X10_sent] at hf
  refine s_iload_n X 1 dX10_sent_0 rfl rfl ?_
  refine s_bipush X (v := (6 : Int32)) dX10_sent_1 rfl ?_
  have hs1 := pk_ite hf
  clear hf
  refine s_icmp_ne X (tgt := 13) dX10_sent_3 rfl (fun c2 => ?_) (fun c2 => ?_)
  · have hf := hs1.2 c2
    refine s_iload_n X 1 dX10_sent_13 rfl rfl ?_
    refine s_iconst X (v := (0 : Int32)) dX10_sent_14 rfl ?_
    refine s_iconst X (v := (5 : Int32)) dX10_sent_15 rfl ?_
    obtain ⟨r4, hc3, hf⟩ := pk_obd hf
    refine s_callS X (k_X10_isIn G hc3) wd1520 wd1521 wd1522 wd138 cd_X10_isIn ⟨Nat.le_of_ble_eq_true rfl, Nat.le_of_ble_eq_true rfl⟩ (Nat.le_of_ble_eq_true rfl) dX10_sent_16 ?_
    have hs5 := pk_ite hf
    clear hf
    refine s_if_eq X (tgt := 35) dX10_sent_19 rfl (fun c6 => ?_) (fun c6 => ?_)
    · have hf := hs5.1 c6
      refine s_iconst X (v := (-1 : Int32)) dX10_sent_35 rfl ?_
      cases hf
      exact s_iret X hr hlk dX10_sent_36
    · have hf := hs5.2 c6
      refine s_aload_n X 0 dX10_sent_22 rfl rfl ?_
      obtain ⟨h7, hf⟩ := pk_chk hf
      obtain ⟨o8, e9, hf⟩ := pk_bnd hf
      obtain ⟨h10, hf⟩ := pk_chk hf
      refine s_getR X (ci := 10) (k := 0) rfl (Nat.le_of_ble_eq_true rfl) h7 wd1440 (fun _ _ _ => rfl) (e9 ▸ h10) dX10_sent_23 (e9 ▸ ?_)
      refine s_sipush X (v := (9859 : Int32)) dX10_sent_26 rfl ?_
      refine s_iload_n X 1 dX10_sent_29 rfl rfl ?_
      refine s_iadd X dX10_sent_30 ?_
      obtain ⟨h11, hf⟩ := pk_chk hf
      refine s_iald X h10 h11 dX10_sent_31 ?_
      refine s_goto X (tgt := 36) dX10_sent_32 rfl ?_
      cases hf
      exact s_iret X hr hlk dX10_sent_36
  · have hf := hs1.1 c2
    refine s_aload_n X 0 dX10_sent_6 rfl rfl ?_
    obtain ⟨h12, hf⟩ := pk_chk hf
    obtain ⟨r14, hc13, hf⟩ := pk_obd hf
    refine s_callV X (ci := 10) (k_X10_sentAll G hc13) rfl h12 wd1922 wd1924 wd106 wd1925 wd138 cd_X10_sentAll ⟨Nat.le_of_ble_eq_true rfl, Nat.le_of_ble_eq_true rfl⟩ (Nat.le_of_ble_eq_true rfl) dX10_sent_7 ?_
    refine s_goto X (tgt := 36) dX10_sent_10 rfl ?_
    cases hf
    exact s_iret X hr hlk dX10_sent_36
theorem dX3_tell_0 : decode cX3_tell 0 = .ok (.iload_n 1, 1) := dk_27 (by decide +kernel)
theorem dX3_tell_1 : decode cX3_tell 1 = .ok (.iconst (-1), 1) := dk_2 (by decide +kernel)
theorem dX3_tell_2 : decode cX3_tell 2 = .ok (.if_icmp .ne 8, 3) := dk_160 (x := 0) (y := 8) (by decide +kernel) rfl
theorem dX3_tell_5 : decode cX3_tell 5 = .ok (.aload_n 0, 1) := dk_42 (by decide +kernel)
theorem dX3_tell_6 : decode cX3_tell 6 = .ok (.getfield 19, 3) := dk_180 (x := 0) (y := 19) (by decide +kernel) rfl
theorem dX3_tell_9 : decode cX3_tell 9 = .ok (.ireturn, 1) := dk_172 (by decide +kernel)
theorem dX3_tell_10 : decode cX3_tell 10 = .ok (.iload_n 1, 1) := dk_27 (by decide +kernel)
theorem dX3_tell_11 : decode cX3_tell 11 = .ok (.ifCond .lt 20, 3) := dk_155 (x := 0) (y := 20) (by decide +kernel) rfl
theorem dX3_tell_14 : decode cX3_tell 14 = .ok (.iload_n 1, 1) := dk_27 (by decide +kernel)
theorem dX3_tell_15 : decode cX3_tell 15 = .ok (.aload_n 0, 1) := dk_42 (by decide +kernel)
theorem dX3_tell_16 : decode cX3_tell 16 = .ok (.getfield 19, 3) := dk_180 (x := 0) (y := 19) (by decide +kernel) rfl
theorem dX3_tell_19 : decode cX3_tell 19 = .ok (.if_icmp .ge 12, 3) := dk_162 (x := 0) (y := 12) (by decide +kernel) rfl
theorem dX3_tell_22 : decode cX3_tell 22 = .ok (.iload_n 2, 1) := dk_28 (by decide +kernel)
theorem dX3_tell_23 : decode cX3_tell 23 = .ok (.ifCond .lt 8, 3) := dk_155 (x := 0) (y := 8) (by decide +kernel) rfl
theorem dX3_tell_26 : decode cX3_tell 26 = .ok (.iload_n 2, 1) := dk_28 (by decide +kernel)
theorem dX3_tell_27 : decode cX3_tell 27 = .ok (.iconst 4, 1) := dk_7 (by decide +kernel)
theorem dX3_tell_28 : decode cX3_tell 28 = .ok (.if_icmp .lt 6, 3) := dk_161 (x := 0) (y := 6) (by decide +kernel) rfl
theorem dX3_tell_31 : decode cX3_tell 31 = .ok (.bipush (-2), 2) := dk_16 (x := 254) (by decide +kernel) rfl
theorem dX3_tell_33 : decode cX3_tell 33 = .ok (.ireturn, 1) := dk_172 (by decide +kernel)
theorem dX3_tell_34 : decode cX3_tell 34 = .ok (.aload_n 0, 1) := dk_42 (by decide +kernel)
theorem dX3_tell_35 : decode cX3_tell 35 = .ok (.getfield 22, 3) := dk_180 (x := 0) (y := 22) (by decide +kernel) rfl
theorem dX3_tell_38 : decode cX3_tell 38 = .ok (.iconst 1, 1) := dk_4 (by decide +kernel)
theorem dX3_tell_39 : decode cX3_tell 39 = .ok (.isub, 1) := dk_100 (by decide +kernel)
theorem dX3_tell_40 : decode cX3_tell 40 = .ok (.iload_n 1, 1) := dk_27 (by decide +kernel)
theorem dX3_tell_41 : decode cX3_tell 41 = .ok (.isub, 1) := dk_100 (by decide +kernel)
theorem dX3_tell_42 : decode cX3_tell 42 = .ok (.istore_n 3, 1) := dk_62 (by decide +kernel)
theorem dX3_tell_43 : decode cX3_tell 43 = .ok (.aload_n 0, 1) := dk_42 (by decide +kernel)
theorem dX3_tell_44 : decode cX3_tell 44 = .ok (.getfield 15, 3) := dk_180 (x := 0) (y := 15) (by decide +kernel) rfl
theorem dX3_tell_47 : decode cX3_tell 47 = .ok (.iload_n 3, 1) := dk_29 (by decide +kernel)
theorem dX3_tell_48 : decode cX3_tell 48 = .ok (.ifCond .ge 12, 3) := dk_156 (x := 0) (y := 12) (by decide +kernel) rfl
theorem dX3_tell_51 : decode cX3_tell 51 = .ok (.iload_n 3, 1) := dk_29 (by decide +kernel)
theorem dX3_tell_52 : decode cX3_tell 52 = .ok (.aload_n 0, 1) := dk_42 (by decide +kernel)
theorem dX3_tell_53 : decode cX3_tell 53 = .ok (.getfield 9, 3) := dk_180 (x := 0) (y := 9) (by decide +kernel) rfl
theorem dX3_tell_56 : decode cX3_tell 56 = .ok (.iadd, 1) := dk_96 (by decide +kernel)
theorem dX3_tell_57 : decode cX3_tell 57 = .ok (.goto 4, 3) := dk_167 (x := 0) (y := 4) (by decide +kernel) rfl
theorem dX3_tell_60 : decode cX3_tell 60 = .ok (.iload_n 3, 1) := dk_29 (by decide +kernel)
theorem dX3_tell_61 : decode cX3_tell 61 = .ok (.iconst 4, 1) := dk_7 (by decide +kernel)
theorem dX3_tell_62 : decode cX3_tell 62 = .ok (.imul, 1) := dk_104 (by decide +kernel)
theorem dX3_tell_63 : decode cX3_tell 63 = .ok (.iload_n 2, 1) := dk_28 (by decide +kernel)
theorem dX3_tell_64 : decode cX3_tell 64 = .ok (.iadd, 1) := dk_96 (by decide +kernel)
theorem dX3_tell_65 : decode cX3_tell 65 = .ok (.iaload, 1) := dk_46 (by decide +kernel)
theorem dX3_tell_66 : decode cX3_tell 66 = .ok (.ireturn, 1) := dk_172 (by decide +kernel)
def f_X3_tell (o : Nat) (a1 : Int32) (a2 : Int32) (M : Mem) : Option Int32 :=
  if a1 = (-1 : Int32) then (
    chk (isO M 3 o) <|
    some (mI M o 2)
    ) else (
    if a1 < 0 then (
      some (-2 : Int32)
      ) else (
      chk (isO M 3 o) <|
      if (mI M o 2) ≤ a1 then (
        some (-2 : Int32)
        ) else (
        if a2 < 0 then (
          some (-2 : Int32)
          ) else (
          if a2 < (4 : Int32) then (
            bnd (((mI M o 3) - (1 : Int32)) - a1) fun x12 =>
            bnd (mR M o 1) fun o14 =>
            chk (isO M 100 o14) <|
            if 0 ≤ x12 then (
              chk (inB ((x12 * (4 : Int32)) + a2) (mLn M o14)) <|
              some (mI M o14 (((x12 * (4 : Int32)) + a2)).toNatClampNeg)
              ) else (
              chk (inB (((x12 + (mI M o 0)) * (4 : Int32)) + a2) (mLn M o14)) <|
              some (mI M o14 ((((x12 + (mI M o 0)) * (4 : Int32)) + a2)).toNatClampNeg)
              )
            ) else (
            some (-2 : Int32)
            )
          )
        )
      )
    )
theorem cd_X3_tell : (yX3_tell.cls ≠ "java/lang/invoke/MethodHandle" ∧ yX3_tell.cls ≠ "java/lang/invoke/VarHandle") ∧ (parseMethodDescriptor yX3_tell.desc).map (fun d => d.parameters.length) = some 2 := ⟨⟨by decide +kernel, by decide +kernel⟩, by decide +kernel⟩
theorem k_X3_tell (G : Gam) {o : Nat} {a1 : Int32} {a2 : Int32} {M : Mem} {rv : Int32} (hf : f_X3_tell o a1 a2 M = some rv) : Kt yX3_tell cX3_tell 4 (some .int) 0 0 G [.ref (gB G + o), .int a1, .int a2] M M (some (.int rv)) := by
  refine Kt.of (by decide) (Nat.le_of_ble_eq_true rfl) ?_
  intro p l e R s m args below meth c X hr hlk hnm
  refine s_drop [0, 1, 2] (vs' := [(0, .ref (gB G + o)), (1, .int a1), (2, .int a2)]) rfl ?_
  rw [f_X3_tell] at hf
  refine s_iload_n X 1 dX3_tell_0 rfl rfl ?_
  refine s_iconst X (v := (-1 : Int32)) dX3_tell_1 rfl ?_
  have hs1 := pk_ite hf
  clear hf
  refine s_icmp_ne X (tgt := 10) dX3_tell_2 rfl (fun c2 => ?_) (fun c2 => ?_)
  · have hf := hs1.2 c2
    refine s_iload_n X 1 dX3_tell_10 rfl rfl ?_
    have hs3 := pk_ite hf
    clear hf
    refine s_if_lt X (tgt := 31) dX3_tell_11 rfl (fun c4 => ?_) (fun c4 => ?_)
    · have hf := hs3.1 c4
      refine s_bipush X (v := (-2 : Int32)) dX3_tell_31 rfl ?_
      cases hf
      exact s_iret X hr hlk dX3_tell_33
    · have hf := hs3.2 c4
      refine s_iload_n X 1 dX3_tell_14 rfl rfl ?_
      refine s_aload_n X 0 dX3_tell_15 rfl rfl ?_
      obtain ⟨h5, hf⟩ := pk_chk hf
      refine s_getI X (ci := 3) (k := 2) rfl (Nat.le_of_ble_eq_true rfl) h5 wd309 (fun _ _ _ => rfl) dX3_tell_16 ?_
      have hs6 := pk_ite hf
      clear hf
      refine s_icmp_ge X (tgt := 31) dX3_tell_19 rfl (fun c7 => ?_) (fun c7 => ?_)
      · have hf := hs6.1 c7
        refine s_bipush X (v := (-2 : Int32)) dX3_tell_31 rfl ?_
        cases hf
        exact s_iret X hr hlk dX3_tell_33
      · have hf := hs6.2 c7
        refine s_iload_n X 2 dX3_tell_22 rfl rfl ?_
        have hs8 := pk_ite hf
        clear hf
        refine s_if_lt X (tgt := 31) dX3_tell_23 rfl (fun c9 => ?_) (fun c9 => ?_)
        · have hf := hs8.1 c9
          refine s_bipush X (v := (-2 : Int32)) dX3_tell_31 rfl ?_
          cases hf
          exact s_iret X hr hlk dX3_tell_33
        · have hf := hs8.2 c9
          refine s_iload_n X 2 dX3_tell_26 rfl rfl ?_
          refine s_iconst X (v := (4 : Int32)) dX3_tell_27 rfl ?_
          have hs10 := pk_ite hf
          clear hf
          refine s_icmp_lt X (tgt := 34) dX3_tell_28 rfl (fun c11 => ?_) (fun c11 => ?_)
          · have hf := hs10.1 c11
            refine s_aload_n X 0 dX3_tell_34 rfl rfl ?_
            refine s_getI X (ci := 3) (k := 3) rfl (Nat.le_of_ble_eq_true rfl) h5 wd310 (fun _ _ _ => rfl) dX3_tell_35 ?_
            refine s_iconst X (v := (1 : Int32)) dX3_tell_38 rfl ?_
            refine s_isub X dX3_tell_39 ?_
            refine s_iload_n X 1 dX3_tell_40 rfl rfl ?_
            refine s_isub X dX3_tell_41 ?_
            obtain ⟨x12, e13, hf⟩ := pk_bnd hf
            refine s_nmI e13 ?_
            refine s_istore_n X (vs' := [(0, .ref (gB G + o)), (1, .int a1), (2, .int a2), (3, .int x12)]) dX3_tell_42 rfl (Nat.le_of_ble_eq_true rfl) [1, 2, 3, 0] rfl ?_
            refine s_aload_n X 0 dX3_tell_43 rfl rfl ?_
            obtain ⟨o14, e15, hf⟩ := pk_bnd hf
            obtain ⟨h16, hf⟩ := pk_chk hf
            refine s_getR X (ci := 3) (k := 1) rfl (Nat.le_of_ble_eq_true rfl) h5 wd308 (fun _ _ _ => rfl) (e15 ▸ h16) dX3_tell_44 (e15 ▸ ?_)
            refine s_iload_n X 3 dX3_tell_47 rfl rfl ?_
            have hs17 := pk_ite hf
            clear hf
            refine s_if_ge X (tgt := 60) dX3_tell_48 rfl (fun c18 => ?_) (fun c18 => ?_)
            · have hf := hs17.1 c18
              refine s_iload_n X 3 dX3_tell_60 rfl rfl ?_
              refine s_iconst X (v := (4 : Int32)) dX3_tell_61 rfl ?_
              refine s_imul X dX3_tell_62 ?_
              refine s_iload_n X 2 dX3_tell_63 rfl rfl ?_
              refine s_iadd X dX3_tell_64 ?_
              obtain ⟨h19, hf⟩ := pk_chk hf
              refine s_iald X h16 h19 dX3_tell_65 ?_
              cases hf
              exact s_iret X hr hlk dX3_tell_66
            · have hf := hs17.2 c18
              refine s_iload_n X 3 dX3_tell_51 rfl rfl ?_
              refine s_aload_n X 0 dX3_tell_52 rfl rfl ?_
              refine s_getI X (ci := 3) (k := 0) rfl (Nat.le_of_ble_eq_true rfl) h5 wd307 (fun _ _ _ => rfl) dX3_tell_53 ?_
              refine s_iadd X dX3_tell_56 ?_
              refine s_goto X (tgt := 61) dX3_tell_57 rfl ?_
              refine s_iconst X (v := (4 : Int32)) dX3_tell_61 rfl ?_
              refine s_imul X dX3_tell_62 ?_
              refine s_iload_n X 2 dX3_tell_63 rfl rfl ?_
              refine s_iadd X dX3_tell_64 ?_
              obtain ⟨h20, hf⟩ := pk_chk hf
              refine s_iald X h16 h20 dX3_tell_65 ?_
              cases hf
              exact s_iret X hr hlk dX3_tell_66
          · have hf := hs10.2 c11
            refine s_bipush X (v := (-2 : Int32)) dX3_tell_31 rfl ?_
            cases hf
            exact s_iret X hr hlk dX3_tell_33
  · have hf := hs1.1 c2
    refine s_aload_n X 0 dX3_tell_5 rfl rfl ?_
    obtain ⟨h21, hf⟩ := pk_chk hf
    refine s_getI X (ci := 3) (k := 2) rfl (Nat.le_of_ble_eq_true rfl) h21 wd309 (fun _ _ _ => rfl) dX3_tell_6 ?_
    cases hf
    exact s_iret X hr hlk dX3_tell_9
theorem dX9_book_0 : decode cX9_book 0 = .ok (.aload_n 0, 1) := dk_42 (by decide +kernel)
theorem dX9_book_1 : decode cX9_book 1 = .ok (.getfield 28, 3) := dk_180 (x := 0) (y := 28) (by decide +kernel) rfl
theorem dX9_book_4 : decode cX9_book 4 = .ok (.getfield 289, 3) := dk_180 (x := 1) (y := 33) (by decide +kernel) rfl
theorem dX9_book_7 : decode cX9_book 7 = .ok (.iload_n 1, 1) := dk_27 (by decide +kernel)
theorem dX9_book_8 : decode cX9_book 8 = .ok (.iload_n 2, 1) := dk_28 (by decide +kernel)
theorem dX9_book_9 : decode cX9_book 9 = .ok (.invokevirtual 293, 3) := dk_182 (x := 1) (y := 37) (by decide +kernel) rfl
theorem dX9_book_12 : decode cX9_book 12 = .ok (.ireturn, 1) := dk_172 (by decide +kernel)
def f_X9_book (o : Nat) (a1 : Int32) (a2 : Int32) (M : Mem) : Option Int32 :=
  chk (isO M 9 o) <|
  bnd (mR M o 2) fun o2 =>
  chk (isO M 2 o2) <|
  bnd (mR M o2 3) fun o5 =>
  chk (isO M 3 o5) <|
  obd (f_X3_tell o5 a1 a2 M) fun r9 =>
  some r9
theorem cd_X9_book : (yX9_book.cls ≠ "java/lang/invoke/MethodHandle" ∧ yX9_book.cls ≠ "java/lang/invoke/VarHandle") ∧ (parseMethodDescriptor yX9_book.desc).map (fun d => d.parameters.length) = some 2 := ⟨⟨by decide +kernel, by decide +kernel⟩, by decide +kernel⟩
theorem k_X9_book (G : Gam) {o : Nat} {a1 : Int32} {a2 : Int32} {M : Mem} {rv : Int32} (hf : f_X9_book o a1 a2 M = some rv) : Kt yX9_book cX9_book 3 (some .int) 1 23 G [.ref (gB G + o), .int a1, .int a2] M M (some (.int rv)) := by
  refine Kt.of (by decide) (Nat.le_of_ble_eq_true rfl) ?_
  intro p l e R s m args below meth c X hr hlk hnm
  refine s_drop [0, 1, 2] (vs' := [(0, .ref (gB G + o)), (1, .int a1), (2, .int a2)]) rfl ?_
  rw [f_X9_book] at hf
  refine s_aload_n X 0 dX9_book_0 rfl rfl ?_
  obtain ⟨h1, hf⟩ := pk_chk hf
  obtain ⟨o2, e3, hf⟩ := pk_bnd hf
  obtain ⟨h4, hf⟩ := pk_chk hf
  refine s_getR X (ci := 9) (k := 2) rfl (Nat.le_of_ble_eq_true rfl) h1 wd629 (fun _ _ _ => rfl) (e3 ▸ h4) dX9_book_1 (e3 ▸ ?_)
  obtain ⟨o5, e6, hf⟩ := pk_bnd hf
  obtain ⟨h7, hf⟩ := pk_chk hf
  refine s_getR X (ci := 2) (k := 3) rfl (Nat.le_of_ble_eq_true rfl) h4 wd428 (fun _ _ _ => rfl) (e6 ▸ h7) dX9_book_4 (e6 ▸ ?_)
  refine s_iload_n X 1 dX9_book_7 rfl rfl ?_
  refine s_iload_n X 2 dX9_book_8 rfl rfl ?_
  obtain ⟨r9, hc8, hf⟩ := pk_obd hf
  refine s_callV X (ci := 3) (k_X3_tell G hc8) rfl h7 wd1188 wd1189 wd1190 wd1191 wd132 cd_X3_tell ⟨Nat.le_of_ble_eq_true rfl, Nat.le_of_ble_eq_true rfl⟩ (Nat.le_of_ble_eq_true rfl) dX9_book_9 ?_
  cases hf
  exact s_iret X hr hlk dX9_book_12
theorem dX10_book_0 : decode cX10_book 0 = .ok (.iload_n 1, 1) := dk_27 (by decide +kernel)
theorem dX10_book_1 : decode cX10_book 1 = .ok (.iconst (-1), 1) := dk_2 (by decide +kernel)
theorem dX10_book_2 : decode cX10_book 2 = .ok (.if_icmp .ne 12, 3) := dk_160 (x := 0) (y := 12) (by decide +kernel) rfl
theorem dX10_book_5 : decode cX10_book 5 = .ok (.aload_n 0, 1) := dk_42 (by decide +kernel)
theorem dX10_book_6 : decode cX10_book 6 = .ok (.getfield 7, 3) := dk_180 (x := 0) (y := 7) (by decide +kernel) rfl
theorem dX10_book_9 : decode cX10_book 9 = .ok (.sipush 9857, 3) := dk_17 (x := 38) (y := 129) (by decide +kernel) rfl
theorem dX10_book_12 : decode cX10_book 12 = .ok (.iaload, 1) := dk_46 (by decide +kernel)
theorem dX10_book_13 : decode cX10_book 13 = .ok (.ireturn, 1) := dk_172 (by decide +kernel)
theorem dX10_book_14 : decode cX10_book 14 = .ok (.iload_n 1, 1) := dk_27 (by decide +kernel)
theorem dX10_book_15 : decode cX10_book 15 = .ok (.iconst 0, 1) := dk_3 (by decide +kernel)
theorem dX10_book_16 : decode cX10_book 16 = .ok (.aload_n 0, 1) := dk_42 (by decide +kernel)
theorem dX10_book_17 : decode cX10_book 17 = .ok (.getfield 7, 3) := dk_180 (x := 0) (y := 7) (by decide +kernel) rfl
theorem dX10_book_20 : decode cX10_book 20 = .ok (.sipush 9857, 3) := dk_17 (x := 38) (y := 129) (by decide +kernel) rfl
theorem dX10_book_23 : decode cX10_book 23 = .ok (.iaload, 1) := dk_46 (by decide +kernel)
theorem dX10_book_24 : decode cX10_book 24 = .ok (.iconst 1, 1) := dk_4 (by decide +kernel)
theorem dX10_book_25 : decode cX10_book 25 = .ok (.isub, 1) := dk_100 (by decide +kernel)
theorem dX10_book_26 : decode cX10_book 26 = .ok (.invokestatic 49, 3) := dk_184 (x := 0) (y := 49) (by decide +kernel) rfl
theorem dX10_book_29 : decode cX10_book 29 = .ok (.ifCond .eq 40, 3) := dk_153 (x := 0) (y := 40) (by decide +kernel) rfl
theorem dX10_book_32 : decode cX10_book 32 = .ok (.iload_n 2, 1) := dk_28 (by decide +kernel)
theorem dX10_book_33 : decode cX10_book 33 = .ok (.iconst 0, 1) := dk_3 (by decide +kernel)
theorem dX10_book_34 : decode cX10_book 34 = .ok (.iconst 3, 1) := dk_6 (by decide +kernel)
theorem dX10_book_35 : decode cX10_book 35 = .ok (.invokestatic 49, 3) := dk_184 (x := 0) (y := 49) (by decide +kernel) rfl
theorem dX10_book_38 : decode cX10_book 38 = .ok (.ifCond .eq 31, 3) := dk_153 (x := 0) (y := 31) (by decide +kernel) rfl
theorem dX10_book_41 : decode cX10_book 41 = .ok (.aload_n 0, 1) := dk_42 (by decide +kernel)
theorem dX10_book_42 : decode cX10_book 42 = .ok (.getfield 7, 3) := dk_180 (x := 0) (y := 7) (by decide +kernel) rfl
theorem dX10_book_45 : decode cX10_book 45 = .ok (.sipush 9913, 3) := dk_17 (x := 38) (y := 185) (by decide +kernel) rfl
theorem dX10_book_48 : decode cX10_book 48 = .ok (.iconst 4, 1) := dk_7 (by decide +kernel)
theorem dX10_book_49 : decode cX10_book 49 = .ok (.aload_n 0, 1) := dk_42 (by decide +kernel)
theorem dX10_book_50 : decode cX10_book 50 = .ok (.getfield 7, 3) := dk_180 (x := 0) (y := 7) (by decide +kernel) rfl
theorem dX10_book_53 : decode cX10_book 53 = .ok (.sipush 9857, 3) := dk_17 (x := 38) (y := 129) (by decide +kernel) rfl
theorem dX10_book_56 : decode cX10_book 56 = .ok (.iaload, 1) := dk_46 (by decide +kernel)
theorem dX10_book_57 : decode cX10_book 57 = .ok (.iconst 1, 1) := dk_4 (by decide +kernel)
theorem dX10_book_58 : decode cX10_book 58 = .ok (.isub, 1) := dk_100 (by decide +kernel)
theorem dX10_book_59 : decode cX10_book 59 = .ok (.iload_n 1, 1) := dk_27 (by decide +kernel)
theorem dX10_book_60 : decode cX10_book 60 = .ok (.isub, 1) := dk_100 (by decide +kernel)
theorem dX10_book_61 : decode cX10_book 61 = .ok (.imul, 1) := dk_104 (by decide +kernel)
theorem dX10_book_62 : decode cX10_book 62 = .ok (.iadd, 1) := dk_96 (by decide +kernel)
theorem dX10_book_63 : decode cX10_book 63 = .ok (.iload_n 2, 1) := dk_28 (by decide +kernel)
theorem dX10_book_64 : decode cX10_book 64 = .ok (.iadd, 1) := dk_96 (by decide +kernel)
theorem dX10_book_65 : decode cX10_book 65 = .ok (.iaload, 1) := dk_46 (by decide +kernel)
theorem dX10_book_66 : decode cX10_book 66 = .ok (.goto 5, 3) := dk_167 (x := 0) (y := 5) (by decide +kernel) rfl
theorem dX10_book_69 : decode cX10_book 69 = .ok (.bipush (-2), 2) := dk_16 (x := 254) (by decide +kernel) rfl
theorem dX10_book_71 : decode cX10_book 71 = .ok (.ireturn, 1) := dk_172 (by decide +kernel)
def f_X10_book (o : Nat) (a1 : Int32) (a2 : Int32) (M : Mem) : Option Int32 :=
  if a1 = (-1 : Int32) then (
    chk (isO M 10 o) <|
    bnd (mR M o 0) fun o25 =>
    chk (isO M 100 o25) <|
    chk (inB (9857 : Int32) (mLn M o25)) <|
    some (mI M o25 ((9857 : Int32)).toNatClampNeg)
    ) else (
    chk (isO M 10 o) <|
    bnd (mR M o 0) fun o4 =>
    chk (isO M 100 o4) <|
    chk (inB (9857 : Int32) (mLn M o4)) <|
    obd (f_X10_isIn a1 (0 : Int32) ((mI M o4 ((9857 : Int32)).toNatClampNeg) - (1 : Int32)) M) fun r9 =>
    if r9 = 0 then (
      some (-2 : Int32)
      ) else (
      obd (f_X10_isIn a2 (0 : Int32) (3 : Int32) M) fun r13 =>
      if r13 = 0 then (
        some (-2 : Int32)
        ) else (
        bnd (mR M o 0) fun o16 =>
        chk (isO M 100 o16) <|
        bnd (mR M o 0) fun o19 =>
        chk (isO M 100 o19) <|
        chk (inB (9857 : Int32) (mLn M o19)) <|
        chk (inB (((9913 : Int32) + ((4 : Int32) * (((mI M o19 ((9857 : Int32)).toNatClampNeg) - (1 : Int32)) - a1))) + a2) (mLn M o16)) <|
        some (mI M o16 ((((9913 : Int32) + ((4 : Int32) * (((mI M o19 ((9857 : Int32)).toNatClampNeg) - (1 : Int32)) - a1))) + a2)).toNatClampNeg)
        )
      )
    )
theorem cd_X10_book : (yX10_book.cls ≠ "java/lang/invoke/MethodHandle" ∧ yX10_book.cls ≠ "java/lang/invoke/VarHandle") ∧ (parseMethodDescriptor yX10_book.desc).map (fun d => d.parameters.length) = some 2 := ⟨⟨by decide +kernel, by decide +kernel⟩, by decide +kernel⟩
theorem k_X10_book (G : Gam) {o : Nat} {a1 : Int32} {a2 : Int32} {M : Mem} {rv : Int32} (hf : f_X10_book o a1 a2 M = some rv) : Kt yX10_book cX10_book 3 (some .int) 1 22 G [.ref (gB G + o), .int a1, .int a2] M M (some (.int rv)) := by
  refine Kt.of (by decide) (Nat.le_of_ble_eq_true rfl) ?_
  intro p l e R s m args below meth c X hr hlk hnm
  refine s_drop [0, 1, 2] (vs' := [(0, .ref (gB G + o)), (1, .int a1), (2, .int a2)]) rfl ?_
  rw [f_X10_book] at hf
  refine s_iload_n X 1 dX10_book_0 rfl rfl ?_
  refine s_iconst X (v := (-1 : Int32)) dX10_book_1 rfl ?_
  have hs1 := pk_ite hf
  clear hf
  refine s_icmp_ne X (tgt := 14) dX10_book_2 rfl (fun c2 => ?_) (fun c2 => ?_)
  · have hf := hs1.2 c2
    refine s_iload_n X 1 dX10_book_14 rfl rfl ?_
    refine s_iconst X (v := (0 : Int32)) dX10_book_15 rfl ?_
    refine s_aload_n X 0 dX10_book_16 rfl rfl ?_
    obtain ⟨h3, hf⟩ := pk_chk hf
    obtain ⟨o4, e5, hf⟩ := pk_bnd hf
    obtain ⟨h6, hf⟩ := pk_chk hf
    refine s_getR X (ci := 10) (k := 0) rfl (Nat.le_of_ble_eq_true rfl) h3 wd1440 (fun _ _ _ => rfl) (e5 ▸ h6) dX10_book_17 (e5 ▸ ?_)
    refine s_sipush X (v := (9857 : Int32)) dX10_book_20 rfl ?_
    obtain ⟨h7, hf⟩ := pk_chk hf
    refine s_iald X h6 h7 dX10_book_23 ?_
    refine s_iconst X (v := (1 : Int32)) dX10_book_24 rfl ?_
    refine s_isub X dX10_book_25 ?_
    obtain ⟨r9, hc8, hf⟩ := pk_obd hf
    refine s_callS X (k_X10_isIn G hc8) wd1520 wd1521 wd1522 wd138 cd_X10_isIn ⟨Nat.le_of_ble_eq_true rfl, Nat.le_of_ble_eq_true rfl⟩ (Nat.le_of_ble_eq_true rfl) dX10_book_26 ?_
    have hs10 := pk_ite hf
    clear hf
    refine s_if_eq X (tgt := 69) dX10_book_29 rfl (fun c11 => ?_) (fun c11 => ?_)
    · have hf := hs10.1 c11
      refine s_bipush X (v := (-2 : Int32)) dX10_book_69 rfl ?_
      cases hf
      exact s_iret X hr hlk dX10_book_71
    · have hf := hs10.2 c11
      refine s_iload_n X 2 dX10_book_32 rfl rfl ?_
      refine s_iconst X (v := (0 : Int32)) dX10_book_33 rfl ?_
      refine s_iconst X (v := (3 : Int32)) dX10_book_34 rfl ?_
      obtain ⟨r13, hc12, hf⟩ := pk_obd hf
      refine s_callS X (k_X10_isIn G hc12) wd1520 wd1521 wd1522 wd138 cd_X10_isIn ⟨Nat.le_of_ble_eq_true rfl, Nat.le_of_ble_eq_true rfl⟩ (Nat.le_of_ble_eq_true rfl) dX10_book_35 ?_
      have hs14 := pk_ite hf
      clear hf
      refine s_if_eq X (tgt := 69) dX10_book_38 rfl (fun c15 => ?_) (fun c15 => ?_)
      · have hf := hs14.1 c15
        refine s_bipush X (v := (-2 : Int32)) dX10_book_69 rfl ?_
        cases hf
        exact s_iret X hr hlk dX10_book_71
      · have hf := hs14.2 c15
        refine s_aload_n X 0 dX10_book_41 rfl rfl ?_
        obtain ⟨o16, e17, hf⟩ := pk_bnd hf
        obtain ⟨h18, hf⟩ := pk_chk hf
        refine s_getR X (ci := 10) (k := 0) rfl (Nat.le_of_ble_eq_true rfl) h3 wd1440 (fun _ _ _ => rfl) (e17 ▸ h18) dX10_book_42 (e17 ▸ ?_)
        refine s_sipush X (v := (9913 : Int32)) dX10_book_45 rfl ?_
        refine s_iconst X (v := (4 : Int32)) dX10_book_48 rfl ?_
        refine s_aload_n X 0 dX10_book_49 rfl rfl ?_
        obtain ⟨o19, e20, hf⟩ := pk_bnd hf
        obtain ⟨h21, hf⟩ := pk_chk hf
        refine s_getR X (ci := 10) (k := 0) rfl (Nat.le_of_ble_eq_true rfl) h3 wd1440 (fun _ _ _ => rfl) (e20 ▸ h21) dX10_book_50 (e20 ▸ ?_)
        refine s_sipush X (v := (9857 : Int32)) dX10_book_53 rfl ?_
        obtain ⟨h22, hf⟩ := pk_chk hf
        refine s_iald X h21 h22 dX10_book_56 ?_
        refine s_iconst X (v := (1 : Int32)) dX10_book_57 rfl ?_
        refine s_isub X dX10_book_58 ?_
        refine s_iload_n X 1 dX10_book_59 rfl rfl ?_
        refine s_isub X dX10_book_60 ?_
        refine s_imul X dX10_book_61 ?_
        refine s_iadd X dX10_book_62 ?_
        refine s_iload_n X 2 dX10_book_63 rfl rfl ?_
        refine s_iadd X dX10_book_64 ?_
        obtain ⟨h23, hf⟩ := pk_chk hf
        refine s_iald X h18 h23 dX10_book_65 ?_
        refine s_goto X (tgt := 71) dX10_book_66 rfl ?_
        cases hf
        exact s_iret X hr hlk dX10_book_71
  · have hf := hs1.1 c2
    refine s_aload_n X 0 dX10_book_5 rfl rfl ?_
    obtain ⟨h24, hf⟩ := pk_chk hf
    obtain ⟨o25, e26, hf⟩ := pk_bnd hf
    obtain ⟨h27, hf⟩ := pk_chk hf
    refine s_getR X (ci := 10) (k := 0) rfl (Nat.le_of_ble_eq_true rfl) h24 wd1440 (fun _ _ _ => rfl) (e26 ▸ h27) dX10_book_6 (e26 ▸ ?_)
    refine s_sipush X (v := (9857 : Int32)) dX10_book_9 rfl ?_
    obtain ⟨h28, hf⟩ := pk_chk hf
    refine s_iald X h27 h28 dX10_book_12 ?_
    cases hf
    exact s_iret X hr hlk dX10_book_13
theorem dX9_waitsFor_0 : decode cX9_waitsFor 0 = .ok (.aload_n 0, 1) := dk_42 (by decide +kernel)
theorem dX9_waitsFor_1 : decode cX9_waitsFor 1 = .ok (.getfield 10, 3) := dk_180 (x := 0) (y := 10) (by decide +kernel) rfl
theorem dX9_waitsFor_4 : decode cX9_waitsFor 4 = .ok (.iload_n 1, 1) := dk_27 (by decide +kernel)
theorem dX9_waitsFor_5 : decode cX9_waitsFor 5 = .ok (.invokevirtual 71, 3) := dk_182 (x := 0) (y := 71) (by decide +kernel) rfl
theorem dX9_waitsFor_8 : decode cX9_waitsFor 8 = .ok (.ifCond .eq 28, 3) := dk_153 (x := 0) (y := 28) (by decide +kernel) rfl
theorem dX9_waitsFor_11 : decode cX9_waitsFor 11 = .ok (.aload_n 0, 1) := dk_42 (by decide +kernel)
theorem dX9_waitsFor_12 : decode cX9_waitsFor 12 = .ok (.getfield 28, 3) := dk_180 (x := 0) (y := 28) (by decide +kernel) rfl
theorem dX9_waitsFor_15 : decode cX9_waitsFor 15 = .ok (.getfield 191, 3) := dk_180 (x := 0) (y := 191) (by decide +kernel) rfl
theorem dX9_waitsFor_18 : decode cX9_waitsFor 18 = .ok (.iload_n 1, 1) := dk_27 (by decide +kernel)
theorem dX9_waitsFor_19 : decode cX9_waitsFor 19 = .ok (.invokestatic 180, 3) := dk_184 (x := 0) (y := 180) (by decide +kernel) rfl
theorem dX9_waitsFor_22 : decode cX9_waitsFor 22 = .ok (.ifCond .eq 14, 3) := dk_153 (x := 0) (y := 14) (by decide +kernel) rfl
theorem dX9_waitsFor_25 : decode cX9_waitsFor 25 = .ok (.aload_n 0, 1) := dk_42 (by decide +kernel)
theorem dX9_waitsFor_26 : decode cX9_waitsFor 26 = .ok (.getfield 28, 3) := dk_180 (x := 0) (y := 28) (by decide +kernel) rfl
theorem dX9_waitsFor_29 : decode cX9_waitsFor 29 = .ok (.iload_n 1, 1) := dk_27 (by decide +kernel)
theorem dX9_waitsFor_30 : decode cX9_waitsFor 30 = .ok (.invokevirtual 298, 3) := dk_182 (x := 1) (y := 42) (by decide +kernel) rfl
theorem dX9_waitsFor_33 : decode cX9_waitsFor 33 = .ok (.goto 4, 3) := dk_167 (x := 0) (y := 4) (by decide +kernel) rfl
theorem dX9_waitsFor_36 : decode cX9_waitsFor 36 = .ok (.iconst (-1), 1) := dk_2 (by decide +kernel)
theorem dX9_waitsFor_37 : decode cX9_waitsFor 37 = .ok (.ireturn, 1) := dk_172 (by decide +kernel)
def f_X9_waitsFor (n : Nat) (o : Nat) (a1 : Int32) (M : Mem) : Option Int32 :=
  chk (isO M 9 o) <|
  bnd (mR M o 0) fun o2 =>
  chk (isO M 7 o2) <|
  obd (f_X7_isNode o2 a1 M) fun r6 =>
  if r6 = 0 then (
    some (-1 : Int32)
    ) else (
    bnd (mR M o 2) fun o9 =>
    chk (isO M 2 o9) <|
    obd (f_X9_has (mI M o9 8) a1 M) fun r13 =>
    if r13 = 0 then (
      some (-1 : Int32)
      ) else (
      bnd (mR M o 2) fun o16 =>
      chk (isO M 2 o16) <|
      obd (f_X2_awaitedBy n o16 a1 M) fun r20 =>
      some r20
      )
    )
theorem cd_X9_waitsFor : (yX9_waitsFor.cls ≠ "java/lang/invoke/MethodHandle" ∧ yX9_waitsFor.cls ≠ "java/lang/invoke/VarHandle") ∧ (parseMethodDescriptor yX9_waitsFor.desc).map (fun d => d.parameters.length) = some 1 := ⟨⟨by decide +kernel, by decide +kernel⟩, by decide +kernel⟩
theorem k_X9_waitsFor (G : Gam) {n : Nat} {o : Nat} {a1 : Int32} {M : Mem} {rv : Int32} (hf : f_X9_waitsFor n o a1 M = some rv) : Kt yX9_waitsFor cX9_waitsFor 2 (some .int) 2 45 G [.ref (gB G + o), .int a1] M M (some (.int rv)) := by
  refine Kt.of (by decide) (Nat.le_of_ble_eq_true rfl) ?_
  intro p l e R s m args below meth c X hr hlk hnm
  refine s_drop [0, 1] (vs' := [(0, .ref (gB G + o)), (1, .int a1)]) rfl ?_
  rw [f_X9_waitsFor] at hf
  refine s_aload_n X 0 dX9_waitsFor_0 rfl rfl ?_
  obtain ⟨h1, hf⟩ := pk_chk hf
  obtain ⟨o2, e3, hf⟩ := pk_bnd hf
  obtain ⟨h4, hf⟩ := pk_chk hf
  refine s_getR X (ci := 9) (k := 0) rfl (Nat.le_of_ble_eq_true rfl) h1 wd627 (fun _ _ _ => rfl) (e3 ▸ h4) dX9_waitsFor_1 (e3 ▸ ?_)
  refine s_iload_n X 1 dX9_waitsFor_4 rfl rfl ?_
  obtain ⟨r6, hc5, hf⟩ := pk_obd hf
  refine s_callV X (ci := 7) (k_X7_isNode G hc5) rfl h4 wd699 wd700 wd701 wd702 wd127 cd_X7_isNode ⟨Nat.le_of_ble_eq_true rfl, Nat.le_of_ble_eq_true rfl⟩ (Nat.le_of_ble_eq_true rfl) dX9_waitsFor_5 ?_
  have hs7 := pk_ite hf
  clear hf
  refine s_if_eq X (tgt := 36) dX9_waitsFor_8 rfl (fun c8 => ?_) (fun c8 => ?_)
  · have hf := hs7.1 c8
    refine s_iconst X (v := (-1 : Int32)) dX9_waitsFor_36 rfl ?_
    cases hf
    exact s_iret X hr hlk dX9_waitsFor_37
  · have hf := hs7.2 c8
    refine s_aload_n X 0 dX9_waitsFor_11 rfl rfl ?_
    obtain ⟨o9, e10, hf⟩ := pk_bnd hf
    obtain ⟨h11, hf⟩ := pk_chk hf
    refine s_getR X (ci := 9) (k := 2) rfl (Nat.le_of_ble_eq_true rfl) h1 wd629 (fun _ _ _ => rfl) (e10 ▸ h11) dX9_waitsFor_12 (e10 ▸ ?_)
    refine s_getI X (ci := 2) (k := 8) rfl (Nat.le_of_ble_eq_true rfl) h11 wd440 (fun _ _ _ => rfl) dX9_waitsFor_15 ?_
    refine s_iload_n X 1 dX9_waitsFor_18 rfl rfl ?_
    obtain ⟨r13, hc12, hf⟩ := pk_obd hf
    refine s_callS X (k_X9_has G hc12) wd966 wd712 wd713 wd126 cd_X9_has ⟨Nat.le_of_ble_eq_true rfl, Nat.le_of_ble_eq_true rfl⟩ (Nat.le_of_ble_eq_true rfl) dX9_waitsFor_19 ?_
    have hs14 := pk_ite hf
    clear hf
    refine s_if_eq X (tgt := 36) dX9_waitsFor_22 rfl (fun c15 => ?_) (fun c15 => ?_)
    · have hf := hs14.1 c15
      refine s_iconst X (v := (-1 : Int32)) dX9_waitsFor_36 rfl ?_
      cases hf
      exact s_iret X hr hlk dX9_waitsFor_37
    · have hf := hs14.2 c15
      refine s_aload_n X 0 dX9_waitsFor_25 rfl rfl ?_
      obtain ⟨o16, e17, hf⟩ := pk_bnd hf
      obtain ⟨h18, hf⟩ := pk_chk hf
      refine s_getR X (ci := 9) (k := 2) rfl (Nat.le_of_ble_eq_true rfl) h1 wd629 (fun _ _ _ => rfl) (e17 ▸ h18) dX9_waitsFor_26 (e17 ▸ ?_)
      refine s_iload_n X 1 dX9_waitsFor_29 rfl rfl ?_
      obtain ⟨r20, hc19, hf⟩ := pk_obd hf
      refine s_callV X (ci := 2) (k_X2_awaitedBy G hc19) rfl h18 wd1196 wd1169 wd1170 wd1171 wd130 cd_X2_awaitedBy ⟨Nat.le_of_ble_eq_true rfl, Nat.le_of_ble_eq_true rfl⟩ (Nat.le_of_ble_eq_true rfl) dX9_waitsFor_30 ?_
      refine s_goto X (tgt := 37) dX9_waitsFor_33 rfl ?_
      cases hf
      exact s_iret X hr hlk dX9_waitsFor_37
theorem dX10_waitsFor_0 : decode cX10_waitsFor 0 = .ok (.aload_n 0, 1) := dk_42 (by decide +kernel)
theorem dX10_waitsFor_1 : decode cX10_waitsFor 1 = .ok (.iload_n 1, 1) := dk_27 (by decide +kernel)
theorem dX10_waitsFor_2 : decode cX10_waitsFor 2 = .ok (.invokevirtual 76, 3) := dk_182 (x := 0) (y := 76) (by decide +kernel) rfl
theorem dX10_waitsFor_5 : decode cX10_waitsFor 5 = .ok (.ifCond .eq 21, 3) := dk_153 (x := 0) (y := 21) (by decide +kernel) rfl
theorem dX10_waitsFor_8 : decode cX10_waitsFor 8 = .ok (.aload_n 0, 1) := dk_42 (by decide +kernel)
theorem dX10_waitsFor_9 : decode cX10_waitsFor 9 = .ok (.iload_n 1, 1) := dk_27 (by decide +kernel)
theorem dX10_waitsFor_10 : decode cX10_waitsFor 10 = .ok (.iconst 0, 1) := dk_3 (by decide +kernel)
theorem dX10_waitsFor_11 : decode cX10_waitsFor 11 = .ok (.invokevirtual 93, 3) := dk_182 (x := 0) (y := 93) (by decide +kernel) rfl
theorem dX10_waitsFor_14 : decode cX10_waitsFor 14 = .ok (.iconst 1, 1) := dk_4 (by decide +kernel)
theorem dX10_waitsFor_15 : decode cX10_waitsFor 15 = .ok (.if_icmp .ne 11, 3) := dk_160 (x := 0) (y := 11) (by decide +kernel) rfl
theorem dX10_waitsFor_18 : decode cX10_waitsFor 18 = .ok (.aload_n 0, 1) := dk_42 (by decide +kernel)
theorem dX10_waitsFor_19 : decode cX10_waitsFor 19 = .ok (.iload_n 1, 1) := dk_27 (by decide +kernel)
theorem dX10_waitsFor_20 : decode cX10_waitsFor 20 = .ok (.invokevirtual 283, 3) := dk_182 (x := 1) (y := 27) (by decide +kernel) rfl
theorem dX10_waitsFor_23 : decode cX10_waitsFor 23 = .ok (.goto 4, 3) := dk_167 (x := 0) (y := 4) (by decide +kernel) rfl
theorem dX10_waitsFor_26 : decode cX10_waitsFor 26 = .ok (.iconst (-1), 1) := dk_2 (by decide +kernel)
theorem dX10_waitsFor_27 : decode cX10_waitsFor 27 = .ok (.ireturn, 1) := dk_172 (by decide +kernel)
def f_X10_waitsFor (n : Nat) (o : Nat) (a1 : Int32) (M : Mem) : Option Int32 :=
  chk (isO M 10 o) <|
  obd (f_X10_isNode o a1 M) fun r3 =>
  if r3 = 0 then (
    some (-1 : Int32)
    ) else (
    obd (f_X10_get o a1 (0 : Int32) M) fun r7 =>
    if r7 = (1 : Int32) then (
      obd (f_X10_waitsNow n o a1 M) fun r11 =>
      some r11
      ) else (
      some (-1 : Int32)
      )
    )
theorem cd_X10_waitsFor : (yX10_waitsFor.cls ≠ "java/lang/invoke/MethodHandle" ∧ yX10_waitsFor.cls ≠ "java/lang/invoke/VarHandle") ∧ (parseMethodDescriptor yX10_waitsFor.desc).map (fun d => d.parameters.length) = some 1 := ⟨⟨by decide +kernel, by decide +kernel⟩, by decide +kernel⟩
theorem k_X10_waitsFor (G : Gam) {n : Nat} {o : Nat} {a1 : Int32} {M : Mem} {rv : Int32} (hf : f_X10_waitsFor n o a1 M = some rv) : Kt yX10_waitsFor cX10_waitsFor 2 (some .int) 2 46 G [.ref (gB G + o), .int a1] M M (some (.int rv)) := by
  refine Kt.of (by decide) (Nat.le_of_ble_eq_true rfl) ?_
  intro p l e R s m args below meth c X hr hlk hnm
  refine s_drop [0, 1] (vs' := [(0, .ref (gB G + o)), (1, .int a1)]) rfl ?_
  rw [f_X10_waitsFor] at hf
  refine s_aload_n X 0 dX10_waitsFor_0 rfl rfl ?_
  refine s_iload_n X 1 dX10_waitsFor_1 rfl rfl ?_
  obtain ⟨h1, hf⟩ := pk_chk hf
  obtain ⟨r3, hc2, hf⟩ := pk_obd hf
  refine s_callV X (ci := 10) (k_X10_isNode G hc2) rfl h1 wd1554 wd1556 wd53 wd1557 wd138 cd_X10_isNode ⟨Nat.le_of_ble_eq_true rfl, Nat.le_of_ble_eq_true rfl⟩ (Nat.le_of_ble_eq_true rfl) dX10_waitsFor_2 ?_
  have hs4 := pk_ite hf
  clear hf
  refine s_if_eq X (tgt := 26) dX10_waitsFor_5 rfl (fun c5 => ?_) (fun c5 => ?_)
  · have hf := hs4.1 c5
    refine s_iconst X (v := (-1 : Int32)) dX10_waitsFor_26 rfl ?_
    cases hf
    exact s_iret X hr hlk dX10_waitsFor_27
  · have hf := hs4.2 c5
    refine s_aload_n X 0 dX10_waitsFor_8 rfl rfl ?_
    refine s_iload_n X 1 dX10_waitsFor_9 rfl rfl ?_
    refine s_iconst X (v := (0 : Int32)) dX10_waitsFor_10 rfl ?_
    obtain ⟨r7, hc6, hf⟩ := pk_obd hf
    refine s_callV X (ci := 10) (k_X10_get G hc6) rfl h1 wd1588 wd1590 wd57 wd1591 wd138 cd_X10_get ⟨Nat.le_of_ble_eq_true rfl, Nat.le_of_ble_eq_true rfl⟩ (Nat.le_of_ble_eq_true rfl) dX10_waitsFor_11 ?_
    refine s_iconst X (v := (1 : Int32)) dX10_waitsFor_14 rfl ?_
    have hs8 := pk_ite hf
    clear hf
    refine s_icmp_ne X (tgt := 26) dX10_waitsFor_15 rfl (fun c9 => ?_) (fun c9 => ?_)
    · have hf := hs8.2 c9
      refine s_iconst X (v := (-1 : Int32)) dX10_waitsFor_26 rfl ?_
      cases hf
      exact s_iret X hr hlk dX10_waitsFor_27
    · have hf := hs8.1 c9
      refine s_aload_n X 0 dX10_waitsFor_18 rfl rfl ?_
      refine s_iload_n X 1 dX10_waitsFor_19 rfl rfl ?_
      obtain ⟨r11, hc10, hf⟩ := pk_obd hf
      refine s_callV X (ci := 10) (k_X10_waitsNow G hc10) rfl h1 wd1886 wd1888 wd101 wd1889 wd138 cd_X10_waitsNow ⟨Nat.le_of_ble_eq_true rfl, Nat.le_of_ble_eq_true rfl⟩ (Nat.le_of_ble_eq_true rfl) dX10_waitsFor_20 ?_
      refine s_goto X (tgt := 27) dX10_waitsFor_23 rfl ?_
      cases hf
      exact s_iret X hr hlk dX10_waitsFor_27
theorem dX9_unheard_0 : decode cX9_unheard 0 = .ok (.aload_n 0, 1) := dk_42 (by decide +kernel)
theorem dX9_unheard_1 : decode cX9_unheard 1 = .ok (.getfield 10, 3) := dk_180 (x := 0) (y := 10) (by decide +kernel) rfl
theorem dX9_unheard_4 : decode cX9_unheard 4 = .ok (.iload_n 1, 1) := dk_27 (by decide +kernel)
theorem dX9_unheard_5 : decode cX9_unheard 5 = .ok (.invokevirtual 71, 3) := dk_182 (x := 0) (y := 71) (by decide +kernel) rfl
theorem dX9_unheard_8 : decode cX9_unheard 8 = .ok (.ifCond .eq 17, 3) := dk_153 (x := 0) (y := 17) (by decide +kernel) rfl
theorem dX9_unheard_11 : decode cX9_unheard 11 = .ok (.aload_n 0, 1) := dk_42 (by decide +kernel)
theorem dX9_unheard_12 : decode cX9_unheard 12 = .ok (.getfield 28, 3) := dk_180 (x := 0) (y := 28) (by decide +kernel) rfl
theorem dX9_unheard_15 : decode cX9_unheard 15 = .ok (.getfield 191, 3) := dk_180 (x := 0) (y := 191) (by decide +kernel) rfl
theorem dX9_unheard_18 : decode cX9_unheard 18 = .ok (.iload_n 1, 1) := dk_27 (by decide +kernel)
theorem dX9_unheard_19 : decode cX9_unheard 19 = .ok (.invokestatic 180, 3) := dk_184 (x := 0) (y := 180) (by decide +kernel) rfl
theorem dX9_unheard_22 : decode cX9_unheard 22 = .ok (.ifCond .ne 5, 3) := dk_154 (x := 0) (y := 5) (by decide +kernel) rfl
theorem dX9_unheard_25 : decode cX9_unheard 25 = .ok (.iconst (-1), 1) := dk_2 (by decide +kernel)
theorem dX9_unheard_26 : decode cX9_unheard 26 = .ok (.ireturn, 1) := dk_172 (by decide +kernel)
theorem dX9_unheard_27 : decode cX9_unheard 27 = .ok (.aload_n 0, 1) := dk_42 (by decide +kernel)
theorem dX9_unheard_28 : decode cX9_unheard 28 = .ok (.getfield 28, 3) := dk_180 (x := 0) (y := 28) (by decide +kernel) rfl
theorem dX9_unheard_31 : decode cX9_unheard 31 = .ok (.getfield 99, 3) := dk_180 (x := 0) (y := 99) (by decide +kernel) rfl
theorem dX9_unheard_34 : decode cX9_unheard 34 = .ok (.iload_n 1, 1) := dk_27 (by decide +kernel)
theorem dX9_unheard_35 : decode cX9_unheard 35 = .ok (.aaload, 1) := dk_50 (by decide +kernel)
theorem dX9_unheard_36 : decode cX9_unheard 36 = .ok (.astore_n 2, 1) := dk_77 (by decide +kernel)
theorem dX9_unheard_37 : decode cX9_unheard 37 = .ok (.aload_n 2, 1) := dk_44 (by decide +kernel)
theorem dX9_unheard_38 : decode cX9_unheard 38 = .ok (.getfield 103, 3) := dk_180 (x := 0) (y := 103) (by decide +kernel) rfl
theorem dX9_unheard_41 : decode cX9_unheard 41 = .ok (.aload_n 2, 1) := dk_44 (by decide +kernel)
theorem dX9_unheard_42 : decode cX9_unheard 42 = .ok (.getfield 212, 3) := dk_180 (x := 0) (y := 212) (by decide +kernel) rfl
theorem dX9_unheard_45 : decode cX9_unheard 45 = .ok (.aload_n 2, 1) := dk_44 (by decide +kernel)
theorem dX9_unheard_46 : decode cX9_unheard 46 = .ok (.getfield 218, 3) := dk_180 (x := 0) (y := 218) (by decide +kernel) rfl
theorem dX9_unheard_49 : decode cX9_unheard 49 = .ok (.ior, 1) := dk_128 (by decide +kernel)
theorem dX9_unheard_50 : decode cX9_unheard 50 = .ok (.iconst (-1), 1) := dk_2 (by decide +kernel)
theorem dX9_unheard_51 : decode cX9_unheard 51 = .ok (.ixor, 1) := dk_130 (by decide +kernel)
theorem dX9_unheard_52 : decode cX9_unheard 52 = .ok (.iand, 1) := dk_126 (by decide +kernel)
theorem dX9_unheard_53 : decode cX9_unheard 53 = .ok (.ireturn, 1) := dk_172 (by decide +kernel)
def f_X9_unheard (o : Nat) (a1 : Int32) (M : Mem) : Option Int32 :=
  chk (isO M 9 o) <|
  bnd (mR M o 0) fun o2 =>
  chk (isO M 7 o2) <|
  obd (f_X7_isNode o2 a1 M) fun r6 =>
  if r6 = 0 then (
    some (-1 : Int32)
    ) else (
    bnd (mR M o 2) fun o9 =>
    chk (isO M 2 o9) <|
    obd (f_X9_has (mI M o9 8) a1 M) fun r13 =>
    if r13 = 0 then (
      some (-1 : Int32)
      ) else (
      bnd (mR M o 2) fun o16 =>
      chk (isO M 2 o16) <|
      bnd (mR M o16 2) fun o19 =>
      chk (isO M 102 o19) <|
      chk (inB a1 (mLn M o19)) <|
      bnd (mR M o19 (a1).toNatClampNeg) fun o23 =>
      chk (isO M 4 o23) <|
      some ((mI M o23 2) &&& (((mI M o23 3) ||| (mI M o23 5)) ^^^ (-1 : Int32)))
      )
    )
theorem cd_X9_unheard : (yX9_unheard.cls ≠ "java/lang/invoke/MethodHandle" ∧ yX9_unheard.cls ≠ "java/lang/invoke/VarHandle") ∧ (parseMethodDescriptor yX9_unheard.desc).map (fun d => d.parameters.length) = some 1 := ⟨⟨by decide +kernel, by decide +kernel⟩, by decide +kernel⟩
theorem k_X9_unheard (G : Gam) {o : Nat} {a1 : Int32} {M : Mem} {rv : Int32} (hf : f_X9_unheard o a1 M = some rv) : Kt yX9_unheard cX9_unheard 3 (some .int) 1 21 G [.ref (gB G + o), .int a1] M M (some (.int rv)) := by
  refine Kt.of (by decide) (Nat.le_of_ble_eq_true rfl) ?_
  intro p l e R s m args below meth c X hr hlk hnm
  refine s_drop [0, 1] (vs' := [(0, .ref (gB G + o)), (1, .int a1)]) rfl ?_
  rw [f_X9_unheard] at hf
  refine s_aload_n X 0 dX9_unheard_0 rfl rfl ?_
  obtain ⟨h1, hf⟩ := pk_chk hf
  obtain ⟨o2, e3, hf⟩ := pk_bnd hf
  obtain ⟨h4, hf⟩ := pk_chk hf
  refine s_getR X (ci := 9) (k := 0) rfl (Nat.le_of_ble_eq_true rfl) h1 wd627 (fun _ _ _ => rfl) (e3 ▸ h4) dX9_unheard_1 (e3 ▸ ?_)
  refine s_iload_n X 1 dX9_unheard_4 rfl rfl ?_
  obtain ⟨r6, hc5, hf⟩ := pk_obd hf
  refine s_callV X (ci := 7) (k_X7_isNode G hc5) rfl h4 wd699 wd700 wd701 wd702 wd127 cd_X7_isNode ⟨Nat.le_of_ble_eq_true rfl, Nat.le_of_ble_eq_true rfl⟩ (Nat.le_of_ble_eq_true rfl) dX9_unheard_5 ?_
  have hs7 := pk_ite hf
  clear hf
  refine s_if_eq X (tgt := 25) dX9_unheard_8 rfl (fun c8 => ?_) (fun c8 => ?_)
  · have hf := hs7.1 c8
    refine s_iconst X (v := (-1 : Int32)) dX9_unheard_25 rfl ?_
    cases hf
    exact s_iret X hr hlk dX9_unheard_26
  · have hf := hs7.2 c8
    refine s_aload_n X 0 dX9_unheard_11 rfl rfl ?_
    obtain ⟨o9, e10, hf⟩ := pk_bnd hf
    obtain ⟨h11, hf⟩ := pk_chk hf
    refine s_getR X (ci := 9) (k := 2) rfl (Nat.le_of_ble_eq_true rfl) h1 wd629 (fun _ _ _ => rfl) (e10 ▸ h11) dX9_unheard_12 (e10 ▸ ?_)
    refine s_getI X (ci := 2) (k := 8) rfl (Nat.le_of_ble_eq_true rfl) h11 wd440 (fun _ _ _ => rfl) dX9_unheard_15 ?_
    refine s_iload_n X 1 dX9_unheard_18 rfl rfl ?_
    obtain ⟨r13, hc12, hf⟩ := pk_obd hf
    refine s_callS X (k_X9_has G hc12) wd966 wd712 wd713 wd126 cd_X9_has ⟨Nat.le_of_ble_eq_true rfl, Nat.le_of_ble_eq_true rfl⟩ (Nat.le_of_ble_eq_true rfl) dX9_unheard_19 ?_
    have hs14 := pk_ite hf
    clear hf
    refine s_if_ne X (tgt := 27) dX9_unheard_22 rfl (fun c15 => ?_) (fun c15 => ?_)
    · have hf := hs14.2 c15
      refine s_aload_n X 0 dX9_unheard_27 rfl rfl ?_
      obtain ⟨o16, e17, hf⟩ := pk_bnd hf
      obtain ⟨h18, hf⟩ := pk_chk hf
      refine s_getR X (ci := 9) (k := 2) rfl (Nat.le_of_ble_eq_true rfl) h1 wd629 (fun _ _ _ => rfl) (e17 ▸ h18) dX9_unheard_28 (e17 ▸ ?_)
      obtain ⟨o19, e20, hf⟩ := pk_bnd hf
      obtain ⟨h21, hf⟩ := pk_chk hf
      refine s_getR X (ci := 2) (k := 2) rfl (Nat.le_of_ble_eq_true rfl) h18 wd426 (fun _ _ _ => rfl) (e20 ▸ h21) dX9_unheard_31 (e20 ▸ ?_)
      refine s_iload_n X 1 dX9_unheard_34 rfl rfl ?_
      obtain ⟨h22, hf⟩ := pk_chk hf
      obtain ⟨o23, e24, hf⟩ := pk_bnd hf
      obtain ⟨h25, hf⟩ := pk_chk hf
      refine s_aald X h21 h22 (e24 ▸ h25) dX9_unheard_35 (e24 ▸ ?_)
      refine s_astore_n X (vs' := [(0, .ref (gB G + o)), (1, .int a1), (2, .ref (gB G + o23))]) dX9_unheard_36 rfl (Nat.le_of_ble_eq_true rfl) [1, 2, 0] rfl ?_
      refine s_aload_n X 2 dX9_unheard_37 rfl rfl ?_
      refine s_getI X (ci := 4) (k := 2) rfl (Nat.le_of_ble_eq_true rfl) h25 wd335 (fun _ _ _ => rfl) dX9_unheard_38 ?_
      refine s_aload_n X 2 dX9_unheard_41 rfl rfl ?_
      refine s_getI X (ci := 4) (k := 3) rfl (Nat.le_of_ble_eq_true rfl) h25 wd340 (fun _ _ _ => rfl) dX9_unheard_42 ?_
      refine s_aload_n X 2 dX9_unheard_45 rfl rfl ?_
      refine s_getI X (ci := 4) (k := 5) rfl (Nat.le_of_ble_eq_true rfl) h25 wd348 (fun _ _ _ => rfl) dX9_unheard_46 ?_
      refine s_ior X dX9_unheard_49 ?_
      refine s_iconst X (v := (-1 : Int32)) dX9_unheard_50 rfl ?_
      refine s_ixor X dX9_unheard_51 ?_
      refine s_iand X dX9_unheard_52 ?_
      cases hf
      exact s_iret X hr hlk dX9_unheard_53
    · have hf := hs14.1 c15
      refine s_iconst X (v := (-1 : Int32)) dX9_unheard_25 rfl ?_
      cases hf
      exact s_iret X hr hlk dX9_unheard_26
theorem dX10_unheard_0 : decode cX10_unheard 0 = .ok (.aload_n 0, 1) := dk_42 (by decide +kernel)
theorem dX10_unheard_1 : decode cX10_unheard 1 = .ok (.iload_n 1, 1) := dk_27 (by decide +kernel)
theorem dX10_unheard_2 : decode cX10_unheard 2 = .ok (.invokevirtual 76, 3) := dk_182 (x := 0) (y := 76) (by decide +kernel) rfl
theorem dX10_unheard_5 : decode cX10_unheard 5 = .ok (.ifCond .eq 13, 3) := dk_153 (x := 0) (y := 13) (by decide +kernel) rfl
theorem dX10_unheard_8 : decode cX10_unheard 8 = .ok (.aload_n 0, 1) := dk_42 (by decide +kernel)
theorem dX10_unheard_9 : decode cX10_unheard 9 = .ok (.iload_n 1, 1) := dk_27 (by decide +kernel)
theorem dX10_unheard_10 : decode cX10_unheard 10 = .ok (.iconst 0, 1) := dk_3 (by decide +kernel)
theorem dX10_unheard_11 : decode cX10_unheard 11 = .ok (.invokevirtual 93, 3) := dk_182 (x := 0) (y := 93) (by decide +kernel) rfl
theorem dX10_unheard_14 : decode cX10_unheard 14 = .ok (.iconst 1, 1) := dk_4 (by decide +kernel)
theorem dX10_unheard_15 : decode cX10_unheard 15 = .ok (.if_icmp .eq 5, 3) := dk_159 (x := 0) (y := 5) (by decide +kernel) rfl
theorem dX10_unheard_18 : decode cX10_unheard 18 = .ok (.iconst (-1), 1) := dk_2 (by decide +kernel)
theorem dX10_unheard_19 : decode cX10_unheard 19 = .ok (.ireturn, 1) := dk_172 (by decide +kernel)
theorem dX10_unheard_20 : decode cX10_unheard 20 = .ok (.aload_n 0, 1) := dk_42 (by decide +kernel)
theorem dX10_unheard_21 : decode cX10_unheard 21 = .ok (.iload_n 1, 1) := dk_27 (by decide +kernel)
theorem dX10_unheard_22 : decode cX10_unheard 22 = .ok (.iconst 3, 1) := dk_6 (by decide +kernel)
theorem dX10_unheard_23 : decode cX10_unheard 23 = .ok (.invokevirtual 93, 3) := dk_182 (x := 0) (y := 93) (by decide +kernel) rfl
theorem dX10_unheard_26 : decode cX10_unheard 26 = .ok (.aload_n 0, 1) := dk_42 (by decide +kernel)
theorem dX10_unheard_27 : decode cX10_unheard 27 = .ok (.iload_n 1, 1) := dk_27 (by decide +kernel)
theorem dX10_unheard_28 : decode cX10_unheard 28 = .ok (.iconst 4, 1) := dk_7 (by decide +kernel)
theorem dX10_unheard_29 : decode cX10_unheard 29 = .ok (.invokevirtual 93, 3) := dk_182 (x := 0) (y := 93) (by decide +kernel) rfl
theorem dX10_unheard_32 : decode cX10_unheard 32 = .ok (.iconst (-1), 1) := dk_2 (by decide +kernel)
theorem dX10_unheard_33 : decode cX10_unheard 33 = .ok (.ixor, 1) := dk_130 (by decide +kernel)
theorem dX10_unheard_34 : decode cX10_unheard 34 = .ok (.iand, 1) := dk_126 (by decide +kernel)
theorem dX10_unheard_35 : decode cX10_unheard 35 = .ok (.aload_n 0, 1) := dk_42 (by decide +kernel)
theorem dX10_unheard_36 : decode cX10_unheard 36 = .ok (.iload_n 1, 1) := dk_27 (by decide +kernel)
theorem dX10_unheard_37 : decode cX10_unheard 37 = .ok (.bipush 6, 2) := dk_16 (x := 6) (by decide +kernel) rfl
theorem dX10_unheard_39 : decode cX10_unheard 39 = .ok (.invokevirtual 93, 3) := dk_182 (x := 0) (y := 93) (by decide +kernel) rfl
theorem dX10_unheard_42 : decode cX10_unheard 42 = .ok (.iconst (-1), 1) := dk_2 (by decide +kernel)
theorem dX10_unheard_43 : decode cX10_unheard 43 = .ok (.ixor, 1) := dk_130 (by decide +kernel)
theorem dX10_unheard_44 : decode cX10_unheard 44 = .ok (.iand, 1) := dk_126 (by decide +kernel)
theorem dX10_unheard_45 : decode cX10_unheard 45 = .ok (.ireturn, 1) := dk_172 (by decide +kernel)
def f_X10_unheard (o : Nat) (a1 : Int32) (M : Mem) : Option Int32 :=
  chk (isO M 10 o) <|
  obd (f_X10_isNode o a1 M) fun r3 =>
  if r3 = 0 then (
    some (-1 : Int32)
    ) else (
    obd (f_X10_get o a1 (0 : Int32) M) fun r7 =>
    if r7 = (1 : Int32) then (
      obd (f_X10_get o a1 (3 : Int32) M) fun r11 =>
      obd (f_X10_get o a1 (4 : Int32) M) fun r13 =>
      obd (f_X10_get o a1 (6 : Int32) M) fun r15 =>
      some ((r11 &&& (r13 ^^^ (-1 : Int32))) &&& (r15 ^^^ (-1 : Int32)))
      ) else (
      some (-1 : Int32)
      )
    )
theorem cd_X10_unheard : (yX10_unheard.cls ≠ "java/lang/invoke/MethodHandle" ∧ yX10_unheard.cls ≠ "java/lang/invoke/VarHandle") ∧ (parseMethodDescriptor yX10_unheard.desc).map (fun d => d.parameters.length) = some 1 := ⟨⟨by decide +kernel, by decide +kernel⟩, by decide +kernel⟩
theorem k_X10_unheard (G : Gam) {o : Nat} {a1 : Int32} {M : Mem} {rv : Int32} (hf : f_X10_unheard o a1 M = some rv) : Kt yX10_unheard cX10_unheard 2 (some .int) 2 43 G [.ref (gB G + o), .int a1] M M (some (.int rv)) := by
  refine Kt.of (by decide) (Nat.le_of_ble_eq_true rfl) ?_
  intro p l e R s m args below meth c X hr hlk hnm
  refine s_drop [0, 1] (vs' := [(0, .ref (gB G + o)), (1, .int a1)]) rfl ?_
  rw [f_X10_unheard] at hf
  refine s_aload_n X 0 dX10_unheard_0 rfl rfl ?_
  refine s_iload_n X 1 dX10_unheard_1 rfl rfl ?_
  obtain ⟨h1, hf⟩ := pk_chk hf
  obtain ⟨r3, hc2, hf⟩ := pk_obd hf
  refine s_callV X (ci := 10) (k_X10_isNode G hc2) rfl h1 wd1554 wd1556 wd53 wd1557 wd138 cd_X10_isNode ⟨Nat.le_of_ble_eq_true rfl, Nat.le_of_ble_eq_true rfl⟩ (Nat.le_of_ble_eq_true rfl) dX10_unheard_2 ?_
  have hs4 := pk_ite hf
  clear hf
  refine s_if_eq X (tgt := 18) dX10_unheard_5 rfl (fun c5 => ?_) (fun c5 => ?_)
  · have hf := hs4.1 c5
    refine s_iconst X (v := (-1 : Int32)) dX10_unheard_18 rfl ?_
    cases hf
    exact s_iret X hr hlk dX10_unheard_19
  · have hf := hs4.2 c5
    refine s_aload_n X 0 dX10_unheard_8 rfl rfl ?_
    refine s_iload_n X 1 dX10_unheard_9 rfl rfl ?_
    refine s_iconst X (v := (0 : Int32)) dX10_unheard_10 rfl ?_
    obtain ⟨r7, hc6, hf⟩ := pk_obd hf
    refine s_callV X (ci := 10) (k_X10_get G hc6) rfl h1 wd1588 wd1590 wd57 wd1591 wd138 cd_X10_get ⟨Nat.le_of_ble_eq_true rfl, Nat.le_of_ble_eq_true rfl⟩ (Nat.le_of_ble_eq_true rfl) dX10_unheard_11 ?_
    refine s_iconst X (v := (1 : Int32)) dX10_unheard_14 rfl ?_
    have hs8 := pk_ite hf
    clear hf
    refine s_icmp_eq X (tgt := 20) dX10_unheard_15 rfl (fun c9 => ?_) (fun c9 => ?_)
    · have hf := hs8.1 c9
      refine s_aload_n X 0 dX10_unheard_20 rfl rfl ?_
      refine s_iload_n X 1 dX10_unheard_21 rfl rfl ?_
      refine s_iconst X (v := (3 : Int32)) dX10_unheard_22 rfl ?_
      obtain ⟨r11, hc10, hf⟩ := pk_obd hf
      refine s_callV X (ci := 10) (k_X10_get G hc10) rfl h1 wd1588 wd1590 wd57 wd1591 wd138 cd_X10_get ⟨Nat.le_of_ble_eq_true rfl, Nat.le_of_ble_eq_true rfl⟩ (Nat.le_of_ble_eq_true rfl) dX10_unheard_23 ?_
      refine s_aload_n X 0 dX10_unheard_26 rfl rfl ?_
      refine s_iload_n X 1 dX10_unheard_27 rfl rfl ?_
      refine s_iconst X (v := (4 : Int32)) dX10_unheard_28 rfl ?_
      obtain ⟨r13, hc12, hf⟩ := pk_obd hf
      refine s_callV X (ci := 10) (k_X10_get G hc12) rfl h1 wd1588 wd1590 wd57 wd1591 wd138 cd_X10_get ⟨Nat.le_of_ble_eq_true rfl, Nat.le_of_ble_eq_true rfl⟩ (Nat.le_of_ble_eq_true rfl) dX10_unheard_29 ?_
      refine s_iconst X (v := (-1 : Int32)) dX10_unheard_32 rfl ?_
      refine s_ixor X dX10_unheard_33 ?_
      refine s_iand X dX10_unheard_34 ?_
      refine s_aload_n X 0 dX10_unheard_35 rfl rfl ?_
      refine s_iload_n X 1 dX10_unheard_36 rfl rfl ?_
      refine s_bipush X (v := (6 : Int32)) dX10_unheard_37 rfl ?_
      obtain ⟨r15, hc14, hf⟩ := pk_obd hf
      refine s_callV X (ci := 10) (k_X10_get G hc14) rfl h1 wd1588 wd1590 wd57 wd1591 wd138 cd_X10_get ⟨Nat.le_of_ble_eq_true rfl, Nat.le_of_ble_eq_true rfl⟩ (Nat.le_of_ble_eq_true rfl) dX10_unheard_39 ?_
      refine s_iconst X (v := (-1 : Int32)) dX10_unheard_42 rfl ?_
      refine s_ixor X dX10_unheard_43 ?_
      refine s_iand X dX10_unheard_44 ?_
      cases hf
      exact s_iret X hr hlk dX10_unheard_45
    · have hf := hs8.2 c9
      refine s_iconst X (v := (-1 : Int32)) dX10_unheard_18 rfl ?_
      cases hf
      exact s_iret X hr hlk dX10_unheard_19
